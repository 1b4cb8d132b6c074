/-! PictureHeapModel.done(I)I (X6_done) -/
set_option maxHeartbeats 1000000 in
set_option maxRecDepth 100000 in
theorem c_X6_done (l : Launch) (D : va_G) (cI : ClassId) (q : Nat → Nat) (sz : Nat) (σ : St) (x1 : Int32) (post : Int32 → St → Prop) (hw : w_X6_done σ x1 post) : Ci l yX6_done wsX6_done 0 0 D cI (wM cI q σ) sz [.ref (q 0), .int x1] (wM cI q) post := by
  refine mo_i (cc := cX6_done) (maxL := 2) (ret := (some .int)) (by decide) rfl (Nat.le_of_ble_eq_true rfl) ?_
  intro p e s m below meth c hx hb hr hml hts hown hlocks hK A hA hC ls hl
  have hown : s.vm.findClass RX6 = some m.cls := hown
  have hl : lv_has ls 2 [(0, .ref (q 0)), (1, .int x1)] := hl
  have u1 : (Cond.fieldLink RX6 77 "PictureHeapModel" "trouble" "I").before [.ref (q 0), .int x1].toArray s = true := hts _ (List.mem_of_getElem? (i := 1) rfl)
  have iX6 : ∀ w ∈ wsX60, w ∈ wsX6_done := fun _ h => List.mem_cons_of_mem _ (List.mem_append_right _ h)
  refine lv_aload_n hx hb dX6_done_0 rfl (lv_at hl 0 rfl) ?_
  refine lv_iconst (v := 0) hx hb dX6_done_1 (by decide) ?_
  refine cx_put (v := .int 0) hx hb hts iX6 tyX6 tyX6_ok nmX6 hown hK hC 0 rfl rfl 1 (by decide) u1 rfl rfl (tyX6_ok 1 (by decide)) rfl rfl (Nat.le_of_ble_eq_true rfl) dX6_done_2 (ws' := (wM cI q ((va_up σ.1 1 0), σ.2))) (wM_i1 cI q _ _) (fun H locs hC => ?_)
  refine lv_iload_n hx hb dX6_done_5 rfl (lv_at hl 1 rfl) ?_
  exact cx_ret_i (u := ((va_up σ.1 1 0), σ.2)) hx hb hr hlocks hK hC hw dX6_done_6

/-! PictureHeapModel.refused(I)I (X6_refused) -/
set_option maxHeartbeats 1000000 in
set_option maxRecDepth 100000 in
theorem c_X6_refused (l : Launch) (D : va_G) (cI : ClassId) (q : Nat → Nat) (sz : Nat) (σ : St) (x1 : Int32) (post : Int32 → St → Prop) (hw : w_X6_refused σ x1 post) : Ci l yX6_refused wsX6_refused 0 0 D cI (wM cI q σ) sz [.ref (q 0), .int x1] (wM cI q) post := by
  refine mo_i (cc := cX6_refused) (maxL := 2) (ret := (some .int)) (by decide) rfl (Nat.le_of_ble_eq_true rfl) ?_
  intro p e s m below meth c hx hb hr hml hts hown hlocks hK A hA hC ls hl
  have hown : s.vm.findClass RX6 = some m.cls := hown
  have hl : lv_has ls 2 [(0, .ref (q 0)), (1, .int x1)] := hl
  have u1 : (Cond.fieldLink RX6 77 "PictureHeapModel" "trouble" "I").before [.ref (q 0), .int x1].toArray s = true := hts _ (List.mem_of_getElem? (i := 1) rfl)
  have iX6 : ∀ w ∈ wsX60, w ∈ wsX6_refused := fun _ h => List.mem_cons_of_mem _ (List.mem_append_right _ h)
  refine lv_aload_n hx hb dX6_refused_0 rfl (lv_at hl 0 rfl) ?_
  refine lv_iload_n hx hb dX6_refused_1 rfl (lv_at hl 1 rfl) ?_
  refine cx_put (v := .int x1) hx hb hts iX6 tyX6 tyX6_ok nmX6 hown hK hC 0 rfl rfl 1 (by decide) u1 rfl rfl (tyX6_ok 1 (by decide)) rfl rfl (Nat.le_of_ble_eq_true rfl) dX6_refused_2 (ws' := (wM cI q ((va_up σ.1 1 x1), σ.2))) (wM_i1 cI q _ _) (fun H locs hC => ?_)
  refine lv_iconst (v := (-1)) hx hb dX6_refused_5 (by decide) ?_
  exact cx_ret_i (u := ((va_up σ.1 1 x1), σ.2)) hx hb hr hlocks hK hC hw dX6_refused_6

/-! PictureHeapModel.camera()I (X6_camera) -/
set_option maxHeartbeats 1000000 in
set_option maxRecDepth 100000 in
theorem c_X6_camera (l : Launch) (D : va_G) (cI : ClassId) (q : Nat → Nat) (sz : Nat) (σ : St) (post : Int32 → St → Prop) (hw : w_X6_camera σ post) : Ci l yX6_camera wsX6_camera 1 21 D cI (wM cI q σ) sz [.ref (q 0)] (wM cI q) post := by
  refine mo_i (cc := cX6_camera) (maxL := 1) (ret := (some .int)) (by decide) rfl (Nat.le_of_ble_eq_true rfl) ?_
  intro p e s m below meth c hx hb hr hml hts hown hlocks hK A hA hC ls hl
  have hown : s.vm.findClass RX6 = some m.cls := hown
  have hl : lv_has ls 1 [(0, .ref (q 0))] := hl
  have u1 : (Cond.fieldLink RX6 74 "PictureHeapModel" "thrown" "I").before [.ref (q 0)].toArray s = true := hts _ (List.mem_of_getElem? (i := 1) rfl)
  have u2 : (Cond.fieldLink RX6 80 "PictureHeapModel" "cameras" "I").before [.ref (q 0)].toArray s = true := hts _ (List.mem_of_getElem? (i := 2) rfl)
  have iX6 : ∀ w ∈ wsX60, w ∈ wsX6_camera := fun _ h => List.mem_cons_of_mem _ (List.mem_append_right _ h)
  refine lv_aload_n hx hb dX6_camera_0 rfl (lv_at hl 0 rfl) ?_
  refine lv_iconst (v := 0) hx hb dX6_camera_1 (by decide) ?_
  refine cx_put (v := .int 0) hx hb hts iX6 tyX6 tyX6_ok nmX6 hown hK hC 0 rfl rfl 0 (by decide) u1 rfl rfl (tyX6_ok 0 (by decide)) rfl rfl (Nat.le_of_ble_eq_true rfl) dX6_camera_2 (ws' := (wM cI q ((va_up σ.1 0 0), σ.2))) (wM_i0 cI q _ _) (fun H locs hC => ?_)
  refine lv_aload_n hx hb dX6_camera_5 rfl (lv_at hl 0 rfl) ?_
  refine cx_get (v := .int (σ.1 2)) hx hb hts iX6 hown hK hC 0 rfl rfl 2 (by decide) u2 rfl rfl dX6_camera_6 ?_
  refine lv_bipush (v := 8) hx hb dX6_camera_9 (by decide) ?_
  refine lv_icmp_ne (tgt := 20) hx hb dX6_camera_11 (by decide) (fun c_1 => ?_) (fun c_1 => ?_)
  · have hw := hw.1 c_1
    refine lv_aload_n hx hb dX6_camera_20 rfl (lv_at hl 0 rfl) ?_
    refine lv_dup hx hb dX6_camera_21 rfl ?_
    refine cx_get (v := .int (σ.1 2)) hx hb hts iX6 hown hK hC 0 rfl rfl 2 (by decide) u2 rfl rfl dX6_camera_22 ?_
    refine lv_iconst (v := 1) hx hb dX6_camera_25 (by decide) ?_
    refine lv_iadd hx hb dX6_camera_26 ?_
    refine cx_put (v := .int ((σ.1 2) + 1)) hx hb hts iX6 tyX6 tyX6_ok nmX6 hown hK hC 0 rfl rfl 2 (by decide) u2 rfl rfl (tyX6_ok 2 (by decide)) rfl rfl (Nat.le_of_ble_eq_true rfl) dX6_camera_27 (ws' := (wM cI q ((va_up (va_up σ.1 0 0) 2 ((σ.1 2) + 1)), σ.2))) (wM_i2 cI q _ _) (fun H locs hC => ?_)
    refine lv_aload_n hx hb dX6_camera_30 rfl (lv_at hl 0 rfl) ?_
    refine lv_aload_n hx hb dX6_camera_31 rfl (lv_at hl 0 rfl) ?_
    refine cx_get (v := .int ((σ.1 2) + 1)) hx hb hts iX6 hown hK hC 0 rfl rfl 2 (by decide) u2 rfl rfl dX6_camera_32 ?_
    refine lv_iconst (v := 1) hx hb dX6_camera_35 (by decide) ?_
    refine lv_isub hx hb dX6_camera_36 ?_
    refine cx_callVi0 (As := [.int (((σ.1 2) + 1) - 1)]) (rest := []) ⟨hx, hb, hml, hown, hts⟩ (c_X6_done l D cI q _ ((va_up (va_up σ.1 0 0) 2 ((σ.1 2) + 1)), σ.2) (((σ.1 2) + 1) - 1) _ hw) (cwV 1 hts gX6_camera_X6_done rfl rfl rfl (by decide +kernel) ⟨Nat.le_of_ble_eq_true rfl, Nat.le_of_ble_eq_true rfl⟩) hK hC hA 0 rfl rfl rfl rfl hl.1 rfl (Nat.le_of_ble_eq_true rfl) dX6_camera_37 ⟨Nat.zero_le _, Nat.zero_le _⟩ (fun r_2 u_3 H locs hw hC => ?_)
    exact cx_ret_i (u := u_3) hx hb hr hlocks hK hC hw dX6_camera_40
  · have hw := hw.2 c_1
    refine lv_aload_n hx hb dX6_camera_14 rfl (lv_at hl 0 rfl) ?_
    refine lv_iconst (v := 3) hx hb dX6_camera_15 (by decide) ?_
    refine cx_callVi0 (As := [.int 3]) (rest := []) ⟨hx, hb, hml, hown, hts⟩ (c_X6_refused l D cI q _ ((va_up σ.1 0 0), σ.2) 3 _ hw) (cwV 1 hts gX6_camera_X6_refused rfl rfl rfl (by decide +kernel) ⟨Nat.le_of_ble_eq_true rfl, Nat.le_of_ble_eq_true rfl⟩) hK hC hA 0 rfl rfl rfl rfl hl.1 rfl (Nat.le_of_ble_eq_true rfl) dX6_camera_16 ⟨Nat.zero_le _, Nat.zero_le _⟩ (fun r_4 u_5 H locs hw hC => ?_)
    exact cx_ret_i (u := u_5) hx hb hr hlocks hK hC hw dX6_camera_19

/-! PictureHeapModel.place()I (X6_place) -/
set_option maxHeartbeats 1000000 in
set_option maxRecDepth 100000 in
theorem c_X6_place (l : Launch) (D : va_G) (cI : ClassId) (q : Nat → Nat) (sz : Nat) (σ : St) (post : Int32 → St → Prop) (hw : w_X6_place σ post) : Ci l yX6_place wsX6_place 1 21 D cI (wM cI q σ) sz [.ref (q 0)] (wM cI q) post := by
  refine mo_i (cc := cX6_place) (maxL := 1) (ret := (some .int)) (by decide) rfl (Nat.le_of_ble_eq_true rfl) ?_
  intro p e s m below meth c hx hb hr hml hts hown hlocks hK A hA hC ls hl
  have hown : s.vm.findClass RX6 = some m.cls := hown
  have hl : lv_has ls 1 [(0, .ref (q 0))] := hl
  have u1 : (Cond.fieldLink RX6 74 "PictureHeapModel" "thrown" "I").before [.ref (q 0)].toArray s = true := hts _ (List.mem_of_getElem? (i := 1) rfl)
  have u2 : (Cond.fieldLink RX6 90 "PictureHeapModel" "places" "I").before [.ref (q 0)].toArray s = true := hts _ (List.mem_of_getElem? (i := 2) rfl)
  have iX6 : ∀ w ∈ wsX60, w ∈ wsX6_place := fun _ h => List.mem_cons_of_mem _ (List.mem_append_right _ h)
  refine lv_aload_n hx hb dX6_place_0 rfl (lv_at hl 0 rfl) ?_
  refine lv_iconst (v := 0) hx hb dX6_place_1 (by decide) ?_
  refine cx_put (v := .int 0) hx hb hts iX6 tyX6 tyX6_ok nmX6 hown hK hC 0 rfl rfl 0 (by decide) u1 rfl rfl (tyX6_ok 0 (by decide)) rfl rfl (Nat.le_of_ble_eq_true rfl) dX6_place_2 (ws' := (wM cI q ((va_up σ.1 0 0), σ.2))) (wM_i0 cI q _ _) (fun H locs hC => ?_)
  refine lv_aload_n hx hb dX6_place_5 rfl (lv_at hl 0 rfl) ?_
  refine cx_get (v := .int (σ.1 3)) hx hb hts iX6 hown hK hC 0 rfl rfl 3 (by decide) u2 rfl rfl dX6_place_6 ?_
  refine lv_bipush (v := 10) hx hb dX6_place_9 (by decide) ?_
  refine lv_icmp_ne (tgt := 20) hx hb dX6_place_11 (by decide) (fun c_1 => ?_) (fun c_1 => ?_)
  · have hw := hw.1 c_1
    refine lv_aload_n hx hb dX6_place_20 rfl (lv_at hl 0 rfl) ?_
    refine lv_dup hx hb dX6_place_21 rfl ?_
    refine cx_get (v := .int (σ.1 3)) hx hb hts iX6 hown hK hC 0 rfl rfl 3 (by decide) u2 rfl rfl dX6_place_22 ?_
    refine lv_iconst (v := 1) hx hb dX6_place_25 (by decide) ?_
    refine lv_iadd hx hb dX6_place_26 ?_
    refine cx_put (v := .int ((σ.1 3) + 1)) hx hb hts iX6 tyX6 tyX6_ok nmX6 hown hK hC 0 rfl rfl 3 (by decide) u2 rfl rfl (tyX6_ok 3 (by decide)) rfl rfl (Nat.le_of_ble_eq_true rfl) dX6_place_27 (ws' := (wM cI q ((va_up (va_up σ.1 0 0) 3 ((σ.1 3) + 1)), σ.2))) (wM_i3 cI q _ _) (fun H locs hC => ?_)
    refine lv_aload_n hx hb dX6_place_30 rfl (lv_at hl 0 rfl) ?_
    refine lv_aload_n hx hb dX6_place_31 rfl (lv_at hl 0 rfl) ?_
    refine cx_get (v := .int ((σ.1 3) + 1)) hx hb hts iX6 hown hK hC 0 rfl rfl 3 (by decide) u2 rfl rfl dX6_place_32 ?_
    refine lv_iconst (v := 1) hx hb dX6_place_35 (by decide) ?_
    refine lv_isub hx hb dX6_place_36 ?_
    refine cx_callVi0 (As := [.int (((σ.1 3) + 1) - 1)]) (rest := []) ⟨hx, hb, hml, hown, hts⟩ (c_X6_done l D cI q _ ((va_up (va_up σ.1 0 0) 3 ((σ.1 3) + 1)), σ.2) (((σ.1 3) + 1) - 1) _ hw) (cwV 1 hts gX6_place_X6_done rfl rfl rfl (by decide +kernel) ⟨Nat.le_of_ble_eq_true rfl, Nat.le_of_ble_eq_true rfl⟩) hK hC hA 0 rfl rfl rfl rfl hl.1 rfl (Nat.le_of_ble_eq_true rfl) dX6_place_37 ⟨Nat.zero_le _, Nat.zero_le _⟩ (fun r_2 u_3 H locs hw hC => ?_)
    exact cx_ret_i (u := u_3) hx hb hr hlocks hK hC hw dX6_place_40
  · have hw := hw.2 c_1
    refine lv_aload_n hx hb dX6_place_14 rfl (lv_at hl 0 rfl) ?_
    refine lv_iconst (v := 3) hx hb dX6_place_15 (by decide) ?_
    refine cx_callVi0 (As := [.int 3]) (rest := []) ⟨hx, hb, hml, hown, hts⟩ (c_X6_refused l D cI q _ ((va_up σ.1 0 0), σ.2) 3 _ hw) (cwV 1 hts gX6_place_X6_refused rfl rfl rfl (by decide +kernel) ⟨Nat.le_of_ble_eq_true rfl, Nat.le_of_ble_eq_true rfl⟩) hK hC hA 0 rfl rfl rfl rfl hl.1 rfl (Nat.le_of_ble_eq_true rfl) dX6_place_16 ⟨Nat.zero_le _, Nat.zero_le _⟩ (fun r_4 u_5 H locs hw hC => ?_)
    exact cx_ret_i (u := u_5) hx hb hr hlocks hK hC hw dX6_place_19

/-! PictureHeapModel.isPlace(I)Z (X6_isPlace) -/
set_option maxHeartbeats 1000000 in
set_option maxRecDepth 100000 in
theorem c_X6_isPlace (l : Launch) (D : va_G) (cI : ClassId) (q : Nat → Nat) (sz : Nat) (σ : St) (x1 : Int32) (post : Int32 → St → Prop) (hw : w_X6_isPlace σ x1 post) : Ci l yX6_isPlace wsX6_isPlace 0 0 D cI (wM cI q σ) sz [.ref (q 0), .int x1] (wM cI q) post := by
  refine mo_i (cc := cX6_isPlace) (maxL := 2) (ret := (some .boolean)) (by decide) rfl (Nat.le_of_ble_eq_true rfl) ?_
  intro p e s m below meth c hx hb hr hml hts hown hlocks hK A hA hC ls hl
  have hown : s.vm.findClass RX6 = some m.cls := hown
  have hl : lv_has ls 2 [(0, .ref (q 0)), (1, .int x1)] := hl
  have u1 : (Cond.fieldLink RX6 90 "PictureHeapModel" "places" "I").before [.ref (q 0), .int x1].toArray s = true := hts _ (List.mem_of_getElem? (i := 1) rfl)
  have iX6 : ∀ w ∈ wsX60, w ∈ wsX6_isPlace := fun _ h => List.mem_cons_of_mem _ (List.mem_append_right _ h)
  refine lv_iload_n hx hb dX6_isPlace_0 rfl (lv_at hl 1 rfl) ?_
  refine lv_if_lt (tgt := 16) hx hb dX6_isPlace_1 (by decide) (fun c_1 => ?_) (fun c_1 => ?_)
  · have hw := hw.1 c_1
    refine lv_iconst (v := 0) hx hb dX6_isPlace_16 (by decide) ?_
    exact cx_ret_z (u := σ) hx hb hr hlocks hK hC rfl hw dX6_isPlace_17
  · have hw := hw.2 c_1
    refine lv_iload_n hx hb dX6_isPlace_4 rfl (lv_at hl 1 rfl) ?_
    refine lv_aload_n hx hb dX6_isPlace_5 rfl (lv_at hl 0 rfl) ?_
    refine cx_get (v := .int (σ.1 3)) hx hb hts iX6 hown hK hC 0 rfl rfl 3 (by decide) u1 rfl rfl dX6_isPlace_6 ?_
    refine lv_icmp_ge (tgt := 16) hx hb dX6_isPlace_9 (by decide) (fun c_2 => ?_) (fun c_2 => ?_)
    · have hw := hw.1 c_2
      refine lv_iconst (v := 0) hx hb dX6_isPlace_16 (by decide) ?_
      exact cx_ret_z (u := σ) hx hb hr hlocks hK hC rfl hw dX6_isPlace_17
    · have hw := hw.2 c_2
      refine lv_iconst (v := 1) hx hb dX6_isPlace_12 (by decide) ?_
      refine lv_goto (tgt := 17) hx hb dX6_isPlace_13 (by decide) ?_
      exact cx_ret_z (u := σ) hx hb hr hlocks hK hC rfl hw dX6_isPlace_17

/-! PictureHeapModel.denied(I)Z (X6_denied) -/
set_option maxHeartbeats 1000000 in
set_option maxRecDepth 100000 in
theorem c_X6_denied (l : Launch) (D : va_G) (cI : ClassId) (q : Nat → Nat) (sz : Nat) (σ : St) (x1 : Int32) (post : Int32 → St → Prop) (hw : w_X6_denied σ x1 post) : Ci l yX6_denied wsX6_denied 0 0 D cI (wM cI q σ) sz [.ref (q 0), .int x1] (wM cI q) post := by
  refine mo_i (cc := cX6_denied) (maxL := 2) (ret := (some .boolean)) (by decide) rfl (Nat.le_of_ble_eq_true rfl) ?_
  intro p e s m below meth c hx hb hr hml hts hown hlocks hK A hA hC ls hl
  have hown : s.vm.findClass RX6 = some m.cls := hown
  have hl : lv_has ls 2 [(0, .ref (q 0)), (1, .int x1)] := hl
  have u1 : (Cond.fieldLink RX6 77 "PictureHeapModel" "trouble" "I").before [.ref (q 0), .int x1].toArray s = true := hts _ (List.mem_of_getElem? (i := 1) rfl)
  have iX6 : ∀ w ∈ wsX60, w ∈ wsX6_denied := fun _ h => List.mem_cons_of_mem _ (List.mem_append_right _ h)
  refine lv_aload_n hx hb dX6_denied_0 rfl (lv_at hl 0 rfl) ?_
  refine lv_iload_n hx hb dX6_denied_1 rfl (lv_at hl 1 rfl) ?_
  refine cx_put (v := .int x1) hx hb hts iX6 tyX6 tyX6_ok nmX6 hown hK hC 0 rfl rfl 1 (by decide) u1 rfl rfl (tyX6_ok 1 (by decide)) rfl rfl (Nat.le_of_ble_eq_true rfl) dX6_denied_2 (ws' := (wM cI q ((va_up σ.1 1 x1), σ.2))) (wM_i1 cI q _ _) (fun H locs hC => ?_)
  refine lv_iconst (v := 0) hx hb dX6_denied_5 (by decide) ?_
  exact cx_ret_z (u := ((va_up σ.1 1 x1), σ.2)) hx hb hr hlocks hK hC rfl hw dX6_denied_6

/-! PictureHeapModel.granted()Z (X6_granted) -/
set_option maxHeartbeats 1000000 in
set_option maxRecDepth 100000 in
theorem c_X6_granted (l : Launch) (D : va_G) (cI : ClassId) (q : Nat → Nat) (sz : Nat) (σ : St) (post : Int32 → St → Prop) (hw : w_X6_granted σ post) : Ci l yX6_granted wsX6_granted 0 0 D cI (wM cI q σ) sz [.ref (q 0)] (wM cI q) post := by
  refine mo_i (cc := cX6_granted) (maxL := 1) (ret := (some .boolean)) (by decide) rfl (Nat.le_of_ble_eq_true rfl) ?_
  intro p e s m below meth c hx hb hr hml hts hown hlocks hK A hA hC ls hl
  have hown : s.vm.findClass RX6 = some m.cls := hown
  have hl : lv_has ls 1 [(0, .ref (q 0))] := hl
  have u1 : (Cond.fieldLink RX6 77 "PictureHeapModel" "trouble" "I").before [.ref (q 0)].toArray s = true := hts _ (List.mem_of_getElem? (i := 1) rfl)
  have iX6 : ∀ w ∈ wsX60, w ∈ wsX6_granted := fun _ h => List.mem_cons_of_mem _ (List.mem_append_right _ h)
  refine lv_aload_n hx hb dX6_granted_0 rfl (lv_at hl 0 rfl) ?_
  refine lv_iconst (v := 0) hx hb dX6_granted_1 (by decide) ?_
  refine cx_put (v := .int 0) hx hb hts iX6 tyX6 tyX6_ok nmX6 hown hK hC 0 rfl rfl 1 (by decide) u1 rfl rfl (tyX6_ok 1 (by decide)) rfl rfl (Nat.le_of_ble_eq_true rfl) dX6_granted_2 (ws' := (wM cI q ((va_up σ.1 1 0), σ.2))) (wM_i1 cI q _ _) (fun H locs hC => ?_)
  refine lv_iconst (v := 1) hx hb dX6_granted_5 (by decide) ?_
  exact cx_ret_z (u := ((va_up σ.1 1 0), σ.2)) hx hb hr hlocks hK hC rfl hw dX6_granted_6

/-! PictureHeapModel.way(III)Z (X6_way) -/
set_option maxHeartbeats 1000000 in
set_option maxRecDepth 100000 in
theorem c_X6_way (l : Launch) (D : va_G) (cI : ClassId) (q : Nat → Nat) (sz : Nat) (σ : St) (x1 : Int32) (x2 : Int32) (x3 : Int32) (post : Int32 → St → Prop) (hw : w_X6_way σ x1 x2 x3 post) : Ci l yX6_way wsX6_way 1 22 D cI (wM cI q σ) sz [.ref (q 0), .int x1, .int x2, .int x3] (wM cI q) post := by
  refine mo_i (cc := cX6_way) (maxL := 4) (ret := (some .boolean)) (by decide) rfl (Nat.le_of_ble_eq_true rfl) ?_
  intro p e s m below meth c hx hb hr hml hts hown hlocks hK A hA hC ls hl
  have hown : s.vm.findClass RX6 = some m.cls := hown
  have hl : lv_has ls 4 [(0, .ref (q 0)), (1, .int x1), (2, .int x2), (3, .int x3)] := hl
  have u1 : (Cond.fieldLink RX6 74 "PictureHeapModel" "thrown" "I").before [.ref (q 0), .int x1, .int x2, .int x3].toArray s = true := hts _ (List.mem_of_getElem? (i := 1) rfl)
  have u2 : (Cond.fieldLink RX6 16 "PictureHeapModel" "way" "[I").before [.ref (q 0), .int x1, .int x2, .int x3].toArray s = true := hts _ (List.mem_of_getElem? (i := 2) rfl)
  have iX6 : ∀ w ∈ wsX60, w ∈ wsX6_way := fun _ h => List.mem_cons_of_mem _ (List.mem_append_right _ h)
  refine lv_aload_n hx hb dX6_way_0 rfl (lv_at hl 0 rfl) ?_
  refine lv_iconst (v := 0) hx hb dX6_way_1 (by decide) ?_
  refine cx_put (v := .int 0) hx hb hts iX6 tyX6 tyX6_ok nmX6 hown hK hC 0 rfl rfl 0 (by decide) u1 rfl rfl (tyX6_ok 0 (by decide)) rfl rfl (Nat.le_of_ble_eq_true rfl) dX6_way_2 (ws' := (wM cI q ((va_up σ.1 0 0), σ.2))) (wM_i0 cI q _ _) (fun H locs hC => ?_)
  refine lv_aload_n hx hb dX6_way_5 rfl (lv_at hl 0 rfl) ?_
  refine lv_iload_n hx hb dX6_way_6 rfl (lv_at hl 1 rfl) ?_
  refine cx_callVi0 (As := [.int x1]) (rest := []) ⟨hx, hb, hml, hown, hts⟩ (c_X6_isPlace l D cI q _ ((va_up σ.1 0 0), σ.2) x1 _ hw) (cwV 1 hts gX6_way_X6_isPlace rfl rfl rfl (by decide +kernel) ⟨Nat.le_of_ble_eq_true rfl, Nat.le_of_ble_eq_true rfl⟩) hK hC hA 0 rfl rfl rfl rfl hl.1 rfl (Nat.le_of_ble_eq_true rfl) dX6_way_7 ⟨Nat.zero_le _, Nat.zero_le _⟩ (fun r_1 u_2 H locs hw hC => ?_)
  refine lv_if_eq (tgt := 26) hx hb dX6_way_10 (by decide) (fun c_3 => ?_) (fun c_3 => ?_)
  · have hw := hw.1 c_3
    refine lv_aload_n hx hb dX6_way_26 rfl (lv_at hl 0 rfl) ?_
    refine lv_iconst (v := 1) hx hb dX6_way_27 (by decide) ?_
    refine cx_callVi0 (As := [.int 1]) (rest := []) ⟨hx, hb, hml, hown, hts⟩ (c_X6_denied l D cI q _ u_2 1 _ hw) (cwV 1 hts gX6_way_X6_denied rfl rfl rfl (by decide +kernel) ⟨Nat.le_of_ble_eq_true rfl, Nat.le_of_ble_eq_true rfl⟩) hK hC hA 0 rfl rfl rfl rfl hl.1 rfl (Nat.le_of_ble_eq_true rfl) dX6_way_28 ⟨Nat.zero_le _, Nat.zero_le _⟩ (fun r_4 u_5 H locs hw hC => ?_)
    exact cx_ret_z (u := u_5) hx hb hr hlocks hK hC hw.1 hw.2 dX6_way_31
  · have hw := hw.2 c_3
    refine lv_aload_n hx hb dX6_way_13 rfl (lv_at hl 0 rfl) ?_
    refine lv_iload_n hx hb dX6_way_14 rfl (lv_at hl 2 rfl) ?_
    refine cx_callVi0 (As := [.int x2]) (rest := []) ⟨hx, hb, hml, hown, hts⟩ (c_X6_isPlace l D cI q _ u_2 x2 _ hw) (cwV 1 hts gX6_way_X6_isPlace rfl rfl rfl (by decide +kernel) ⟨Nat.le_of_ble_eq_true rfl, Nat.le_of_ble_eq_true rfl⟩) hK hC hA 0 rfl rfl rfl rfl hl.1 rfl (Nat.le_of_ble_eq_true rfl) dX6_way_15 ⟨Nat.zero_le _, Nat.zero_le _⟩ (fun r_6 u_7 H locs hw hC => ?_)
    refine lv_if_eq (tgt := 26) hx hb dX6_way_18 (by decide) (fun c_8 => ?_) (fun c_8 => ?_)
    · have hw := hw.1 c_8
      refine lv_aload_n hx hb dX6_way_26 rfl (lv_at hl 0 rfl) ?_
      refine lv_iconst (v := 1) hx hb dX6_way_27 (by decide) ?_
      refine cx_callVi0 (As := [.int 1]) (rest := []) ⟨hx, hb, hml, hown, hts⟩ (c_X6_denied l D cI q _ u_7 1 _ hw) (cwV 1 hts gX6_way_X6_denied rfl rfl rfl (by decide +kernel) ⟨Nat.le_of_ble_eq_true rfl, Nat.le_of_ble_eq_true rfl⟩) hK hC hA 0 rfl rfl rfl rfl hl.1 rfl (Nat.le_of_ble_eq_true rfl) dX6_way_28 ⟨Nat.zero_le _, Nat.zero_le _⟩ (fun r_9 u_10 H locs hw hC => ?_)
      exact cx_ret_z (u := u_10) hx hb hr hlocks hK hC hw.1 hw.2 dX6_way_31
    · have hw := hw.2 c_8
      refine lv_iload_n hx hb dX6_way_21 rfl (lv_at hl 1 rfl) ?_
      refine lv_iload_n hx hb dX6_way_22 rfl (lv_at hl 2 rfl) ?_
      refine lv_icmp_ne (tgt := 32) hx hb dX6_way_23 (by decide) (fun c_11 => ?_) (fun c_11 => ?_)
      · have hw := hw.1 c_11
        refine lv_iload_n hx hb dX6_way_32 rfl (lv_at hl 3 rfl) ?_
        refine lv_iconst (v := 0) hx hb dX6_way_33 (by decide) ?_
        refine lv_sipush (v := 10000) hx hb dX6_way_34 (by decide) ?_
        refine cx_callSiE (As := [.int x3, .int 0, .int 10000]) (rest := []) ⟨hx, hb, hml, hown, hts⟩ (c_X6_in l D cI _ x3 0 10000 _ hw) (va_cwS 3 hts gX6_way_X6_in rfl rfl rfl (by decide +kernel) ⟨Nat.le_of_ble_eq_true rfl, Nat.le_of_ble_eq_true rfl⟩) hK hC hA rfl hl.1 rfl (Nat.le_of_ble_eq_true rfl) dX6_way_37 ⟨Nat.zero_le _, Nat.zero_le _⟩ (fun r_12 H locs hw hC => ?_)
        refine lv_if_ne (tgt := 49) hx hb dX6_way_40 (by decide) (fun c_14 => ?_) (fun c_14 => ?_)
        · have hw := hw.1 c_14
          refine lv_aload_n hx hb dX6_way_49 rfl (lv_at hl 0 rfl) ?_
          refine cx_get (v := .ref (q 1)) hx hb hts iX6 hown hK hC 0 rfl rfl 9 (by decide) u2 rfl rfl dX6_way_50 ?_
          refine lv_bipush (v := 10) hx hb dX6_way_53 (by decide) ?_
          refine lv_iload_n hx hb dX6_way_55 rfl (lv_at hl 1 rfl) ?_
          refine lv_imul hx hb dX6_way_56 ?_
          refine lv_iload_n hx hb dX6_way_57 rfl (lv_at hl 2 rfl) ?_
          refine lv_iadd hx hb dX6_way_58 ?_
          refine lv_iload_n hx hb dX6_way_59 rfl (lv_at hl 3 rfl) ?_
          refine cx_iast (f := u_7.2 0) hx hb hK hC 1 rfl hw.1 dX6_way_60 (ws' := (wM cI q (u_7.1, (va_up u_7.2 0 (upd (u_7.2 0) (Int32.toNatClampNeg ((10 * x1) + x2)) x3))))) (wM_a0 cI q _ _) (fun H locs hC => ?_)
          have hw := hw.2
          refine lv_aload_n hx hb dX6_way_61 rfl (lv_at hl 0 rfl) ?_
          refine cx_get (v := .ref (q 1)) hx hb hts iX6 hown hK hC 0 rfl rfl 9 (by decide) u2 rfl rfl dX6_way_62 ?_
          refine lv_bipush (v := 10) hx hb dX6_way_65 (by decide) ?_
          refine lv_iload_n hx hb dX6_way_67 rfl (lv_at hl 2 rfl) ?_
          refine lv_imul hx hb dX6_way_68 ?_
          refine lv_iload_n hx hb dX6_way_69 rfl (lv_at hl 1 rfl) ?_
          refine lv_iadd hx hb dX6_way_70 ?_
          refine lv_iload_n hx hb dX6_way_71 rfl (lv_at hl 3 rfl) ?_
          refine cx_iast (f := (upd (u_7.2 0) (Int32.toNatClampNeg ((10 * x1) + x2)) x3)) hx hb hK hC 1 rfl hw.1 dX6_way_72 (ws' := (wM cI q (u_7.1, (va_up (va_up u_7.2 0 (upd (u_7.2 0) (Int32.toNatClampNeg ((10 * x1) + x2)) x3)) 0 (upd ((upd (u_7.2 0) (Int32.toNatClampNeg ((10 * x1) + x2)) x3)) (Int32.toNatClampNeg ((10 * x2) + x1)) x3))))) (wM_a0 cI q _ _) (fun H locs hC => ?_)
          have hw := hw.2
          refine lv_aload_n hx hb dX6_way_73 rfl (lv_at hl 0 rfl) ?_
          refine cx_callVi0 (As := []) (rest := []) ⟨hx, hb, hml, hown, hts⟩ (c_X6_granted l D cI q _ (u_7.1, (va_up (va_up u_7.2 0 (upd (u_7.2 0) (Int32.toNatClampNeg ((10 * x1) + x2)) x3)) 0 (upd ((upd (u_7.2 0) (Int32.toNatClampNeg ((10 * x1) + x2)) x3)) (Int32.toNatClampNeg ((10 * x2) + x1)) x3)))  _ hw) (cwV 0 hts gX6_way_X6_granted rfl rfl rfl (by decide +kernel) ⟨Nat.le_of_ble_eq_true rfl, Nat.le_of_ble_eq_true rfl⟩) hK hC hA 0 rfl rfl rfl rfl hl.1 rfl (Nat.le_of_ble_eq_true rfl) dX6_way_74 ⟨Nat.zero_le _, Nat.zero_le _⟩ (fun r_15 u_16 H locs hw hC => ?_)
          exact cx_ret_z (u := u_16) hx hb hr hlocks hK hC hw.1 hw.2 dX6_way_77
        · have hw := hw.2 c_14
          refine lv_aload_n hx hb dX6_way_43 rfl (lv_at hl 0 rfl) ?_
          refine lv_iconst (v := 2) hx hb dX6_way_44 (by decide) ?_
          refine cx_callVi0 (As := [.int 2]) (rest := []) ⟨hx, hb, hml, hown, hts⟩ (c_X6_denied l D cI q _ u_7 2 _ hw) (cwV 1 hts gX6_way_X6_denied rfl rfl rfl (by decide +kernel) ⟨Nat.le_of_ble_eq_true rfl, Nat.le_of_ble_eq_true rfl⟩) hK hC hA 0 rfl rfl rfl rfl hl.1 rfl (Nat.le_of_ble_eq_true rfl) dX6_way_45 ⟨Nat.zero_le _, Nat.zero_le _⟩ (fun r_17 u_18 H locs hw hC => ?_)
          exact cx_ret_z (u := u_18) hx hb hr hlocks hK hC hw.1 hw.2 dX6_way_48
      · have hw := hw.2 c_11
        refine lv_aload_n hx hb dX6_way_26 rfl (lv_at hl 0 rfl) ?_
        refine lv_iconst (v := 1) hx hb dX6_way_27 (by decide) ?_
        refine cx_callVi0 (As := [.int 1]) (rest := []) ⟨hx, hb, hml, hown, hts⟩ (c_X6_denied l D cI q _ u_7 1 _ hw) (cwV 1 hts gX6_way_X6_denied rfl rfl rfl (by decide +kernel) ⟨Nat.le_of_ble_eq_true rfl, Nat.le_of_ble_eq_true rfl⟩) hK hC hA 0 rfl rfl rfl rfl hl.1 rfl (Nat.le_of_ble_eq_true rfl) dX6_way_28 ⟨Nat.zero_le _, Nat.zero_le _⟩ (fun r_19 u_20 H locs hw hC => ?_)
        exact cx_ret_z (u := u_20) hx hb hr hlocks hK hC hw.1 hw.2 dX6_way_31

/-! PictureHeapModel.isCamera(I)Z (X6_isCamera) -/
set_option maxHeartbeats 1000000 in
set_option maxRecDepth 100000 in
theorem c_X6_isCamera (l : Launch) (D : va_G) (cI : ClassId) (q : Nat → Nat) (sz : Nat) (σ : St) (x1 : Int32) (post : Int32 → St → Prop) (hw : w_X6_isCamera σ x1 post) : Ci l yX6_isCamera wsX6_isCamera 0 0 D cI (wM cI q σ) sz [.ref (q 0), .int x1] (wM cI q) post := by
  refine mo_i (cc := cX6_isCamera) (maxL := 2) (ret := (some .boolean)) (by decide) rfl (Nat.le_of_ble_eq_true rfl) ?_
  intro p e s m below meth c hx hb hr hml hts hown hlocks hK A hA hC ls hl
  have hown : s.vm.findClass RX6 = some m.cls := hown
  have hl : lv_has ls 2 [(0, .ref (q 0)), (1, .int x1)] := hl
  have u1 : (Cond.fieldLink RX6 80 "PictureHeapModel" "cameras" "I").before [.ref (q 0), .int x1].toArray s = true := hts _ (List.mem_of_getElem? (i := 1) rfl)
  have iX6 : ∀ w ∈ wsX60, w ∈ wsX6_isCamera := fun _ h => List.mem_cons_of_mem _ (List.mem_append_right _ h)
  refine lv_iload_n hx hb dX6_isCamera_0 rfl (lv_at hl 1 rfl) ?_
  refine lv_if_lt (tgt := 16) hx hb dX6_isCamera_1 (by decide) (fun c_1 => ?_) (fun c_1 => ?_)
  · have hw := hw.1 c_1
    refine lv_iconst (v := 0) hx hb dX6_isCamera_16 (by decide) ?_
    exact cx_ret_z (u := σ) hx hb hr hlocks hK hC rfl hw dX6_isCamera_17
  · have hw := hw.2 c_1
    refine lv_iload_n hx hb dX6_isCamera_4 rfl (lv_at hl 1 rfl) ?_
    refine lv_aload_n hx hb dX6_isCamera_5 rfl (lv_at hl 0 rfl) ?_
    refine cx_get (v := .int (σ.1 2)) hx hb hts iX6 hown hK hC 0 rfl rfl 2 (by decide) u1 rfl rfl dX6_isCamera_6 ?_
    refine lv_icmp_ge (tgt := 16) hx hb dX6_isCamera_9 (by decide) (fun c_2 => ?_) (fun c_2 => ?_)
    · have hw := hw.1 c_2
      refine lv_iconst (v := 0) hx hb dX6_isCamera_16 (by decide) ?_
      exact cx_ret_z (u := σ) hx hb hr hlocks hK hC rfl hw dX6_isCamera_17
    · have hw := hw.2 c_2
      refine lv_iconst (v := 1) hx hb dX6_isCamera_12 (by decide) ?_
      refine lv_goto (tgt := 17) hx hb dX6_isCamera_13 (by decide) ?_
      exact cx_ret_z (u := σ) hx hb hr hlocks hK hC rfl hw dX6_isCamera_17

/-! PictureHeapModel.picture(IIII)I (X6_picture) -/
set_option maxHeartbeats 1000000 in
set_option maxRecDepth 100000 in
theorem c_X6_picture (l : Launch) (D : va_G) (cI : ClassId) (q : Nat → Nat) (sz : Nat) (σ : St) (x1 : Int32) (x2 : Int32) (x3 : Int32) (x4 : Int32) (post : Int32 → St → Prop) (hw : w_X6_picture σ x1 x2 x3 x4 post) : Ci l yX6_picture wsX6_picture 1 22 D cI (wM cI q σ) sz [.ref (q 0), .int x1, .int x2, .int x3, .int x4] (wM cI q) post := by
  refine mo_i (cc := cX6_picture) (maxL := 5) (ret := (some .int)) (by decide) rfl (Nat.le_of_ble_eq_true rfl) ?_
  intro p e s m below meth c hx hb hr hml hts hown hlocks hK A hA hC ls hl
  have hown : s.vm.findClass RX6 = some m.cls := hown
  have hl : lv_has ls 5 [(0, .ref (q 0)), (1, .int x1), (2, .int x2), (3, .int x3), (4, .int x4)] := hl
  have u1 : (Cond.fieldLink RX6 74 "PictureHeapModel" "thrown" "I").before [.ref (q 0), .int x1, .int x2, .int x3, .int x4].toArray s = true := hts _ (List.mem_of_getElem? (i := 1) rfl)
  have u2 : (Cond.constant RX6 114 (100000)).before [.ref (q 0), .int x1, .int x2, .int x3, .int x4].toArray s = true := hts _ (List.mem_of_getElem? (i := 2) rfl)
  have u3 : (Cond.constant RX6 115 (65535)).before [.ref (q 0), .int x1, .int x2, .int x3, .int x4].toArray s = true := hts _ (List.mem_of_getElem? (i := 3) rfl)
  have u4 : (Cond.fieldLink RX6 93 "PictureHeapModel" "pictures" "I").before [.ref (q 0), .int x1, .int x2, .int x3, .int x4].toArray s = true := hts _ (List.mem_of_getElem? (i := 4) rfl)
  have u5 : (Cond.fieldLink RX6 20 "PictureHeapModel" "camera" "[I").before [.ref (q 0), .int x1, .int x2, .int x3, .int x4].toArray s = true := hts _ (List.mem_of_getElem? (i := 5) rfl)
  have u6 : (Cond.fieldLink RX6 23 "PictureHeapModel" "clock" "[I").before [.ref (q 0), .int x1, .int x2, .int x3, .int x4].toArray s = true := hts _ (List.mem_of_getElem? (i := 6) rfl)
  have u7 : (Cond.fieldLink RX6 26 "PictureHeapModel" "marks" "[I").before [.ref (q 0), .int x1, .int x2, .int x3, .int x4].toArray s = true := hts _ (List.mem_of_getElem? (i := 7) rfl)
  have u8 : (Cond.fieldLink RX6 29 "PictureHeapModel" "place" "[I").before [.ref (q 0), .int x1, .int x2, .int x3, .int x4].toArray s = true := hts _ (List.mem_of_getElem? (i := 8) rfl)
  have iX6 : ∀ w ∈ wsX60, w ∈ wsX6_picture := fun _ h => List.mem_cons_of_mem _ (List.mem_append_right _ h)
  have J34 : ∀ (x1_7 : Int32) (x2_8 : Int32) (x3_9 : Int32) (x4_10 : Int32) (s_11 : St) (H : Heap) (locs : List Loc) (ls : Array Slot), w_X6_picture_J34 post x1_7 x2_8 x3_9 x4_10 s_11 → Cx D A s.heap (wM cI q s_11) H locs → lv_has ls 5 [(0, .ref (q 0)), (1, .int x1_7), (2, .int x2_8), (3, .int x3_9), (4, .int x4_10)] → W p l e (Rm 1 22) s m [.ref (q 0), .int x1, .int x2, .int x3, .int x4].toArray below meth c H locs 0 0 (QI below D cI A (wM cI q) post [.ref (q 0), .int x1, .int x2, .int x3, .int x4].toArray s) (F0 m 34 ls []) := by
    intro x1_7 x2_8 x3_9 x4_10 s_11  H locs ls hw hC hl
    refine lv_iload_n hx hb dX6_picture_34 rfl (lv_at hl 2 rfl) ?_
    refine lv_iconst (v := 0) hx hb dX6_picture_35 (by decide) ?_
    refine lv_ldc (v := 100000) hx hb hown u2 dX6_picture_36 ?_
    refine cx_callSiE (As := [.int x2_8, .int 0, .int 100000]) (rest := []) ⟨hx, hb, hml, hown, hts⟩ (c_X6_in l D cI _ x2_8 0 100000 _ hw) (va_cwS 3 hts gX6_picture_X6_in rfl rfl rfl (by decide +kernel) ⟨Nat.le_of_ble_eq_true rfl, Nat.le_of_ble_eq_true rfl⟩) hK hC hA rfl hl.1 rfl (Nat.le_of_ble_eq_true rfl) dX6_picture_38 ⟨Nat.zero_le _, Nat.zero_le _⟩ (fun r_12 H locs hw hC => ?_)
    refine lv_if_eq (tgt := 54) hx hb dX6_picture_41 (by decide) (fun c_14 => ?_) (fun c_14 => ?_)
    · have hw := hw.1 c_14
      refine lv_aload_n hx hb dX6_picture_54 rfl (lv_at hl 0 rfl) ?_
      refine lv_iconst (v := 2) hx hb dX6_picture_55 (by decide) ?_
      refine cx_callVi0 (As := [.int 2]) (rest := []) ⟨hx, hb, hml, hown, hts⟩ (c_X6_refused l D cI q _ s_11 2 _ hw) (cwV 1 hts gX6_picture_X6_refused rfl rfl rfl (by decide +kernel) ⟨Nat.le_of_ble_eq_true rfl, Nat.le_of_ble_eq_true rfl⟩) hK hC hA 0 rfl rfl rfl rfl hl.1 rfl (Nat.le_of_ble_eq_true rfl) dX6_picture_56 ⟨Nat.zero_le _, Nat.zero_le _⟩ (fun r_15 u_16 H locs hw hC => ?_)
      exact cx_ret_i (u := u_16) hx hb hr hlocks hK hC hw dX6_picture_59
    · have hw := hw.2 c_14
      refine lv_iload_n hx hb dX6_picture_44 rfl (lv_at hl 3 rfl) ?_
      refine lv_iconst (v := 0) hx hb dX6_picture_45 (by decide) ?_
      refine lv_ldc (v := 65535) hx hb hown u3 dX6_picture_46 ?_
      refine cx_callSiE (As := [.int x3_9, .int 0, .int 65535]) (rest := []) ⟨hx, hb, hml, hown, hts⟩ (c_X6_in l D cI _ x3_9 0 65535 _ hw) (va_cwS 3 hts gX6_picture_X6_in rfl rfl rfl (by decide +kernel) ⟨Nat.le_of_ble_eq_true rfl, Nat.le_of_ble_eq_true rfl⟩) hK hC hA rfl hl.1 rfl (Nat.le_of_ble_eq_true rfl) dX6_picture_48 ⟨Nat.zero_le _, Nat.zero_le _⟩ (fun r_17 H locs hw hC => ?_)
      refine lv_if_ne (tgt := 60) hx hb dX6_picture_51 (by decide) (fun c_19 => ?_) (fun c_19 => ?_)
      · have hw := hw.1 c_19
        refine lv_aload_n hx hb dX6_picture_60 rfl (lv_at hl 0 rfl) ?_
        refine cx_get (v := .int (s_11.1 4)) hx hb hts iX6 hown hK hC 0 rfl rfl 4 (by decide) u4 rfl rfl dX6_picture_61 ?_
        refine lv_bipush (v := 120) hx hb dX6_picture_64 (by decide) ?_
        refine lv_icmp_ne (tgt := 75) hx hb dX6_picture_66 (by decide) (fun c_20 => ?_) (fun c_20 => ?_)
        · have hw := hw.1 c_20
          refine lv_aload_n hx hb dX6_picture_75 rfl (lv_at hl 0 rfl) ?_
          refine cx_get (v := .ref (q 2)) hx hb hts iX6 hown hK hC 0 rfl rfl 10 (by decide) u5 rfl rfl dX6_picture_76 ?_
          refine lv_aload_n hx hb dX6_picture_79 rfl (lv_at hl 0 rfl) ?_
          refine cx_get (v := .int (s_11.1 4)) hx hb hts iX6 hown hK hC 0 rfl rfl 4 (by decide) u4 rfl rfl dX6_picture_80 ?_
          refine lv_iload_n hx hb dX6_picture_83 rfl (lv_at hl 1 rfl) ?_
          refine cx_iast (f := s_11.2 1) hx hb hK hC 2 rfl hw.1 dX6_picture_84 (ws' := (wM cI q (s_11.1, (va_up s_11.2 1 (upd (s_11.2 1) (Int32.toNatClampNeg (s_11.1 4)) x1_7))))) (wM_a1 cI q _ _) (fun H locs hC => ?_)
          have hw := hw.2
          refine lv_aload_n hx hb dX6_picture_85 rfl (lv_at hl 0 rfl) ?_
          refine cx_get (v := .ref (q 3)) hx hb hts iX6 hown hK hC 0 rfl rfl 11 (by decide) u6 rfl rfl dX6_picture_86 ?_
          refine lv_aload_n hx hb dX6_picture_89 rfl (lv_at hl 0 rfl) ?_
          refine cx_get (v := .int (s_11.1 4)) hx hb hts iX6 hown hK hC 0 rfl rfl 4 (by decide) u4 rfl rfl dX6_picture_90 ?_
          refine lv_iload_n hx hb dX6_picture_93 rfl (lv_at hl 2 rfl) ?_
          refine cx_iast (f := s_11.2 2) hx hb hK hC 3 rfl hw.1 dX6_picture_94 (ws' := (wM cI q (s_11.1, (va_up (va_up s_11.2 1 (upd (s_11.2 1) (Int32.toNatClampNeg (s_11.1 4)) x1_7)) 2 (upd (s_11.2 2) (Int32.toNatClampNeg (s_11.1 4)) x2_8))))) (wM_a2 cI q _ _) (fun H locs hC => ?_)
          have hw := hw.2
          refine lv_aload_n hx hb dX6_picture_95 rfl (lv_at hl 0 rfl) ?_
          refine cx_get (v := .ref (q 4)) hx hb hts iX6 hown hK hC 0 rfl rfl 12 (by decide) u7 rfl rfl dX6_picture_96 ?_
          refine lv_aload_n hx hb dX6_picture_99 rfl (lv_at hl 0 rfl) ?_
          refine cx_get (v := .int (s_11.1 4)) hx hb hts iX6 hown hK hC 0 rfl rfl 4 (by decide) u4 rfl rfl dX6_picture_100 ?_
          refine lv_iload_n hx hb dX6_picture_103 rfl (lv_at hl 3 rfl) ?_
          refine cx_iast (f := s_11.2 3) hx hb hK hC 4 rfl hw.1 dX6_picture_104 (ws' := (wM cI q (s_11.1, (va_up (va_up (va_up s_11.2 1 (upd (s_11.2 1) (Int32.toNatClampNeg (s_11.1 4)) x1_7)) 2 (upd (s_11.2 2) (Int32.toNatClampNeg (s_11.1 4)) x2_8)) 3 (upd (s_11.2 3) (Int32.toNatClampNeg (s_11.1 4)) x3_9))))) (wM_a3 cI q _ _) (fun H locs hC => ?_)
          have hw := hw.2
          refine lv_aload_n hx hb dX6_picture_105 rfl (lv_at hl 0 rfl) ?_
          refine cx_get (v := .ref (q 5)) hx hb hts iX6 hown hK hC 0 rfl rfl 13 (by decide) u8 rfl rfl dX6_picture_106 ?_
          refine lv_aload_n hx hb dX6_picture_109 rfl (lv_at hl 0 rfl) ?_
          refine cx_get (v := .int (s_11.1 4)) hx hb hts iX6 hown hK hC 0 rfl rfl 4 (by decide) u4 rfl rfl dX6_picture_110 ?_
          refine lv_iload hx hb dX6_picture_113 (lv_at hl 4 rfl) ?_
          refine cx_iast (f := s_11.2 4) hx hb hK hC 5 rfl hw.1 dX6_picture_115 (ws' := (wM cI q (s_11.1, (va_up (va_up (va_up (va_up s_11.2 1 (upd (s_11.2 1) (Int32.toNatClampNeg (s_11.1 4)) x1_7)) 2 (upd (s_11.2 2) (Int32.toNatClampNeg (s_11.1 4)) x2_8)) 3 (upd (s_11.2 3) (Int32.toNatClampNeg (s_11.1 4)) x3_9)) 4 (upd (s_11.2 4) (Int32.toNatClampNeg (s_11.1 4)) x4_10))))) (wM_a4 cI q _ _) (fun H locs hC => ?_)
          have hw := hw.2
          refine lv_aload_n hx hb dX6_picture_116 rfl (lv_at hl 0 rfl) ?_
          refine lv_dup hx hb dX6_picture_117 rfl ?_
          refine cx_get (v := .int (s_11.1 4)) hx hb hts iX6 hown hK hC 0 rfl rfl 4 (by decide) u4 rfl rfl dX6_picture_118 ?_
          refine lv_iconst (v := 1) hx hb dX6_picture_121 (by decide) ?_
          refine lv_iadd hx hb dX6_picture_122 ?_
          refine cx_put (v := .int ((s_11.1 4) + 1)) hx hb hts iX6 tyX6 tyX6_ok nmX6 hown hK hC 0 rfl rfl 4 (by decide) u4 rfl rfl (tyX6_ok 4 (by decide)) rfl rfl (Nat.le_of_ble_eq_true rfl) dX6_picture_123 (ws' := (wM cI q ((va_up s_11.1 4 ((s_11.1 4) + 1)), (va_up (va_up (va_up (va_up s_11.2 1 (upd (s_11.2 1) (Int32.toNatClampNeg (s_11.1 4)) x1_7)) 2 (upd (s_11.2 2) (Int32.toNatClampNeg (s_11.1 4)) x2_8)) 3 (upd (s_11.2 3) (Int32.toNatClampNeg (s_11.1 4)) x3_9)) 4 (upd (s_11.2 4) (Int32.toNatClampNeg (s_11.1 4)) x4_10))))) (wM_i4 cI q _ _) (fun H locs hC => ?_)
          refine lv_aload_n hx hb dX6_picture_126 rfl (lv_at hl 0 rfl) ?_
          refine lv_aload_n hx hb dX6_picture_127 rfl (lv_at hl 0 rfl) ?_
          refine cx_get (v := .int ((s_11.1 4) + 1)) hx hb hts iX6 hown hK hC 0 rfl rfl 4 (by decide) u4 rfl rfl dX6_picture_128 ?_
          refine lv_iconst (v := 1) hx hb dX6_picture_131 (by decide) ?_
          refine lv_isub hx hb dX6_picture_132 ?_
          refine cx_callVi0 (As := [.int (((s_11.1 4) + 1) - 1)]) (rest := []) ⟨hx, hb, hml, hown, hts⟩ (c_X6_done l D cI q _ ((va_up s_11.1 4 ((s_11.1 4) + 1)), (va_up (va_up (va_up (va_up s_11.2 1 (upd (s_11.2 1) (Int32.toNatClampNeg (s_11.1 4)) x1_7)) 2 (upd (s_11.2 2) (Int32.toNatClampNeg (s_11.1 4)) x2_8)) 3 (upd (s_11.2 3) (Int32.toNatClampNeg (s_11.1 4)) x3_9)) 4 (upd (s_11.2 4) (Int32.toNatClampNeg (s_11.1 4)) x4_10))) (((s_11.1 4) + 1) - 1) _ hw) (cwV 1 hts gX6_picture_X6_done rfl rfl rfl (by decide +kernel) ⟨Nat.le_of_ble_eq_true rfl, Nat.le_of_ble_eq_true rfl⟩) hK hC hA 0 rfl rfl rfl rfl hl.1 rfl (Nat.le_of_ble_eq_true rfl) dX6_picture_133 ⟨Nat.zero_le _, Nat.zero_le _⟩ (fun r_21 u_22 H locs hw hC => ?_)
          exact cx_ret_i (u := u_22) hx hb hr hlocks hK hC hw dX6_picture_136
        · have hw := hw.2 c_20
          refine lv_aload_n hx hb dX6_picture_69 rfl (lv_at hl 0 rfl) ?_
          refine lv_iconst (v := 3) hx hb dX6_picture_70 (by decide) ?_
          refine cx_callVi0 (As := [.int 3]) (rest := []) ⟨hx, hb, hml, hown, hts⟩ (c_X6_refused l D cI q _ s_11 3 _ hw) (cwV 1 hts gX6_picture_X6_refused rfl rfl rfl (by decide +kernel) ⟨Nat.le_of_ble_eq_true rfl, Nat.le_of_ble_eq_true rfl⟩) hK hC hA 0 rfl rfl rfl rfl hl.1 rfl (Nat.le_of_ble_eq_true rfl) dX6_picture_71 ⟨Nat.zero_le _, Nat.zero_le _⟩ (fun r_23 u_24 H locs hw hC => ?_)
          exact cx_ret_i (u := u_24) hx hb hr hlocks hK hC hw dX6_picture_74
      · have hw := hw.2 c_19
        refine lv_aload_n hx hb dX6_picture_54 rfl (lv_at hl 0 rfl) ?_
        refine lv_iconst (v := 2) hx hb dX6_picture_55 (by decide) ?_
        refine cx_callVi0 (As := [.int 2]) (rest := []) ⟨hx, hb, hml, hown, hts⟩ (c_X6_refused l D cI q _ s_11 2 _ hw) (cwV 1 hts gX6_picture_X6_refused rfl rfl rfl (by decide +kernel) ⟨Nat.le_of_ble_eq_true rfl, Nat.le_of_ble_eq_true rfl⟩) hK hC hA 0 rfl rfl rfl rfl hl.1 rfl (Nat.le_of_ble_eq_true rfl) dX6_picture_56 ⟨Nat.zero_le _, Nat.zero_le _⟩ (fun r_25 u_26 H locs hw hC => ?_)
        exact cx_ret_i (u := u_26) hx hb hr hlocks hK hC hw dX6_picture_59
  refine lv_aload_n hx hb dX6_picture_0 rfl (lv_at hl 0 rfl) ?_
  refine lv_iconst (v := 0) hx hb dX6_picture_1 (by decide) ?_
  refine cx_put (v := .int 0) hx hb hts iX6 tyX6 tyX6_ok nmX6 hown hK hC 0 rfl rfl 0 (by decide) u1 rfl rfl (tyX6_ok 0 (by decide)) rfl rfl (Nat.le_of_ble_eq_true rfl) dX6_picture_2 (ws' := (wM cI q ((va_up σ.1 0 0), σ.2))) (wM_i0 cI q _ _) (fun H locs hC => ?_)
  refine lv_aload_n hx hb dX6_picture_5 rfl (lv_at hl 0 rfl) ?_
  refine lv_iload_n hx hb dX6_picture_6 rfl (lv_at hl 1 rfl) ?_
  refine cx_callVi0 (As := [.int x1]) (rest := []) ⟨hx, hb, hml, hown, hts⟩ (c_X6_isCamera l D cI q _ ((va_up σ.1 0 0), σ.2) x1 _ hw) (cwV 1 hts gX6_picture_X6_isCamera rfl rfl rfl (by decide +kernel) ⟨Nat.le_of_ble_eq_true rfl, Nat.le_of_ble_eq_true rfl⟩) hK hC hA 0 rfl rfl rfl rfl hl.1 rfl (Nat.le_of_ble_eq_true rfl) dX6_picture_7 ⟨Nat.zero_le _, Nat.zero_le _⟩ (fun r_1 u_2 H locs hw hC => ?_)
  refine lv_if_eq (tgt := 28) hx hb dX6_picture_10 (by decide) (fun c_3 => ?_) (fun c_3 => ?_)
  · have hw := hw.1 c_3
    refine lv_aload_n hx hb dX6_picture_28 rfl (lv_at hl 0 rfl) ?_
    refine lv_iconst (v := 1) hx hb dX6_picture_29 (by decide) ?_
    refine cx_callVi0 (As := [.int 1]) (rest := []) ⟨hx, hb, hml, hown, hts⟩ (c_X6_refused l D cI q _ u_2 1 _ hw) (cwV 1 hts gX6_picture_X6_refused rfl rfl rfl (by decide +kernel) ⟨Nat.le_of_ble_eq_true rfl, Nat.le_of_ble_eq_true rfl⟩) hK hC hA 0 rfl rfl rfl rfl hl.1 rfl (Nat.le_of_ble_eq_true rfl) dX6_picture_30 ⟨Nat.zero_le _, Nat.zero_le _⟩ (fun r_4 u_5 H locs hw hC => ?_)
    exact cx_ret_i (u := u_5) hx hb hr hlocks hK hC hw dX6_picture_33
  · have hw := hw.2 c_3
    refine lv_iload hx hb dX6_picture_13 (lv_at hl 4 rfl) ?_
    refine lv_iconst (v := (-1)) hx hb dX6_picture_15 (by decide) ?_
    refine lv_icmp_eq (tgt := 34) hx hb dX6_picture_16 (by decide) (fun c_6 => ?_) (fun c_6 => ?_)
    · have hw := hw.1 c_6
      exact J34 x1 x2 x3 x4 u_2   _ _ _ hw hC (lv_sub hl [0, 1, 2, 3, 4] rfl)
    · have hw := hw.2 c_6
      refine lv_aload_n hx hb dX6_picture_19 rfl (lv_at hl 0 rfl) ?_
      refine lv_iload hx hb dX6_picture_20 (lv_at hl 4 rfl) ?_
      refine cx_callVi0 (As := [.int x4]) (rest := []) ⟨hx, hb, hml, hown, hts⟩ (c_X6_isPlace l D cI q _ u_2 x4 _ hw) (cwV 1 hts gX6_picture_X6_isPlace rfl rfl rfl (by decide +kernel) ⟨Nat.le_of_ble_eq_true rfl, Nat.le_of_ble_eq_true rfl⟩) hK hC hA 0 rfl rfl rfl rfl hl.1 rfl (Nat.le_of_ble_eq_true rfl) dX6_picture_22 ⟨Nat.zero_le _, Nat.zero_le _⟩ (fun r_27 u_28 H locs hw hC => ?_)
      refine lv_if_ne (tgt := 34) hx hb dX6_picture_25 (by decide) (fun c_29 => ?_) (fun c_29 => ?_)
      · have hw := hw.1 c_29
        exact J34 x1 x2 x3 x4 u_28   _ _ _ hw hC (lv_sub hl [0, 1, 2, 3, 4] rfl)
      · have hw := hw.2 c_29
        refine lv_aload_n hx hb dX6_picture_28 rfl (lv_at hl 0 rfl) ?_
        refine lv_iconst (v := 1) hx hb dX6_picture_29 (by decide) ?_
        refine cx_callVi0 (As := [.int 1]) (rest := []) ⟨hx, hb, hml, hown, hts⟩ (c_X6_refused l D cI q _ u_28 1 _ hw) (cwV 1 hts gX6_picture_X6_refused rfl rfl rfl (by decide +kernel) ⟨Nat.le_of_ble_eq_true rfl, Nat.le_of_ble_eq_true rfl⟩) hK hC hA 0 rfl rfl rfl rfl hl.1 rfl (Nat.le_of_ble_eq_true rfl) dX6_picture_30 ⟨Nat.zero_le _, Nat.zero_le _⟩ (fun r_30 u_31 H locs hw hC => ?_)
        exact cx_ret_i (u := u_31) hx hb hr hlocks hK hC hw dX6_picture_33

/-! PictureHeapModel.gap(I)Z (X6_gap) -/
set_option maxHeartbeats 1000000 in
set_option maxRecDepth 100000 in
theorem c_X6_gap (l : Launch) (D : va_G) (cI : ClassId) (q : Nat → Nat) (sz : Nat) (σ : St) (x1 : Int32) (post : Int32 → St → Prop) (hw : w_X6_gap σ x1 post) : Ci l yX6_gap wsX6_gap 1 22 D cI (wM cI q σ) sz [.ref (q 0), .int x1] (wM cI q) post := by
  refine mo_i (cc := cX6_gap) (maxL := 2) (ret := (some .boolean)) (by decide) rfl (Nat.le_of_ble_eq_true rfl) ?_
  intro p e s m below meth c hx hb hr hml hts hown hlocks hK A hA hC ls hl
  have hown : s.vm.findClass RX6 = some m.cls := hown
  have hl : lv_has ls 2 [(0, .ref (q 0)), (1, .int x1)] := hl
  have u1 : (Cond.fieldLink RX6 74 "PictureHeapModel" "thrown" "I").before [.ref (q 0), .int x1].toArray s = true := hts _ (List.mem_of_getElem? (i := 1) rfl)
  have u2 : (Cond.fieldLink RX6 7 "PictureHeapModel" "gap" "I").before [.ref (q 0), .int x1].toArray s = true := hts _ (List.mem_of_getElem? (i := 2) rfl)
  have iX6 : ∀ w ∈ wsX60, w ∈ wsX6_gap := fun _ h => List.mem_cons_of_mem _ (List.mem_append_right _ h)
  refine lv_aload_n hx hb dX6_gap_0 rfl (lv_at hl 0 rfl) ?_
  refine lv_iconst (v := 0) hx hb dX6_gap_1 (by decide) ?_
  refine cx_put (v := .int 0) hx hb hts iX6 tyX6 tyX6_ok nmX6 hown hK hC 0 rfl rfl 0 (by decide) u1 rfl rfl (tyX6_ok 0 (by decide)) rfl rfl (Nat.le_of_ble_eq_true rfl) dX6_gap_2 (ws' := (wM cI q ((va_up σ.1 0 0), σ.2))) (wM_i0 cI q _ _) (fun H locs hC => ?_)
  refine lv_iload_n hx hb dX6_gap_5 rfl (lv_at hl 1 rfl) ?_
  refine lv_iconst (v := 1) hx hb dX6_gap_6 (by decide) ?_
  refine lv_sipush (v := 10000) hx hb dX6_gap_7 (by decide) ?_
  refine cx_callSiE (As := [.int x1, .int 1, .int 10000]) (rest := []) ⟨hx, hb, hml, hown, hts⟩ (c_X6_in l D cI _ x1 1 10000 _ hw) (va_cwS 3 hts gX6_gap_X6_in rfl rfl rfl (by decide +kernel) ⟨Nat.le_of_ble_eq_true rfl, Nat.le_of_ble_eq_true rfl⟩) hK hC hA rfl hl.1 rfl (Nat.le_of_ble_eq_true rfl) dX6_gap_10 ⟨Nat.zero_le _, Nat.zero_le _⟩ (fun r_1 H locs hw hC => ?_)
  refine lv_if_ne (tgt := 22) hx hb dX6_gap_13 (by decide) (fun c_3 => ?_) (fun c_3 => ?_)
  · have hw := hw.1 c_3
    refine lv_aload_n hx hb dX6_gap_22 rfl (lv_at hl 0 rfl) ?_
    refine lv_iload_n hx hb dX6_gap_23 rfl (lv_at hl 1 rfl) ?_
    refine cx_put (v := .int x1) hx hb hts iX6 tyX6 tyX6_ok nmX6 hown hK hC 0 rfl rfl 7 (by decide) u2 rfl rfl (tyX6_ok 7 (by decide)) rfl rfl (Nat.le_of_ble_eq_true rfl) dX6_gap_24 (ws' := (wM cI q ((va_up (va_up σ.1 0 0) 7 x1), σ.2))) (wM_i7 cI q _ _) (fun H locs hC => ?_)
    refine lv_aload_n hx hb dX6_gap_27 rfl (lv_at hl 0 rfl) ?_
    refine cx_callVi0 (As := []) (rest := []) ⟨hx, hb, hml, hown, hts⟩ (c_X6_granted l D cI q _ ((va_up (va_up σ.1 0 0) 7 x1), σ.2)  _ hw) (cwV 0 hts gX6_gap_X6_granted rfl rfl rfl (by decide +kernel) ⟨Nat.le_of_ble_eq_true rfl, Nat.le_of_ble_eq_true rfl⟩) hK hC hA 0 rfl rfl rfl rfl hl.1 rfl (Nat.le_of_ble_eq_true rfl) dX6_gap_28 ⟨Nat.zero_le _, Nat.zero_le _⟩ (fun r_4 u_5 H locs hw hC => ?_)
    exact cx_ret_z (u := u_5) hx hb hr hlocks hK hC hw.1 hw.2 dX6_gap_31
  · have hw := hw.2 c_3
    refine lv_aload_n hx hb dX6_gap_16 rfl (lv_at hl 0 rfl) ?_
    refine lv_iconst (v := 2) hx hb dX6_gap_17 (by decide) ?_
    refine cx_callVi0 (As := [.int 2]) (rest := []) ⟨hx, hb, hml, hown, hts⟩ (c_X6_denied l D cI q _ ((va_up σ.1 0 0), σ.2) 2 _ hw) (cwV 1 hts gX6_gap_X6_denied rfl rfl rfl (by decide +kernel) ⟨Nat.le_of_ble_eq_true rfl, Nat.le_of_ble_eq_true rfl⟩) hK hC hA 0 rfl rfl rfl rfl hl.1 rfl (Nat.le_of_ble_eq_true rfl) dX6_gap_18 ⟨Nat.zero_le _, Nat.zero_le _⟩ (fun r_6 u_7 H locs hw hC => ?_)
    exact cx_ret_z (u := u_7) hx hb hr hlocks hK hC hw.1 hw.2 dX6_gap_21

/-! PictureHeapModel.isPicture(I)Z (X6_isPicture) -/
set_option maxHeartbeats 1000000 in
set_option maxRecDepth 100000 in
theorem c_X6_isPicture (l : Launch) (D : va_G) (cI : ClassId) (q : Nat → Nat) (sz : Nat) (σ : St) (x1 : Int32) (post : Int32 → St → Prop) (hw : w_X6_isPicture σ x1 post) : Ci l yX6_isPicture wsX6_isPicture 0 0 D cI (wM cI q σ) sz [.ref (q 0), .int x1] (wM cI q) post := by
  refine mo_i (cc := cX6_isPicture) (maxL := 2) (ret := (some .boolean)) (by decide) rfl (Nat.le_of_ble_eq_true rfl) ?_
  intro p e s m below meth c hx hb hr hml hts hown hlocks hK A hA hC ls hl
  have hown : s.vm.findClass RX6 = some m.cls := hown
  have hl : lv_has ls 2 [(0, .ref (q 0)), (1, .int x1)] := hl
  have u1 : (Cond.fieldLink RX6 93 "PictureHeapModel" "pictures" "I").before [.ref (q 0), .int x1].toArray s = true := hts _ (List.mem_of_getElem? (i := 1) rfl)
  have iX6 : ∀ w ∈ wsX60, w ∈ wsX6_isPicture := fun _ h => List.mem_cons_of_mem _ (List.mem_append_right _ h)
  refine lv_iload_n hx hb dX6_isPicture_0 rfl (lv_at hl 1 rfl) ?_
  refine lv_if_lt (tgt := 16) hx hb dX6_isPicture_1 (by decide) (fun c_1 => ?_) (fun c_1 => ?_)
  · have hw := hw.1 c_1
    refine lv_iconst (v := 0) hx hb dX6_isPicture_16 (by decide) ?_
    exact cx_ret_z (u := σ) hx hb hr hlocks hK hC rfl hw dX6_isPicture_17
  · have hw := hw.2 c_1
    refine lv_iload_n hx hb dX6_isPicture_4 rfl (lv_at hl 1 rfl) ?_
    refine lv_aload_n hx hb dX6_isPicture_5 rfl (lv_at hl 0 rfl) ?_
    refine cx_get (v := .int (σ.1 4)) hx hb hts iX6 hown hK hC 0 rfl rfl 4 (by decide) u1 rfl rfl dX6_isPicture_6 ?_
    refine lv_icmp_ge (tgt := 16) hx hb dX6_isPicture_9 (by decide) (fun c_2 => ?_) (fun c_2 => ?_)
    · have hw := hw.1 c_2
      refine lv_iconst (v := 0) hx hb dX6_isPicture_16 (by decide) ?_
      exact cx_ret_z (u := σ) hx hb hr hlocks hK hC rfl hw dX6_isPicture_17
    · have hw := hw.2 c_2
      refine lv_iconst (v := 1) hx hb dX6_isPicture_12 (by decide) ?_
      refine lv_goto (tgt := 17) hx hb dX6_isPicture_13 (by decide) ?_
      exact cx_ret_z (u := σ) hx hb hr hlocks hK hC rfl hw dX6_isPicture_17

/-! PictureHeapModel.first([I)V (X6_first_a10) -/
set_option maxHeartbeats 1000000 in
set_option maxRecDepth 100000 in
theorem c_X6_first_a10 (l : Launch) (D : va_G) (cI : ClassId) (q : Nat → Nat) (sz : Nat) (σ : St) (post : St → Prop) (hw : w_X6_first_a10 σ post) : Cv l yX6_first wsX6_first 0 0 D cI (wM cI q σ) sz [.ref (q 0), .ref (q 11)] (wM cI q) post := by
  refine mo_v (cc := cX6_first) (maxL := 4) (ret := none) (by decide) rfl (Nat.le_of_ble_eq_true rfl) ?_
  intro p e s m below meth c hx hb hr hml hts hown hlocks hK A hA hC ls hl
  have hown : s.vm.findClass RX6 = some m.cls := hown
  have hl : lv_has ls 4 [(0, .ref (q 0)), (1, .ref (q 11))] := hl
  have u1 : (Cond.constant RX6 126 (200000)).before [.ref (q 0), .ref (q 11)].toArray s = true := hts _ (List.mem_of_getElem? (i := 1) rfl)
  have u2 : (Cond.constant RX6 127 (400000)).before [.ref (q 0), .ref (q 11)].toArray s = true := hts _ (List.mem_of_getElem? (i := 2) rfl)
  have L10 : ∀ (x2_4 : Int32) (K : Int32 → St → Prop) (hKK : ∀ (x3_5 : Int32) (s_6 : St) (H : Heap) (locs : List Loc) (ls : Array Slot), K x3_5 s_6 → Cx D A s.heap (wM cI q s_6) H locs → lv_has ls 4 [(1, .ref (q 11)), (2, .int x2_4), (3, .int x3_5)] → W p l e (Rm 0 0) s m [.ref (q 0), .ref (q 11)].toArray below meth c H locs 0 0 (QV below D cI A (wM cI q) post [.ref (q 0), .ref (q 11)].toArray s) (F0 m 54 ls [])) (n : Nat), ∀ (x3_5 : Int32) (s_6 : St) (H : Heap) (locs : List Loc) (ls : Array Slot), w_X6_first_a10_L10 x2_4 post K n x3_5 s_6 → Cx D A s.heap (wM cI q s_6) H locs → lv_has ls 4 [(1, .ref (q 11)), (2, .int x2_4), (3, .int x3_5)] → W p l e (Rm 0 0) s m [.ref (q 0), .ref (q 11)].toArray below meth c H locs 0 0 (QV below D cI A (wM cI q) post [.ref (q 0), .ref (q 11)].toArray s) (F0 m 10 ls []) := by
    intro x2_4 K hKK n
    induction n with
    | zero => intro x3_5 s_6 H locs ls hw; exact hw.elim
    | succ n ih =>
      intro x3_5 s_6 H locs ls hw hC hl
      refine lv_iload_n hx hb dX6_first_10 rfl (lv_at hl 2 rfl) ?_
      refine lv_bipush (v := 8) hx hb dX6_first_11 (by decide) ?_
      refine lv_icmp_ge (tgt := 54) hx hb dX6_first_13 (by decide) (fun c_7 => ?_) (fun c_7 => ?_)
      · have hw := hw.1 c_7
        exact hKK x3_5 s_6 _ _ _ hw hC (lv_sub hl [0, 1, 2] rfl)
      · have hw := hw.2 c_7
        refine lv_aload_n hx hb dX6_first_16 rfl (lv_at hl 0 rfl) ?_
        refine lv_bipush (v := 8) hx hb dX6_first_17 (by decide) ?_
        refine lv_iload_n hx hb dX6_first_19 rfl (lv_at hl 1 rfl) ?_
        refine lv_imul hx hb dX6_first_20 ?_
        refine lv_iload_n hx hb dX6_first_21 rfl (lv_at hl 2 rfl) ?_
        refine lv_iadd hx hb dX6_first_22 ?_
        refine lv_iload_n hx hb dX6_first_23 rfl (lv_at hl 1 rfl) ?_
        refine lv_iload_n hx hb dX6_first_24 rfl (lv_at hl 2 rfl) ?_
        refine lv_icmp_ne (tgt := 32) hx hb dX6_first_25 (by decide) (fun c_8 => ?_) (fun c_8 => ?_)
        · have hw := hw.1 c_8
          refine lv_iload_n hx hb dX6_first_32 rfl (lv_at hl 1 rfl) ?_
          refine lv_if_eq (tgt := 40) hx hb dX6_first_33 (by decide) (fun c_9 => ?_) (fun c_9 => ?_)
          · have hw := hw.1 c_9
            refine lv_ldc (v := 200000) hx hb hown u1 dX6_first_40 ?_
            refine lv_goto (tgt := 47) hx hb dX6_first_42 (by decide) ?_
            refine cx_iast (f := s_6.2 10) hx hb hK hC 11 rfl hw.1 dX6_first_47 (ws' := (wM cI q (s_6.1, (va_up s_6.2 10 (upd (s_6.2 10) (Int32.toNatClampNeg ((8 * x2_4) + x3_5)) 200000))))) (wM_a10 cI q _ _) (fun H locs hC => ?_)
            have hw := hw.2
            refine lv_iinc (v := (x3_5 + 1)) (lv' := [(3, .int (x3_5 + 1)), (1, .ref (q 11)), (2, .int x2_4)]) hx hb dX6_first_48 hl (k := 2) rfl rfl (by decide) rfl (fun ls hl => ?_)
            refine lv_goto (tgt := 10) hx hb dX6_first_51 (by decide) ?_
            exact ih (x3_5 + 1) (s_6.1, (va_up s_6.2 10 (upd (s_6.2 10) (Int32.toNatClampNeg ((8 * x2_4) + x3_5)) 200000))) _ _ _ hw hC (lv_sub hl [1, 2, 0] rfl)
          · have hw := hw.2 c_9
            refine lv_iload_n hx hb dX6_first_36 rfl (lv_at hl 2 rfl) ?_
            refine lv_if_ne (tgt := 45) hx hb dX6_first_37 (by decide) (fun c_10 => ?_) (fun c_10 => ?_)
            · have hw := hw.1 c_10
              refine lv_ldc (v := 400000) hx hb hown u2 dX6_first_45 ?_
              refine cx_iast (f := s_6.2 10) hx hb hK hC 11 rfl hw.1 dX6_first_47 (ws' := (wM cI q (s_6.1, (va_up s_6.2 10 (upd (s_6.2 10) (Int32.toNatClampNeg ((8 * x2_4) + x3_5)) 400000))))) (wM_a10 cI q _ _) (fun H locs hC => ?_)
              have hw := hw.2
              refine lv_iinc (v := (x3_5 + 1)) (lv' := [(3, .int (x3_5 + 1)), (1, .ref (q 11)), (2, .int x2_4)]) hx hb dX6_first_48 hl (k := 2) rfl rfl (by decide) rfl (fun ls hl => ?_)
              refine lv_goto (tgt := 10) hx hb dX6_first_51 (by decide) ?_
              exact ih (x3_5 + 1) (s_6.1, (va_up s_6.2 10 (upd (s_6.2 10) (Int32.toNatClampNeg ((8 * x2_4) + x3_5)) 400000))) _ _ _ hw hC (lv_sub hl [1, 2, 0] rfl)
            · have hw := hw.2 c_10
              refine lv_ldc (v := 200000) hx hb hown u1 dX6_first_40 ?_
              refine lv_goto (tgt := 47) hx hb dX6_first_42 (by decide) ?_
              refine cx_iast (f := s_6.2 10) hx hb hK hC 11 rfl hw.1 dX6_first_47 (ws' := (wM cI q (s_6.1, (va_up s_6.2 10 (upd (s_6.2 10) (Int32.toNatClampNeg ((8 * x2_4) + x3_5)) 200000))))) (wM_a10 cI q _ _) (fun H locs hC => ?_)
              have hw := hw.2
              refine lv_iinc (v := (x3_5 + 1)) (lv' := [(3, .int (x3_5 + 1)), (1, .ref (q 11)), (2, .int x2_4)]) hx hb dX6_first_48 hl (k := 2) rfl rfl (by decide) rfl (fun ls hl => ?_)
              refine lv_goto (tgt := 10) hx hb dX6_first_51 (by decide) ?_
              exact ih (x3_5 + 1) (s_6.1, (va_up s_6.2 10 (upd (s_6.2 10) (Int32.toNatClampNeg ((8 * x2_4) + x3_5)) 200000))) _ _ _ hw hC (lv_sub hl [1, 2, 0] rfl)
        · have hw := hw.2 c_8
          refine lv_iconst (v := 0) hx hb dX6_first_28 (by decide) ?_
          refine lv_goto (tgt := 47) hx hb dX6_first_29 (by decide) ?_
          refine cx_iast (f := s_6.2 10) hx hb hK hC 11 rfl hw.1 dX6_first_47 (ws' := (wM cI q (s_6.1, (va_up s_6.2 10 (upd (s_6.2 10) (Int32.toNatClampNeg ((8 * x2_4) + x3_5)) 0))))) (wM_a10 cI q _ _) (fun H locs hC => ?_)
          have hw := hw.2
          refine lv_iinc (v := (x3_5 + 1)) (lv' := [(3, .int (x3_5 + 1)), (1, .ref (q 11)), (2, .int x2_4)]) hx hb dX6_first_48 hl (k := 2) rfl rfl (by decide) rfl (fun ls hl => ?_)
          refine lv_goto (tgt := 10) hx hb dX6_first_51 (by decide) ?_
          exact ih (x3_5 + 1) (s_6.1, (va_up s_6.2 10 (upd (s_6.2 10) (Int32.toNatClampNeg ((8 * x2_4) + x3_5)) 0))) _ _ _ hw hC (lv_sub hl [1, 2, 0] rfl)
  have L2 : ∀ (K : Int32 → St → Prop) (hKK : ∀ (x2_1 : Int32) (s_2 : St) (H : Heap) (locs : List Loc) (ls : Array Slot), K x2_1 s_2 → Cx D A s.heap (wM cI q s_2) H locs → lv_has ls 4 [(1, .ref (q 11)), (2, .int x2_1)] → W p l e (Rm 0 0) s m [.ref (q 0), .ref (q 11)].toArray below meth c H locs 0 0 (QV below D cI A (wM cI q) post [.ref (q 0), .ref (q 11)].toArray s) (F0 m 60 ls [])) (n : Nat), ∀ (x2_1 : Int32) (s_2 : St) (H : Heap) (locs : List Loc) (ls : Array Slot), w_X6_first_a10_L2 post K n x2_1 s_2 → Cx D A s.heap (wM cI q s_2) H locs → lv_has ls 4 [(1, .ref (q 11)), (2, .int x2_1)] → W p l e (Rm 0 0) s m [.ref (q 0), .ref (q 11)].toArray below meth c H locs 0 0 (QV below D cI A (wM cI q) post [.ref (q 0), .ref (q 11)].toArray s) (F0 m 2 ls []) := by
    intro  K hKK n
    induction n with
    | zero => intro x2_1 s_2 H locs ls hw; exact hw.elim
    | succ n ih =>
      intro x2_1 s_2 H locs ls hw hC hl
      refine lv_iload_n hx hb dX6_first_2 rfl (lv_at hl 1 rfl) ?_
      refine lv_bipush (v := 8) hx hb dX6_first_3 (by decide) ?_
      refine lv_icmp_ge (tgt := 60) hx hb dX6_first_5 (by decide) (fun c_3 => ?_) (fun c_3 => ?_)
      · have hw := hw.1 c_3
        exact hKK x2_1 s_2 _ _ _ hw hC (lv_sub hl [0, 1] rfl)
      · have hw := hw.2 c_3
        refine lv_iconst (v := 0) hx hb dX6_first_8 (by decide) ?_
        refine lv_istore_n (lv' := [(3, .int 0), (1, .ref (q 11)), (2, .int x2_1)]) hx hb dX6_first_9 rfl hl (by decide) rfl (fun ls hl => ?_)
        obtain ⟨n, hw⟩ := hw
        refine L10 x2_1 _ (fun x3_11 s_12 H locs ls hw hC hl => ?_) n 0 s_2 _ _ _ hw hC (lv_sub hl [1, 2, 0] rfl)
        refine lv_iinc (v := (x2_1 + 1)) (lv' := [(2, .int (x2_1 + 1)), (1, .ref (q 11)), (3, .int x3_11)]) hx hb dX6_first_54 hl (k := 1) rfl rfl (by decide) rfl (fun ls hl => ?_)
        refine lv_goto (tgt := 2) hx hb dX6_first_57 (by decide) ?_
        exact ih (x2_1 + 1) s_12 _ _ _ hw hC (lv_sub hl [1, 0] rfl)
  refine lv_iconst (v := 0) hx hb dX6_first_0 (by decide) ?_
  refine lv_istore_n (lv' := [(2, .int 0), (0, .ref (q 0)), (1, .ref (q 11))]) hx hb dX6_first_1 rfl hl (by decide) rfl (fun ls hl => ?_)
  obtain ⟨n, hw⟩ := hw
  refine L2  _ (fun x2_14 s_15 H locs ls hw hC hl => ?_) n 0 σ _ _ _ hw hC (lv_sub hl [2, 0] rfl)
  exact cx_ret_v (u := s_15) hx hb hr hlocks hK hC hw dX6_first_60

/-! PictureHeapModel.bounds([II)V (X6_bounds_a10) -/
set_option maxHeartbeats 1000000 in
set_option maxRecDepth 100000 in
theorem c_X6_bounds_a10 (l : Launch) (D : va_G) (cI : ClassId) (q : Nat → Nat) (sz : Nat) (σ : St) (x2 : Int32) (post : St → Prop) (hw : w_X6_bounds_a10 σ x2 post) : Cv l yX6_bounds wsX6_bounds 2 44 D cI (wM cI q σ) sz [.ref (q 0), .ref (q 11), .int x2] (wM cI q) post := by
  refine mo_v (cc := cX6_bounds) (maxL := 6) (ret := none) (by decide) rfl (Nat.le_of_ble_eq_true rfl) ?_
  intro p e s m below meth c hx hb hr hml hts hown hlocks hK A hA hC ls hl
  have hown : s.vm.findClass RX6 = some m.cls := hown
  have hl : lv_has ls 6 [(0, .ref (q 0)), (1, .ref (q 11)), (2, .int x2)] := hl
  have u1 : (Cond.fieldLink RX6 35 "PictureHeapModel" "tieKind" "[I").before [.ref (q 0), .ref (q 11), .int x2].toArray s = true := hts _ (List.mem_of_getElem? (i := 1) rfl)
  have u2 : (Cond.fieldLink RX6 20 "PictureHeapModel" "camera" "[I").before [.ref (q 0), .ref (q 11), .int x2].toArray s = true := hts _ (List.mem_of_getElem? (i := 2) rfl)
  have u3 : (Cond.fieldLink RX6 38 "PictureHeapModel" "one" "[I").before [.ref (q 0), .ref (q 11), .int x2].toArray s = true := hts _ (List.mem_of_getElem? (i := 3) rfl)
  have u4 : (Cond.fieldLink RX6 41 "PictureHeapModel" "two" "[I").before [.ref (q 0), .ref (q 11), .int x2].toArray s = true := hts _ (List.mem_of_getElem? (i := 4) rfl)
  have u5 : (Cond.fieldLink RX6 23 "PictureHeapModel" "clock" "[I").before [.ref (q 0), .ref (q 11), .int x2].toArray s = true := hts _ (List.mem_of_getElem? (i := 5) rfl)
  have u6 : (Cond.fieldLink RX6 44 "PictureHeapModel" "three" "[I").before [.ref (q 0), .ref (q 11), .int x2].toArray s = true := hts _ (List.mem_of_getElem? (i := 6) rfl)
  have iX6 : ∀ w ∈ wsX60, w ∈ wsX6_bounds := fun _ h => List.mem_cons_of_mem _ (List.mem_append_right _ h)
  refine lv_aload_n hx hb dX6_bounds_0 rfl (lv_at hl 0 rfl) ?_
  refine cx_get (v := .ref (q 7)) hx hb hts iX6 hown hK hC 0 rfl rfl 15 (by decide) u1 rfl rfl dX6_bounds_1 ?_
  refine lv_iload_n hx hb dX6_bounds_4 rfl (lv_at hl 2 rfl) ?_
  refine cx_iald (f := σ.2 6) hx hb hK hC 7 rfl hw.1 dX6_bounds_5 ?_
  have hw := hw.2
  rcases sw_l (σ.2 6 (Int32.toNatClampNeg x2)) with c0 | c0 | c0
  · refine lv_lookup (off := 26) (tgt := 32) hx hb dX6_bounds_6 (by decide) (by rw [c0]; rfl) (by decide) ?_
    have hw := hw.1 c0
    refine lv_aload_n hx hb dX6_bounds_32 rfl (lv_at hl 0 rfl) ?_
    refine cx_get (v := .ref (q 2)) hx hb hts iX6 hown hK hC 0 rfl rfl 10 (by decide) u2 rfl rfl dX6_bounds_33 ?_
    refine lv_aload_n hx hb dX6_bounds_36 rfl (lv_at hl 0 rfl) ?_
    refine cx_get (v := .ref (q 8)) hx hb hts iX6 hown hK hC 0 rfl rfl 16 (by decide) u3 rfl rfl dX6_bounds_37 ?_
    refine lv_iload_n hx hb dX6_bounds_40 rfl (lv_at hl 2 rfl) ?_
    refine cx_iald (f := σ.2 7) hx hb hK hC 8 rfl hw.1 dX6_bounds_41 ?_
    have hw := hw.2
    refine cx_iald (f := σ.2 1) hx hb hK hC 2 rfl hw.1 dX6_bounds_42 ?_
    have hw := hw.2
    refine lv_istore_n (lv' := [(3, .int (σ.2 1 (Int32.toNatClampNeg (σ.2 7 (Int32.toNatClampNeg x2))))), (0, .ref (q 0)), (1, .ref (q 11)), (2, .int x2)]) hx hb dX6_bounds_43 rfl hl (by decide) rfl (fun ls hl => ?_)
    refine lv_aload_n hx hb dX6_bounds_44 rfl (lv_at hl 1 rfl) ?_
    refine cx_get (v := .ref (q 2)) hx hb hts iX6 hown hK hC 0 rfl rfl 10 (by decide) u2 rfl rfl dX6_bounds_45 ?_
    refine lv_aload_n hx hb dX6_bounds_48 rfl (lv_at hl 1 rfl) ?_
    refine cx_get (v := .ref (q 9)) hx hb hts iX6 hown hK hC 0 rfl rfl 17 (by decide) u4 rfl rfl dX6_bounds_49 ?_
    refine lv_iload_n hx hb dX6_bounds_52 rfl (lv_at hl 3 rfl) ?_
    refine cx_iald (f := σ.2 8) hx hb hK hC 9 rfl hw.1 dX6_bounds_53 ?_
    have hw := hw.2
    refine cx_iald (f := σ.2 1) hx hb hK hC 2 rfl hw.1 dX6_bounds_54 ?_
    have hw := hw.2
    refine lv_istore (lv' := [(4, .int (σ.2 1 (Int32.toNatClampNeg (σ.2 8 (Int32.toNatClampNeg x2))))), (3, .int (σ.2 1 (Int32.toNatClampNeg (σ.2 7 (Int32.toNatClampNeg x2))))), (0, .ref (q 0)), (1, .ref (q 11)), (2, .int x2)]) hx hb dX6_bounds_55 hl (by decide) rfl (fun ls hl => ?_)
    refine lv_aload_n hx hb dX6_bounds_57 rfl (lv_at hl 2 rfl) ?_
    refine cx_get (v := .ref (q 3)) hx hb hts iX6 hown hK hC 0 rfl rfl 11 (by decide) u5 rfl rfl dX6_bounds_58 ?_
    refine lv_aload_n hx hb dX6_bounds_61 rfl (lv_at hl 2 rfl) ?_
    refine cx_get (v := .ref (q 9)) hx hb hts iX6 hown hK hC 0 rfl rfl 17 (by decide) u4 rfl rfl dX6_bounds_62 ?_
    refine lv_iload_n hx hb dX6_bounds_65 rfl (lv_at hl 4 rfl) ?_
    refine cx_iald (f := σ.2 8) hx hb hK hC 9 rfl hw.1 dX6_bounds_66 ?_
    have hw := hw.2
    refine cx_iald (f := σ.2 2) hx hb hK hC 3 rfl hw.1 dX6_bounds_67 ?_
    have hw := hw.2
    refine lv_aload_n hx hb dX6_bounds_68 rfl (lv_at hl 2 rfl) ?_
    refine cx_get (v := .ref (q 3)) hx hb hts iX6 hown hK hC 0 rfl rfl 11 (by decide) u5 rfl rfl dX6_bounds_69 ?_
    refine lv_aload_n hx hb dX6_bounds_72 rfl (lv_at hl 2 rfl) ?_
    refine cx_get (v := .ref (q 8)) hx hb hts iX6 hown hK hC 0 rfl rfl 16 (by decide) u3 rfl rfl dX6_bounds_73 ?_
    refine lv_iload_n hx hb dX6_bounds_76 rfl (lv_at hl 4 rfl) ?_
    refine cx_iald (f := σ.2 7) hx hb hK hC 8 rfl hw.1 dX6_bounds_77 ?_
    have hw := hw.2
    refine cx_iald (f := σ.2 2) hx hb hK hC 3 rfl hw.1 dX6_bounds_78 ?_
    have hw := hw.2
    refine lv_isub hx hb dX6_bounds_79 ?_
    refine lv_istore (lv' := [(5, .int ((σ.2 2 (Int32.toNatClampNeg (σ.2 8 (Int32.toNatClampNeg x2)))) - (σ.2 2 (Int32.toNatClampNeg (σ.2 7 (Int32.toNatClampNeg x2)))))), (4, .int (σ.2 1 (Int32.toNatClampNeg (σ.2 8 (Int32.toNatClampNeg x2))))), (3, .int (σ.2 1 (Int32.toNatClampNeg (σ.2 7 (Int32.toNatClampNeg x2))))), (0, .ref (q 0)), (1, .ref (q 11)), (2, .int x2)]) hx hb dX6_bounds_80 hl (by decide) rfl (fun ls hl => ?_)
    refine lv_aload_n hx hb dX6_bounds_82 rfl (lv_at hl 4 rfl) ?_
    refine lv_iload_n hx hb dX6_bounds_83 rfl (lv_at hl 2 rfl) ?_
    refine lv_iload hx hb dX6_bounds_84 (lv_at hl 1 rfl) ?_
    refine lv_aload_n hx hb dX6_bounds_86 rfl (lv_at hl 3 rfl) ?_
    refine cx_get (v := .ref (q 10)) hx hb hts iX6 hown hK hC 0 rfl rfl 18 (by decide) u6 rfl rfl dX6_bounds_87 ?_
    refine lv_iload_n hx hb dX6_bounds_90 rfl (lv_at hl 5 rfl) ?_
    refine cx_iald (f := σ.2 9) hx hb hK hC 10 rfl hw.1 dX6_bounds_91 ?_
    have hw := hw.2
    refine lv_iload hx hb dX6_bounds_92 (lv_at hl 0 rfl) ?_
    refine lv_iadd hx hb dX6_bounds_94 ?_
    refine cx_callSv (As := [.ref (q 11), .int (σ.2 1 (Int32.toNatClampNeg (σ.2 7 (Int32.toNatClampNeg x2)))), .int (σ.2 1 (Int32.toNatClampNeg (σ.2 8 (Int32.toNatClampNeg x2)))), .int ((σ.2 9 (Int32.toNatClampNeg x2)) + ((σ.2 2 (Int32.toNatClampNeg (σ.2 8 (Int32.toNatClampNeg x2)))) - (σ.2 2 (Int32.toNatClampNeg (σ.2 7 (Int32.toNatClampNeg x2))))))]) (rest := []) (ws' := fun u_2 => (wM cI q (σ.1, (va_up σ.2 10 u_2)))) ⟨hx, hb, hml, hown, hts⟩ (c_X6_least l D cI (q 11) _ (σ.2 10) (σ.2 1 (Int32.toNatClampNeg (σ.2 7 (Int32.toNatClampNeg x2)))) (σ.2 1 (Int32.toNatClampNeg (σ.2 8 (Int32.toNatClampNeg x2)))) ((σ.2 9 (Int32.toNatClampNeg x2)) + ((σ.2 2 (Int32.toNatClampNeg (σ.2 8 (Int32.toNatClampNeg x2)))) - (σ.2 2 (Int32.toNatClampNeg (σ.2 7 (Int32.toNatClampNeg x2)))))) _ hw) (va_cwS 4 hts gX6_bounds_X6_least rfl rfl rfl (by decide +kernel) ⟨Nat.le_of_ble_eq_true rfl, Nat.le_of_ble_eq_true rfl⟩) hK hC hA [11] [0, 1, 2, 3, 4, 5, 6, 7, 8, 9, 10, 12, 13, 14, 15, 16, 17, 18] (by decide) rfl (wr := [_, _, _, _, _, _, _, _, _, _, _, _, _, _, _, _, _, _]) rfl (by decide) (by decide) rfl hl.1 rfl (Nat.le_of_ble_eq_true rfl) dX6_bounds_95 ⟨Nat.zero_le _, Nat.zero_le _⟩ [0, 1, 2, 3, 4, 5, 6, 7, 8, 9, 10, 18, 11, 12, 13, 14, 15, 16, 17] (by decide) (fun _ => rfl) (fun u_2 H locs hw hC => ?_)
    refine lv_aload_n hx hb dX6_bounds_98 rfl (lv_at hl 4 rfl) ?_
    refine lv_iload hx hb dX6_bounds_99 (lv_at hl 1 rfl) ?_
    refine lv_iload_n hx hb dX6_bounds_101 rfl (lv_at hl 2 rfl) ?_
    refine lv_aload_n hx hb dX6_bounds_102 rfl (lv_at hl 3 rfl) ?_
    refine cx_get (v := .ref (q 10)) hx hb hts iX6 hown hK hC 0 rfl rfl 18 (by decide) u6 rfl rfl dX6_bounds_103 ?_
    refine lv_iload_n hx hb dX6_bounds_106 rfl (lv_at hl 5 rfl) ?_
    refine cx_iald (f := σ.2 9) hx hb hK hC 10 rfl hw.1 dX6_bounds_107 ?_
    have hw := hw.2
    refine lv_iload hx hb dX6_bounds_108 (lv_at hl 0 rfl) ?_
    refine lv_isub hx hb dX6_bounds_110 ?_
    refine cx_callSv (As := [.ref (q 11), .int (σ.2 1 (Int32.toNatClampNeg (σ.2 8 (Int32.toNatClampNeg x2)))), .int (σ.2 1 (Int32.toNatClampNeg (σ.2 7 (Int32.toNatClampNeg x2)))), .int ((σ.2 9 (Int32.toNatClampNeg x2)) - ((σ.2 2 (Int32.toNatClampNeg (σ.2 8 (Int32.toNatClampNeg x2)))) - (σ.2 2 (Int32.toNatClampNeg (σ.2 7 (Int32.toNatClampNeg x2))))))]) (rest := []) (ws' := fun u_4 => (wM cI q (σ.1, (va_up (va_up σ.2 10 u_2) 10 u_4)))) ⟨hx, hb, hml, hown, hts⟩ (c_X6_least l D cI (q 11) _ (u_2) (σ.2 1 (Int32.toNatClampNeg (σ.2 8 (Int32.toNatClampNeg x2)))) (σ.2 1 (Int32.toNatClampNeg (σ.2 7 (Int32.toNatClampNeg x2)))) ((σ.2 9 (Int32.toNatClampNeg x2)) - ((σ.2 2 (Int32.toNatClampNeg (σ.2 8 (Int32.toNatClampNeg x2)))) - (σ.2 2 (Int32.toNatClampNeg (σ.2 7 (Int32.toNatClampNeg x2)))))) _ hw) (va_cwS 4 hts gX6_bounds_X6_least rfl rfl rfl (by decide +kernel) ⟨Nat.le_of_ble_eq_true rfl, Nat.le_of_ble_eq_true rfl⟩) hK hC hA [11] [0, 1, 2, 3, 4, 5, 6, 7, 8, 9, 10, 12, 13, 14, 15, 16, 17, 18] (by decide) rfl (wr := [_, _, _, _, _, _, _, _, _, _, _, _, _, _, _, _, _, _]) rfl (by decide) (by decide) rfl hl.1 rfl (Nat.le_of_ble_eq_true rfl) dX6_bounds_111 ⟨Nat.zero_le _, Nat.zero_le _⟩ [0, 1, 2, 3, 4, 5, 6, 7, 8, 9, 10, 18, 11, 12, 13, 14, 15, 16, 17] (by decide) (fun _ => rfl) (fun u_4 H locs hw hC => ?_)
    refine lv_goto (tgt := 206) hx hb dX6_bounds_114 (by decide) ?_
    exact cx_ret_v (u := (σ.1, (va_up (va_up σ.2 10 u_2) 10 u_4))) hx hb hr hlocks hK hC hw dX6_bounds_206
  · refine lv_lookup (off := 111) (tgt := 117) hx hb dX6_bounds_6 (by decide) (by rw [c0]; rfl) (by decide) ?_
    have hw := hw.2.1 c0
    refine lv_aload_n hx hb dX6_bounds_117 rfl (lv_at hl 1 rfl) ?_
    refine lv_aload_n hx hb dX6_bounds_118 rfl (lv_at hl 0 rfl) ?_
    refine cx_get (v := .ref (q 2)) hx hb hts iX6 hown hK hC 0 rfl rfl 10 (by decide) u2 rfl rfl dX6_bounds_119 ?_
    refine lv_aload_n hx hb dX6_bounds_122 rfl (lv_at hl 0 rfl) ?_
    refine cx_get (v := .ref (q 8)) hx hb hts iX6 hown hK hC 0 rfl rfl 16 (by decide) u3 rfl rfl dX6_bounds_123 ?_
    refine lv_iload_n hx hb dX6_bounds_126 rfl (lv_at hl 2 rfl) ?_
    refine cx_iald (f := σ.2 7) hx hb hK hC 8 rfl hw.1 dX6_bounds_127 ?_
    have hw := hw.2
    refine cx_iald (f := σ.2 1) hx hb hK hC 2 rfl hw.1 dX6_bounds_128 ?_
    have hw := hw.2
    refine lv_aload_n hx hb dX6_bounds_129 rfl (lv_at hl 0 rfl) ?_
    refine cx_get (v := .ref (q 2)) hx hb hts iX6 hown hK hC 0 rfl rfl 10 (by decide) u2 rfl rfl dX6_bounds_130 ?_
    refine lv_aload_n hx hb dX6_bounds_133 rfl (lv_at hl 0 rfl) ?_
    refine cx_get (v := .ref (q 9)) hx hb hts iX6 hown hK hC 0 rfl rfl 17 (by decide) u4 rfl rfl dX6_bounds_134 ?_
    refine lv_iload_n hx hb dX6_bounds_137 rfl (lv_at hl 2 rfl) ?_
    refine cx_iald (f := σ.2 8) hx hb hK hC 9 rfl hw.1 dX6_bounds_138 ?_
    have hw := hw.2
    refine cx_iald (f := σ.2 1) hx hb hK hC 2 rfl hw.1 dX6_bounds_139 ?_
    have hw := hw.2
    refine lv_aload_n hx hb dX6_bounds_140 rfl (lv_at hl 0 rfl) ?_
    refine cx_get (v := .ref (q 3)) hx hb hts iX6 hown hK hC 0 rfl rfl 11 (by decide) u5 rfl rfl dX6_bounds_141 ?_
    refine lv_aload_n hx hb dX6_bounds_144 rfl (lv_at hl 0 rfl) ?_
    refine cx_get (v := .ref (q 9)) hx hb hts iX6 hown hK hC 0 rfl rfl 17 (by decide) u4 rfl rfl dX6_bounds_145 ?_
    refine lv_iload_n hx hb dX6_bounds_148 rfl (lv_at hl 2 rfl) ?_
    refine cx_iald (f := σ.2 8) hx hb hK hC 9 rfl hw.1 dX6_bounds_149 ?_
    have hw := hw.2
    refine cx_iald (f := σ.2 2) hx hb hK hC 3 rfl hw.1 dX6_bounds_150 ?_
    have hw := hw.2
    refine lv_aload_n hx hb dX6_bounds_151 rfl (lv_at hl 0 rfl) ?_
    refine cx_get (v := .ref (q 3)) hx hb hts iX6 hown hK hC 0 rfl rfl 11 (by decide) u5 rfl rfl dX6_bounds_152 ?_
    refine lv_aload_n hx hb dX6_bounds_155 rfl (lv_at hl 0 rfl) ?_
    refine cx_get (v := .ref (q 8)) hx hb hts iX6 hown hK hC 0 rfl rfl 16 (by decide) u3 rfl rfl dX6_bounds_156 ?_
    refine lv_iload_n hx hb dX6_bounds_159 rfl (lv_at hl 2 rfl) ?_
    refine cx_iald (f := σ.2 7) hx hb hK hC 8 rfl hw.1 dX6_bounds_160 ?_
    have hw := hw.2
    refine cx_iald (f := σ.2 2) hx hb hK hC 3 rfl hw.1 dX6_bounds_161 ?_
    have hw := hw.2
    refine lv_isub hx hb dX6_bounds_162 ?_
    refine lv_iconst (v := 1) hx hb dX6_bounds_163 (by decide) ?_
    refine lv_isub hx hb dX6_bounds_164 ?_
    refine cx_callSv (As := [.ref (q 11), .int (σ.2 1 (Int32.toNatClampNeg (σ.2 7 (Int32.toNatClampNeg x2)))), .int (σ.2 1 (Int32.toNatClampNeg (σ.2 8 (Int32.toNatClampNeg x2)))), .int (((σ.2 2 (Int32.toNatClampNeg (σ.2 8 (Int32.toNatClampNeg x2)))) - (σ.2 2 (Int32.toNatClampNeg (σ.2 7 (Int32.toNatClampNeg x2))))) - 1)]) (rest := []) (ws' := fun u_6 => (wM cI q (σ.1, (va_up σ.2 10 u_6)))) ⟨hx, hb, hml, hown, hts⟩ (c_X6_least l D cI (q 11) _ (σ.2 10) (σ.2 1 (Int32.toNatClampNeg (σ.2 7 (Int32.toNatClampNeg x2)))) (σ.2 1 (Int32.toNatClampNeg (σ.2 8 (Int32.toNatClampNeg x2)))) (((σ.2 2 (Int32.toNatClampNeg (σ.2 8 (Int32.toNatClampNeg x2)))) - (σ.2 2 (Int32.toNatClampNeg (σ.2 7 (Int32.toNatClampNeg x2))))) - 1) _ hw) (va_cwS 4 hts gX6_bounds_X6_least rfl rfl rfl (by decide +kernel) ⟨Nat.le_of_ble_eq_true rfl, Nat.le_of_ble_eq_true rfl⟩) hK hC hA [11] [0, 1, 2, 3, 4, 5, 6, 7, 8, 9, 10, 12, 13, 14, 15, 16, 17, 18] (by decide) rfl (wr := [_, _, _, _, _, _, _, _, _, _, _, _, _, _, _, _, _, _]) rfl (by decide) (by decide) rfl hl.1 rfl (Nat.le_of_ble_eq_true rfl) dX6_bounds_165 ⟨Nat.zero_le _, Nat.zero_le _⟩ [0, 1, 2, 3, 4, 5, 6, 7, 8, 9, 10, 18, 11, 12, 13, 14, 15, 16, 17] (by decide) (fun _ => rfl) (fun u_6 H locs hw hC => ?_)
    refine lv_goto (tgt := 206) hx hb dX6_bounds_168 (by decide) ?_
    exact cx_ret_v (u := (σ.1, (va_up σ.2 10 u_6))) hx hb hr hlocks hK hC hw dX6_bounds_206
  · refine lv_lookup (off := 165) (tgt := 171) hx hb dX6_bounds_6 (by decide) (sw_lo c0) (by decide) ?_
    have hw := hw.2.2 c0
    refine lv_aload_n hx hb dX6_bounds_171 rfl (lv_at hl 1 rfl) ?_
    refine lv_aload_n hx hb dX6_bounds_172 rfl (lv_at hl 0 rfl) ?_
    refine cx_get (v := .ref (q 8)) hx hb hts iX6 hown hK hC 0 rfl rfl 16 (by decide) u3 rfl rfl dX6_bounds_173 ?_
    refine lv_iload_n hx hb dX6_bounds_176 rfl (lv_at hl 2 rfl) ?_
    refine cx_iald (f := σ.2 7) hx hb hK hC 8 rfl hw.1 dX6_bounds_177 ?_
    have hw := hw.2
    refine lv_iconst (v := 0) hx hb dX6_bounds_178 (by decide) ?_
    refine lv_aload_n hx hb dX6_bounds_179 rfl (lv_at hl 0 rfl) ?_
    refine cx_get (v := .ref (q 10)) hx hb hts iX6 hown hK hC 0 rfl rfl 18 (by decide) u6 rfl rfl dX6_bounds_180 ?_
    refine lv_iload_n hx hb dX6_bounds_183 rfl (lv_at hl 2 rfl) ?_
    refine cx_iald (f := σ.2 9) hx hb hK hC 10 rfl hw.1 dX6_bounds_184 ?_
    have hw := hw.2
    refine cx_callSv (As := [.ref (q 11), .int (σ.2 7 (Int32.toNatClampNeg x2)), .int 0, .int (σ.2 9 (Int32.toNatClampNeg x2))]) (rest := []) (ws' := fun u_8 => (wM cI q (σ.1, (va_up σ.2 10 u_8)))) ⟨hx, hb, hml, hown, hts⟩ (c_X6_least l D cI (q 11) _ (σ.2 10) (σ.2 7 (Int32.toNatClampNeg x2)) 0 (σ.2 9 (Int32.toNatClampNeg x2)) _ hw) (va_cwS 4 hts gX6_bounds_X6_least rfl rfl rfl (by decide +kernel) ⟨Nat.le_of_ble_eq_true rfl, Nat.le_of_ble_eq_true rfl⟩) hK hC hA [11] [0, 1, 2, 3, 4, 5, 6, 7, 8, 9, 10, 12, 13, 14, 15, 16, 17, 18] (by decide) rfl (wr := [_, _, _, _, _, _, _, _, _, _, _, _, _, _, _, _, _, _]) rfl (by decide) (by decide) rfl hl.1 rfl (Nat.le_of_ble_eq_true rfl) dX6_bounds_185 ⟨Nat.zero_le _, Nat.zero_le _⟩ [0, 1, 2, 3, 4, 5, 6, 7, 8, 9, 10, 18, 11, 12, 13, 14, 15, 16, 17] (by decide) (fun _ => rfl) (fun u_8 H locs hw hC => ?_)
    refine lv_aload_n hx hb dX6_bounds_188 rfl (lv_at hl 1 rfl) ?_
    refine lv_iconst (v := 0) hx hb dX6_bounds_189 (by decide) ?_
    refine lv_aload_n hx hb dX6_bounds_190 rfl (lv_at hl 0 rfl) ?_
    refine cx_get (v := .ref (q 8)) hx hb hts iX6 hown hK hC 0 rfl rfl 16 (by decide) u3 rfl rfl dX6_bounds_191 ?_
    refine lv_iload_n hx hb dX6_bounds_194 rfl (lv_at hl 2 rfl) ?_
    refine cx_iald (f := σ.2 7) hx hb hK hC 8 rfl hw.1 dX6_bounds_195 ?_
    have hw := hw.2
    refine lv_aload_n hx hb dX6_bounds_196 rfl (lv_at hl 0 rfl) ?_
    refine cx_get (v := .ref (q 9)) hx hb hts iX6 hown hK hC 0 rfl rfl 17 (by decide) u4 rfl rfl dX6_bounds_197 ?_
    refine lv_iload_n hx hb dX6_bounds_200 rfl (lv_at hl 2 rfl) ?_
    refine cx_iald (f := σ.2 8) hx hb hK hC 9 rfl hw.1 dX6_bounds_201 ?_
    have hw := hw.2
    refine lv_ineg hx hb dX6_bounds_202 ?_
    refine cx_callSv (As := [.ref (q 11), .int 0, .int (σ.2 7 (Int32.toNatClampNeg x2)), .int (-(σ.2 8 (Int32.toNatClampNeg x2)))]) (rest := []) (ws' := fun u_10 => (wM cI q (σ.1, (va_up (va_up σ.2 10 u_8) 10 u_10)))) ⟨hx, hb, hml, hown, hts⟩ (c_X6_least l D cI (q 11) _ (u_8) 0 (σ.2 7 (Int32.toNatClampNeg x2)) (-(σ.2 8 (Int32.toNatClampNeg x2))) _ hw) (va_cwS 4 hts gX6_bounds_X6_least rfl rfl rfl (by decide +kernel) ⟨Nat.le_of_ble_eq_true rfl, Nat.le_of_ble_eq_true rfl⟩) hK hC hA [11] [0, 1, 2, 3, 4, 5, 6, 7, 8, 9, 10, 12, 13, 14, 15, 16, 17, 18] (by decide) rfl (wr := [_, _, _, _, _, _, _, _, _, _, _, _, _, _, _, _, _, _]) rfl (by decide) (by decide) rfl hl.1 rfl (Nat.le_of_ble_eq_true rfl) dX6_bounds_203 ⟨Nat.zero_le _, Nat.zero_le _⟩ [0, 1, 2, 3, 4, 5, 6, 7, 8, 9, 10, 18, 11, 12, 13, 14, 15, 16, 17] (by decide) (fun _ => rfl) (fun u_10 H locs hw hC => ?_)
    exact cx_ret_v (u := (σ.1, (va_up (va_up σ.2 10 u_8) 10 u_10))) hx hb hr hlocks hK hC hw dX6_bounds_206

/-! PictureHeapModel.closed([II)Z (X6_closed_a10) -/
set_option maxHeartbeats 1000000 in
set_option maxRecDepth 100000 in
theorem c_X6_closed_a10 (l : Launch) (D : va_G) (cI : ClassId) (q : Nat → Nat) (sz : Nat) (σ : St) (x2 : Int32) (post : Int32 → St → Prop) (hw : w_X6_closed_a10 σ x2 post) : Ci l yX6_closed wsX6_closed 3 69 D cI (wM cI q σ) sz [.ref (q 0), .ref (q 11), .int x2] (wM cI q) post := by
  refine mo_i (cc := cX6_closed) (maxL := 4) (ret := (some .boolean)) (by decide) rfl (Nat.le_of_ble_eq_true rfl) ?_
  intro p e s m below meth c hx hb hr hml hts hown hlocks hK A hA hC ls hl
  have hown : s.vm.findClass RX6 = some m.cls := hown
  have hl : lv_has ls 4 [(0, .ref (q 0)), (1, .ref (q 11)), (2, .int x2)] := hl
  have u1 : (Cond.fieldLink RX6 132 "PictureHeapModel" "ties" "I").before [.ref (q 0), .ref (q 11), .int x2].toArray s = true := hts _ (List.mem_of_getElem? (i := 1) rfl)
  have iX6 : ∀ w ∈ wsX60, w ∈ wsX6_closed := fun _ h => List.mem_cons_of_mem _ (List.mem_append_right _ h)
  have L7 : ∀ (x2_3 : Int32) (K : Int32 → St → Prop) (hKK : ∀ (x3_4 : Int32) (s_5 : St) (H : Heap) (locs : List Loc) (ls : Array Slot), K x3_4 s_5 → Cx D A s.heap (wM cI q s_5) H locs → lv_has ls 4 [(0, .ref (q 0)), (1, .ref (q 11)), (2, .int x2_3), (3, .int x3_4)] → W p l e (Rm 3 69) s m [.ref (q 0), .ref (q 11), .int x2].toArray below meth c H locs 0 0 (QI below D cI A (wM cI q) post [.ref (q 0), .ref (q 11), .int x2].toArray s) (F0 m 32 ls [])) (n : Nat), ∀ (x3_4 : Int32) (s_5 : St) (H : Heap) (locs : List Loc) (ls : Array Slot), w_X6_closed_a10_L7 x2_3 post K n x3_4 s_5 → Cx D A s.heap (wM cI q s_5) H locs → lv_has ls 4 [(0, .ref (q 0)), (1, .ref (q 11)), (2, .int x2_3), (3, .int x3_4)] → W p l e (Rm 3 69) s m [.ref (q 0), .ref (q 11), .int x2].toArray below meth c H locs 0 0 (QI below D cI A (wM cI q) post [.ref (q 0), .ref (q 11), .int x2].toArray s) (F0 m 7 ls []) := by
    intro x2_3 K hKK n
    induction n with
    | zero => intro x3_4 s_5 H locs ls hw; exact hw.elim
    | succ n ih =>
      intro x3_4 s_5 H locs ls hw hC hl
      refine lv_iload_n hx hb dX6_closed_7 rfl (lv_at hl 3 rfl) ?_
      refine lv_aload_n hx hb dX6_closed_8 rfl (lv_at hl 0 rfl) ?_
      refine cx_get (v := .int (s_5.1 5)) hx hb hts iX6 hown hK hC 0 rfl rfl 5 (by decide) u1 rfl rfl dX6_closed_9 ?_
      refine lv_icmp_ge (tgt := 32) hx hb dX6_closed_12 (by decide) (fun c_6 => ?_) (fun c_6 => ?_)
      · have hw := hw.1 c_6
        exact hKK x3_4 s_5 _ _ _ hw hC (lv_sub hl [0, 1, 2, 3] rfl)
      · have hw := hw.2 c_6
        refine lv_iload_n hx hb dX6_closed_15 rfl (lv_at hl 3 rfl) ?_
        refine lv_iload_n hx hb dX6_closed_16 rfl (lv_at hl 2 rfl) ?_
        refine lv_icmp_eq (tgt := 26) hx hb dX6_closed_17 (by decide) (fun c_7 => ?_) (fun c_7 => ?_)
        · have hw := hw.1 c_7
          refine lv_iinc (v := (x3_4 + 1)) (lv' := [(3, .int (x3_4 + 1)), (0, .ref (q 0)), (1, .ref (q 11)), (2, .int x2_3)]) hx hb dX6_closed_26 hl (k := 3) rfl rfl (by decide) rfl (fun ls hl => ?_)
          refine lv_goto (tgt := 7) hx hb dX6_closed_29 (by decide) ?_
          exact ih (x3_4 + 1) s_5 _ _ _ hw hC (lv_sub hl [1, 2, 3, 0] rfl)
        · have hw := hw.2 c_7
          refine lv_aload_n hx hb dX6_closed_20 rfl (lv_at hl 0 rfl) ?_
          refine lv_aload_n hx hb dX6_closed_21 rfl (lv_at hl 1 rfl) ?_
          refine lv_iload_n hx hb dX6_closed_22 rfl (lv_at hl 3 rfl) ?_
          refine cx_callVv0 (As := [.ref (q 11), .int x3_4]) (rest := []) ⟨hx, hb, hml, hown, hts⟩ (c_X6_bounds_a10 l D cI q _ s_5 x3_4 _ hw) (cwV 2 hts gX6_closed_X6_bounds rfl rfl rfl (by decide +kernel) ⟨Nat.le_of_ble_eq_true rfl, Nat.le_of_ble_eq_true rfl⟩) hK hC hA 0 rfl rfl rfl rfl hl.1 rfl (Nat.le_of_ble_eq_true rfl) dX6_closed_23 ⟨Nat.zero_le _, Nat.zero_le _⟩ (fun u_9 H locs hw hC => ?_)
          refine lv_iinc (v := (x3_4 + 1)) (lv' := [(3, .int (x3_4 + 1)), (0, .ref (q 0)), (1, .ref (q 11)), (2, .int x2_3)]) hx hb dX6_closed_26 hl (k := 3) rfl rfl (by decide) rfl (fun ls hl => ?_)
          refine lv_goto (tgt := 7) hx hb dX6_closed_29 (by decide) ?_
          exact ih (x3_4 + 1) u_9 _ _ _ hw hC (lv_sub hl [1, 2, 3, 0] rfl)
  refine lv_aload_n hx hb dX6_closed_0 rfl (lv_at hl 0 rfl) ?_
  refine lv_aload_n hx hb dX6_closed_1 rfl (lv_at hl 1 rfl) ?_
  refine cx_callVv0 (As := [.ref (q 11)]) (rest := []) ⟨hx, hb, hml, hown, hts⟩ (c_X6_first_a10 l D cI q _ σ  _ hw) (cwV 1 hts gX6_closed_X6_first rfl rfl rfl (by decide +kernel) ⟨Nat.le_of_ble_eq_true rfl, Nat.le_of_ble_eq_true rfl⟩) hK hC hA 0 rfl rfl rfl rfl hl.1 rfl (Nat.le_of_ble_eq_true rfl) dX6_closed_2 ⟨Nat.zero_le _, Nat.zero_le _⟩ (fun u_2 H locs hw hC => ?_)
  refine lv_iconst (v := 0) hx hb dX6_closed_5 (by decide) ?_
  refine lv_istore_n (lv' := [(3, .int 0), (0, .ref (q 0)), (1, .ref (q 11)), (2, .int x2)]) hx hb dX6_closed_6 rfl hl (by decide) rfl (fun ls hl => ?_)
  obtain ⟨n, hw⟩ := hw
  refine L7 x2 _ (fun x3_10 s_11 H locs ls hw hC hl => ?_) n 0 u_2 _ _ _ hw hC (lv_sub hl [1, 2, 3, 0] rfl)
  refine lv_aload_n hx hb dX6_closed_32 rfl (lv_at hl 1 rfl) ?_
  refine cx_callSi (As := [.ref (q 11)]) (rest := []) (ws' := fun u_13 => (wM cI q (s_11.1, (va_up s_11.2 10 u_13)))) ⟨hx, hb, hml, hown, hts⟩ (c_X6_closes l D cI (q 11) _ (s_11.2 10)  _ hw) (va_cwS 1 hts gX6_closed_X6_closes rfl rfl rfl (by decide +kernel) ⟨Nat.le_of_ble_eq_true rfl, Nat.le_of_ble_eq_true rfl⟩) hK hC hA [11] [0, 1, 2, 3, 4, 5, 6, 7, 8, 9, 10, 12, 13, 14, 15, 16, 17, 18] (by decide) rfl (wr := [_, _, _, _, _, _, _, _, _, _, _, _, _, _, _, _, _, _]) rfl (by decide) (by decide) rfl hl.1 rfl (Nat.le_of_ble_eq_true rfl) dX6_closed_33 ⟨Nat.zero_le _, Nat.zero_le _⟩ [0, 1, 2, 3, 4, 5, 6, 7, 8, 9, 10, 18, 11, 12, 13, 14, 15, 16, 17] (by decide) (fun _ => rfl) (fun r_12 u_13 H locs hw hC => ?_)
  exact cx_ret_z (u := (s_11.1, (va_up s_11.2 10 u_13))) hx hb hr hlocks hK hC hw.1 hw.2 dX6_closed_36

/-! PictureHeapModel.first([I)V (X6_first_a12) -/
set_option maxHeartbeats 1000000 in
set_option maxRecDepth 100000 in
theorem c_X6_first_a12 (l : Launch) (D : va_G) (cI : ClassId) (q : Nat → Nat) (sz : Nat) (σ : St) (post : St → Prop) (hw : w_X6_first_a12 σ post) : Cv l yX6_first wsX6_first 0 0 D cI (wM cI q σ) sz [.ref (q 0), .ref (q 13)] (wM cI q) post := by
  refine mo_v (cc := cX6_first) (maxL := 4) (ret := none) (by decide) rfl (Nat.le_of_ble_eq_true rfl) ?_
  intro p e s m below meth c hx hb hr hml hts hown hlocks hK A hA hC ls hl
  have hown : s.vm.findClass RX6 = some m.cls := hown
  have hl : lv_has ls 4 [(0, .ref (q 0)), (1, .ref (q 13))] := hl
  have u1 : (Cond.constant RX6 126 (200000)).before [.ref (q 0), .ref (q 13)].toArray s = true := hts _ (List.mem_of_getElem? (i := 1) rfl)
  have u2 : (Cond.constant RX6 127 (400000)).before [.ref (q 0), .ref (q 13)].toArray s = true := hts _ (List.mem_of_getElem? (i := 2) rfl)
  have L10 : ∀ (x2_4 : Int32) (K : Int32 → St → Prop) (hKK : ∀ (x3_5 : Int32) (s_6 : St) (H : Heap) (locs : List Loc) (ls : Array Slot), K x3_5 s_6 → Cx D A s.heap (wM cI q s_6) H locs → lv_has ls 4 [(1, .ref (q 13)), (2, .int x2_4), (3, .int x3_5)] → W p l e (Rm 0 0) s m [.ref (q 0), .ref (q 13)].toArray below meth c H locs 0 0 (QV below D cI A (wM cI q) post [.ref (q 0), .ref (q 13)].toArray s) (F0 m 54 ls [])) (n : Nat), ∀ (x3_5 : Int32) (s_6 : St) (H : Heap) (locs : List Loc) (ls : Array Slot), w_X6_first_a12_L10 x2_4 post K n x3_5 s_6 → Cx D A s.heap (wM cI q s_6) H locs → lv_has ls 4 [(1, .ref (q 13)), (2, .int x2_4), (3, .int x3_5)] → W p l e (Rm 0 0) s m [.ref (q 0), .ref (q 13)].toArray below meth c H locs 0 0 (QV below D cI A (wM cI q) post [.ref (q 0), .ref (q 13)].toArray s) (F0 m 10 ls []) := by
    intro x2_4 K hKK n
    induction n with
    | zero => intro x3_5 s_6 H locs ls hw; exact hw.elim
    | succ n ih =>
      intro x3_5 s_6 H locs ls hw hC hl
      refine lv_iload_n hx hb dX6_first_10 rfl (lv_at hl 2 rfl) ?_
      refine lv_bipush (v := 8) hx hb dX6_first_11 (by decide) ?_
      refine lv_icmp_ge (tgt := 54) hx hb dX6_first_13 (by decide) (fun c_7 => ?_) (fun c_7 => ?_)
      · have hw := hw.1 c_7
        exact hKK x3_5 s_6 _ _ _ hw hC (lv_sub hl [0, 1, 2] rfl)
      · have hw := hw.2 c_7
        refine lv_aload_n hx hb dX6_first_16 rfl (lv_at hl 0 rfl) ?_
        refine lv_bipush (v := 8) hx hb dX6_first_17 (by decide) ?_
        refine lv_iload_n hx hb dX6_first_19 rfl (lv_at hl 1 rfl) ?_
        refine lv_imul hx hb dX6_first_20 ?_
        refine lv_iload_n hx hb dX6_first_21 rfl (lv_at hl 2 rfl) ?_
        refine lv_iadd hx hb dX6_first_22 ?_
        refine lv_iload_n hx hb dX6_first_23 rfl (lv_at hl 1 rfl) ?_
        refine lv_iload_n hx hb dX6_first_24 rfl (lv_at hl 2 rfl) ?_
        refine lv_icmp_ne (tgt := 32) hx hb dX6_first_25 (by decide) (fun c_8 => ?_) (fun c_8 => ?_)
        · have hw := hw.1 c_8
          refine lv_iload_n hx hb dX6_first_32 rfl (lv_at hl 1 rfl) ?_
          refine lv_if_eq (tgt := 40) hx hb dX6_first_33 (by decide) (fun c_9 => ?_) (fun c_9 => ?_)
          · have hw := hw.1 c_9
            refine lv_ldc (v := 200000) hx hb hown u1 dX6_first_40 ?_
            refine lv_goto (tgt := 47) hx hb dX6_first_42 (by decide) ?_
            refine cx_iast (f := s_6.2 12) hx hb hK hC 13 rfl hw.1 dX6_first_47 (ws' := (wM cI q (s_6.1, (va_up s_6.2 12 (upd (s_6.2 12) (Int32.toNatClampNeg ((8 * x2_4) + x3_5)) 200000))))) (wM_a12 cI q _ _) (fun H locs hC => ?_)
            have hw := hw.2
            refine lv_iinc (v := (x3_5 + 1)) (lv' := [(3, .int (x3_5 + 1)), (1, .ref (q 13)), (2, .int x2_4)]) hx hb dX6_first_48 hl (k := 2) rfl rfl (by decide) rfl (fun ls hl => ?_)
            refine lv_goto (tgt := 10) hx hb dX6_first_51 (by decide) ?_
            exact ih (x3_5 + 1) (s_6.1, (va_up s_6.2 12 (upd (s_6.2 12) (Int32.toNatClampNeg ((8 * x2_4) + x3_5)) 200000))) _ _ _ hw hC (lv_sub hl [1, 2, 0] rfl)
          · have hw := hw.2 c_9
            refine lv_iload_n hx hb dX6_first_36 rfl (lv_at hl 2 rfl) ?_
            refine lv_if_ne (tgt := 45) hx hb dX6_first_37 (by decide) (fun c_10 => ?_) (fun c_10 => ?_)
            · have hw := hw.1 c_10
              refine lv_ldc (v := 400000) hx hb hown u2 dX6_first_45 ?_
              refine cx_iast (f := s_6.2 12) hx hb hK hC 13 rfl hw.1 dX6_first_47 (ws' := (wM cI q (s_6.1, (va_up s_6.2 12 (upd (s_6.2 12) (Int32.toNatClampNeg ((8 * x2_4) + x3_5)) 400000))))) (wM_a12 cI q _ _) (fun H locs hC => ?_)
              have hw := hw.2
              refine lv_iinc (v := (x3_5 + 1)) (lv' := [(3, .int (x3_5 + 1)), (1, .ref (q 13)), (2, .int x2_4)]) hx hb dX6_first_48 hl (k := 2) rfl rfl (by decide) rfl (fun ls hl => ?_)
              refine lv_goto (tgt := 10) hx hb dX6_first_51 (by decide) ?_
              exact ih (x3_5 + 1) (s_6.1, (va_up s_6.2 12 (upd (s_6.2 12) (Int32.toNatClampNeg ((8 * x2_4) + x3_5)) 400000))) _ _ _ hw hC (lv_sub hl [1, 2, 0] rfl)
            · have hw := hw.2 c_10
              refine lv_ldc (v := 200000) hx hb hown u1 dX6_first_40 ?_
              refine lv_goto (tgt := 47) hx hb dX6_first_42 (by decide) ?_
              refine cx_iast (f := s_6.2 12) hx hb hK hC 13 rfl hw.1 dX6_first_47 (ws' := (wM cI q (s_6.1, (va_up s_6.2 12 (upd (s_6.2 12) (Int32.toNatClampNeg ((8 * x2_4) + x3_5)) 200000))))) (wM_a12 cI q _ _) (fun H locs hC => ?_)
              have hw := hw.2
              refine lv_iinc (v := (x3_5 + 1)) (lv' := [(3, .int (x3_5 + 1)), (1, .ref (q 13)), (2, .int x2_4)]) hx hb dX6_first_48 hl (k := 2) rfl rfl (by decide) rfl (fun ls hl => ?_)
              refine lv_goto (tgt := 10) hx hb dX6_first_51 (by decide) ?_
              exact ih (x3_5 + 1) (s_6.1, (va_up s_6.2 12 (upd (s_6.2 12) (Int32.toNatClampNeg ((8 * x2_4) + x3_5)) 200000))) _ _ _ hw hC (lv_sub hl [1, 2, 0] rfl)
        · have hw := hw.2 c_8
          refine lv_iconst (v := 0) hx hb dX6_first_28 (by decide) ?_
          refine lv_goto (tgt := 47) hx hb dX6_first_29 (by decide) ?_
          refine cx_iast (f := s_6.2 12) hx hb hK hC 13 rfl hw.1 dX6_first_47 (ws' := (wM cI q (s_6.1, (va_up s_6.2 12 (upd (s_6.2 12) (Int32.toNatClampNeg ((8 * x2_4) + x3_5)) 0))))) (wM_a12 cI q _ _) (fun H locs hC => ?_)
          have hw := hw.2
          refine lv_iinc (v := (x3_5 + 1)) (lv' := [(3, .int (x3_5 + 1)), (1, .ref (q 13)), (2, .int x2_4)]) hx hb dX6_first_48 hl (k := 2) rfl rfl (by decide) rfl (fun ls hl => ?_)
          refine lv_goto (tgt := 10) hx hb dX6_first_51 (by decide) ?_
          exact ih (x3_5 + 1) (s_6.1, (va_up s_6.2 12 (upd (s_6.2 12) (Int32.toNatClampNeg ((8 * x2_4) + x3_5)) 0))) _ _ _ hw hC (lv_sub hl [1, 2, 0] rfl)
  have L2 : ∀ (K : Int32 → St → Prop) (hKK : ∀ (x2_1 : Int32) (s_2 : St) (H : Heap) (locs : List Loc) (ls : Array Slot), K x2_1 s_2 → Cx D A s.heap (wM cI q s_2) H locs → lv_has ls 4 [(1, .ref (q 13)), (2, .int x2_1)] → W p l e (Rm 0 0) s m [.ref (q 0), .ref (q 13)].toArray below meth c H locs 0 0 (QV below D cI A (wM cI q) post [.ref (q 0), .ref (q 13)].toArray s) (F0 m 60 ls [])) (n : Nat), ∀ (x2_1 : Int32) (s_2 : St) (H : Heap) (locs : List Loc) (ls : Array Slot), w_X6_first_a12_L2 post K n x2_1 s_2 → Cx D A s.heap (wM cI q s_2) H locs → lv_has ls 4 [(1, .ref (q 13)), (2, .int x2_1)] → W p l e (Rm 0 0) s m [.ref (q 0), .ref (q 13)].toArray below meth c H locs 0 0 (QV below D cI A (wM cI q) post [.ref (q 0), .ref (q 13)].toArray s) (F0 m 2 ls []) := by
    intro  K hKK n
    induction n with
    | zero => intro x2_1 s_2 H locs ls hw; exact hw.elim
    | succ n ih =>
      intro x2_1 s_2 H locs ls hw hC hl
      refine lv_iload_n hx hb dX6_first_2 rfl (lv_at hl 1 rfl) ?_
      refine lv_bipush (v := 8) hx hb dX6_first_3 (by decide) ?_
      refine lv_icmp_ge (tgt := 60) hx hb dX6_first_5 (by decide) (fun c_3 => ?_) (fun c_3 => ?_)
      · have hw := hw.1 c_3
        exact hKK x2_1 s_2 _ _ _ hw hC (lv_sub hl [0, 1] rfl)
      · have hw := hw.2 c_3
        refine lv_iconst (v := 0) hx hb dX6_first_8 (by decide) ?_
        refine lv_istore_n (lv' := [(3, .int 0), (1, .ref (q 13)), (2, .int x2_1)]) hx hb dX6_first_9 rfl hl (by decide) rfl (fun ls hl => ?_)
        obtain ⟨n, hw⟩ := hw
        refine L10 x2_1 _ (fun x3_11 s_12 H locs ls hw hC hl => ?_) n 0 s_2 _ _ _ hw hC (lv_sub hl [1, 2, 0] rfl)
        refine lv_iinc (v := (x2_1 + 1)) (lv' := [(2, .int (x2_1 + 1)), (1, .ref (q 13)), (3, .int x3_11)]) hx hb dX6_first_54 hl (k := 1) rfl rfl (by decide) rfl (fun ls hl => ?_)
        refine lv_goto (tgt := 2) hx hb dX6_first_57 (by decide) ?_
        exact ih (x2_1 + 1) s_12 _ _ _ hw hC (lv_sub hl [1, 0] rfl)
  refine lv_iconst (v := 0) hx hb dX6_first_0 (by decide) ?_
  refine lv_istore_n (lv' := [(2, .int 0), (0, .ref (q 0)), (1, .ref (q 13))]) hx hb dX6_first_1 rfl hl (by decide) rfl (fun ls hl => ?_)
  obtain ⟨n, hw⟩ := hw
  refine L2  _ (fun x2_14 s_15 H locs ls hw hC hl => ?_) n 0 σ _ _ _ hw hC (lv_sub hl [2, 0] rfl)
  exact cx_ret_v (u := s_15) hx hb hr hlocks hK hC hw dX6_first_60

/-! PictureHeapModel.bounds([II)V (X6_bounds_a12) -/
set_option maxHeartbeats 1000000 in
set_option maxRecDepth 100000 in
theorem c_X6_bounds_a12 (l : Launch) (D : va_G) (cI : ClassId) (q : Nat → Nat) (sz : Nat) (σ : St) (x2 : Int32) (post : St → Prop) (hw : w_X6_bounds_a12 σ x2 post) : Cv l yX6_bounds wsX6_bounds 2 44 D cI (wM cI q σ) sz [.ref (q 0), .ref (q 13), .int x2] (wM cI q) post := by
  refine mo_v (cc := cX6_bounds) (maxL := 6) (ret := none) (by decide) rfl (Nat.le_of_ble_eq_true rfl) ?_
  intro p e s m below meth c hx hb hr hml hts hown hlocks hK A hA hC ls hl
  have hown : s.vm.findClass RX6 = some m.cls := hown
  have hl : lv_has ls 6 [(0, .ref (q 0)), (1, .ref (q 13)), (2, .int x2)] := hl
  have u1 : (Cond.fieldLink RX6 35 "PictureHeapModel" "tieKind" "[I").before [.ref (q 0), .ref (q 13), .int x2].toArray s = true := hts _ (List.mem_of_getElem? (i := 1) rfl)
  have u2 : (Cond.fieldLink RX6 20 "PictureHeapModel" "camera" "[I").before [.ref (q 0), .ref (q 13), .int x2].toArray s = true := hts _ (List.mem_of_getElem? (i := 2) rfl)
  have u3 : (Cond.fieldLink RX6 38 "PictureHeapModel" "one" "[I").before [.ref (q 0), .ref (q 13), .int x2].toArray s = true := hts _ (List.mem_of_getElem? (i := 3) rfl)
  have u4 : (Cond.fieldLink RX6 41 "PictureHeapModel" "two" "[I").before [.ref (q 0), .ref (q 13), .int x2].toArray s = true := hts _ (List.mem_of_getElem? (i := 4) rfl)
  have u5 : (Cond.fieldLink RX6 23 "PictureHeapModel" "clock" "[I").before [.ref (q 0), .ref (q 13), .int x2].toArray s = true := hts _ (List.mem_of_getElem? (i := 5) rfl)
  have u6 : (Cond.fieldLink RX6 44 "PictureHeapModel" "three" "[I").before [.ref (q 0), .ref (q 13), .int x2].toArray s = true := hts _ (List.mem_of_getElem? (i := 6) rfl)
  have iX6 : ∀ w ∈ wsX60, w ∈ wsX6_bounds := fun _ h => List.mem_cons_of_mem _ (List.mem_append_right _ h)
  refine lv_aload_n hx hb dX6_bounds_0 rfl (lv_at hl 0 rfl) ?_
  refine cx_get (v := .ref (q 7)) hx hb hts iX6 hown hK hC 0 rfl rfl 15 (by decide) u1 rfl rfl dX6_bounds_1 ?_
  refine lv_iload_n hx hb dX6_bounds_4 rfl (lv_at hl 2 rfl) ?_
  refine cx_iald (f := σ.2 6) hx hb hK hC 7 rfl hw.1 dX6_bounds_5 ?_
  have hw := hw.2
  rcases sw_l (σ.2 6 (Int32.toNatClampNeg x2)) with c0 | c0 | c0
  · refine lv_lookup (off := 26) (tgt := 32) hx hb dX6_bounds_6 (by decide) (by rw [c0]; rfl) (by decide) ?_
    have hw := hw.1 c0
    refine lv_aload_n hx hb dX6_bounds_32 rfl (lv_at hl 0 rfl) ?_
    refine cx_get (v := .ref (q 2)) hx hb hts iX6 hown hK hC 0 rfl rfl 10 (by decide) u2 rfl rfl dX6_bounds_33 ?_
    refine lv_aload_n hx hb dX6_bounds_36 rfl (lv_at hl 0 rfl) ?_
    refine cx_get (v := .ref (q 8)) hx hb hts iX6 hown hK hC 0 rfl rfl 16 (by decide) u3 rfl rfl dX6_bounds_37 ?_
    refine lv_iload_n hx hb dX6_bounds_40 rfl (lv_at hl 2 rfl) ?_
    refine cx_iald (f := σ.2 7) hx hb hK hC 8 rfl hw.1 dX6_bounds_41 ?_
    have hw := hw.2
    refine cx_iald (f := σ.2 1) hx hb hK hC 2 rfl hw.1 dX6_bounds_42 ?_
    have hw := hw.2
    refine lv_istore_n (lv' := [(3, .int (σ.2 1 (Int32.toNatClampNeg (σ.2 7 (Int32.toNatClampNeg x2))))), (0, .ref (q 0)), (1, .ref (q 13)), (2, .int x2)]) hx hb dX6_bounds_43 rfl hl (by decide) rfl (fun ls hl => ?_)
    refine lv_aload_n hx hb dX6_bounds_44 rfl (lv_at hl 1 rfl) ?_
    refine cx_get (v := .ref (q 2)) hx hb hts iX6 hown hK hC 0 rfl rfl 10 (by decide) u2 rfl rfl dX6_bounds_45 ?_
    refine lv_aload_n hx hb dX6_bounds_48 rfl (lv_at hl 1 rfl) ?_
    refine cx_get (v := .ref (q 9)) hx hb hts iX6 hown hK hC 0 rfl rfl 17 (by decide) u4 rfl rfl dX6_bounds_49 ?_
    refine lv_iload_n hx hb dX6_bounds_52 rfl (lv_at hl 3 rfl) ?_
    refine cx_iald (f := σ.2 8) hx hb hK hC 9 rfl hw.1 dX6_bounds_53 ?_
    have hw := hw.2
    refine cx_iald (f := σ.2 1) hx hb hK hC 2 rfl hw.1 dX6_bounds_54 ?_
    have hw := hw.2
    refine lv_istore (lv' := [(4, .int (σ.2 1 (Int32.toNatClampNeg (σ.2 8 (Int32.toNatClampNeg x2))))), (3, .int (σ.2 1 (Int32.toNatClampNeg (σ.2 7 (Int32.toNatClampNeg x2))))), (0, .ref (q 0)), (1, .ref (q 13)), (2, .int x2)]) hx hb dX6_bounds_55 hl (by decide) rfl (fun ls hl => ?_)
    refine lv_aload_n hx hb dX6_bounds_57 rfl (lv_at hl 2 rfl) ?_
    refine cx_get (v := .ref (q 3)) hx hb hts iX6 hown hK hC 0 rfl rfl 11 (by decide) u5 rfl rfl dX6_bounds_58 ?_
    refine lv_aload_n hx hb dX6_bounds_61 rfl (lv_at hl 2 rfl) ?_
    refine cx_get (v := .ref (q 9)) hx hb hts iX6 hown hK hC 0 rfl rfl 17 (by decide) u4 rfl rfl dX6_bounds_62 ?_
    refine lv_iload_n hx hb dX6_bounds_65 rfl (lv_at hl 4 rfl) ?_
    refine cx_iald (f := σ.2 8) hx hb hK hC 9 rfl hw.1 dX6_bounds_66 ?_
    have hw := hw.2
    refine cx_iald (f := σ.2 2) hx hb hK hC 3 rfl hw.1 dX6_bounds_67 ?_
    have hw := hw.2
    refine lv_aload_n hx hb dX6_bounds_68 rfl (lv_at hl 2 rfl) ?_
    refine cx_get (v := .ref (q 3)) hx hb hts iX6 hown hK hC 0 rfl rfl 11 (by decide) u5 rfl rfl dX6_bounds_69 ?_
    refine lv_aload_n hx hb dX6_bounds_72 rfl (lv_at hl 2 rfl) ?_
    refine cx_get (v := .ref (q 8)) hx hb hts iX6 hown hK hC 0 rfl rfl 16 (by decide) u3 rfl rfl dX6_bounds_73 ?_
    refine lv_iload_n hx hb dX6_bounds_76 rfl (lv_at hl 4 rfl) ?_
    refine cx_iald (f := σ.2 7) hx hb hK hC 8 rfl hw.1 dX6_bounds_77 ?_
    have hw := hw.2
    refine cx_iald (f := σ.2 2) hx hb hK hC 3 rfl hw.1 dX6_bounds_78 ?_
    have hw := hw.2
    refine lv_isub hx hb dX6_bounds_79 ?_
    refine lv_istore (lv' := [(5, .int ((σ.2 2 (Int32.toNatClampNeg (σ.2 8 (Int32.toNatClampNeg x2)))) - (σ.2 2 (Int32.toNatClampNeg (σ.2 7 (Int32.toNatClampNeg x2)))))), (4, .int (σ.2 1 (Int32.toNatClampNeg (σ.2 8 (Int32.toNatClampNeg x2))))), (3, .int (σ.2 1 (Int32.toNatClampNeg (σ.2 7 (Int32.toNatClampNeg x2))))), (0, .ref (q 0)), (1, .ref (q 13)), (2, .int x2)]) hx hb dX6_bounds_80 hl (by decide) rfl (fun ls hl => ?_)
    refine lv_aload_n hx hb dX6_bounds_82 rfl (lv_at hl 4 rfl) ?_
    refine lv_iload_n hx hb dX6_bounds_83 rfl (lv_at hl 2 rfl) ?_
    refine lv_iload hx hb dX6_bounds_84 (lv_at hl 1 rfl) ?_
    refine lv_aload_n hx hb dX6_bounds_86 rfl (lv_at hl 3 rfl) ?_
    refine cx_get (v := .ref (q 10)) hx hb hts iX6 hown hK hC 0 rfl rfl 18 (by decide) u6 rfl rfl dX6_bounds_87 ?_
    refine lv_iload_n hx hb dX6_bounds_90 rfl (lv_at hl 5 rfl) ?_
    refine cx_iald (f := σ.2 9) hx hb hK hC 10 rfl hw.1 dX6_bounds_91 ?_
    have hw := hw.2
    refine lv_iload hx hb dX6_bounds_92 (lv_at hl 0 rfl) ?_
    refine lv_iadd hx hb dX6_bounds_94 ?_
    refine cx_callSv (As := [.ref (q 13), .int (σ.2 1 (Int32.toNatClampNeg (σ.2 7 (Int32.toNatClampNeg x2)))), .int (σ.2 1 (Int32.toNatClampNeg (σ.2 8 (Int32.toNatClampNeg x2)))), .int ((σ.2 9 (Int32.toNatClampNeg x2)) + ((σ.2 2 (Int32.toNatClampNeg (σ.2 8 (Int32.toNatClampNeg x2)))) - (σ.2 2 (Int32.toNatClampNeg (σ.2 7 (Int32.toNatClampNeg x2))))))]) (rest := []) (ws' := fun u_2 => (wM cI q (σ.1, (va_up σ.2 12 u_2)))) ⟨hx, hb, hml, hown, hts⟩ (c_X6_least l D cI (q 13) _ (σ.2 12) (σ.2 1 (Int32.toNatClampNeg (σ.2 7 (Int32.toNatClampNeg x2)))) (σ.2 1 (Int32.toNatClampNeg (σ.2 8 (Int32.toNatClampNeg x2)))) ((σ.2 9 (Int32.toNatClampNeg x2)) + ((σ.2 2 (Int32.toNatClampNeg (σ.2 8 (Int32.toNatClampNeg x2)))) - (σ.2 2 (Int32.toNatClampNeg (σ.2 7 (Int32.toNatClampNeg x2)))))) _ hw) (va_cwS 4 hts gX6_bounds_X6_least rfl rfl rfl (by decide +kernel) ⟨Nat.le_of_ble_eq_true rfl, Nat.le_of_ble_eq_true rfl⟩) hK hC hA [13] [0, 1, 2, 3, 4, 5, 6, 7, 8, 9, 10, 11, 12, 14, 15, 16, 17, 18] (by decide) rfl (wr := [_, _, _, _, _, _, _, _, _, _, _, _, _, _, _, _, _, _]) rfl (by decide) (by decide) rfl hl.1 rfl (Nat.le_of_ble_eq_true rfl) dX6_bounds_95 ⟨Nat.zero_le _, Nat.zero_le _⟩ [0, 1, 2, 3, 4, 5, 6, 7, 8, 9, 10, 11, 12, 18, 13, 14, 15, 16, 17] (by decide) (fun _ => rfl) (fun u_2 H locs hw hC => ?_)
    refine lv_aload_n hx hb dX6_bounds_98 rfl (lv_at hl 4 rfl) ?_
    refine lv_iload hx hb dX6_bounds_99 (lv_at hl 1 rfl) ?_
    refine lv_iload_n hx hb dX6_bounds_101 rfl (lv_at hl 2 rfl) ?_
    refine lv_aload_n hx hb dX6_bounds_102 rfl (lv_at hl 3 rfl) ?_
    refine cx_get (v := .ref (q 10)) hx hb hts iX6 hown hK hC 0 rfl rfl 18 (by decide) u6 rfl rfl dX6_bounds_103 ?_
    refine lv_iload_n hx hb dX6_bounds_106 rfl (lv_at hl 5 rfl) ?_
    refine cx_iald (f := σ.2 9) hx hb hK hC 10 rfl hw.1 dX6_bounds_107 ?_
    have hw := hw.2
    refine lv_iload hx hb dX6_bounds_108 (lv_at hl 0 rfl) ?_
    refine lv_isub hx hb dX6_bounds_110 ?_
    refine cx_callSv (As := [.ref (q 13), .int (σ.2 1 (Int32.toNatClampNeg (σ.2 8 (Int32.toNatClampNeg x2)))), .int (σ.2 1 (Int32.toNatClampNeg (σ.2 7 (Int32.toNatClampNeg x2)))), .int ((σ.2 9 (Int32.toNatClampNeg x2)) - ((σ.2 2 (Int32.toNatClampNeg (σ.2 8 (Int32.toNatClampNeg x2)))) - (σ.2 2 (Int32.toNatClampNeg (σ.2 7 (Int32.toNatClampNeg x2))))))]) (rest := []) (ws' := fun u_4 => (wM cI q (σ.1, (va_up (va_up σ.2 12 u_2) 12 u_4)))) ⟨hx, hb, hml, hown, hts⟩ (c_X6_least l D cI (q 13) _ (u_2) (σ.2 1 (Int32.toNatClampNeg (σ.2 8 (Int32.toNatClampNeg x2)))) (σ.2 1 (Int32.toNatClampNeg (σ.2 7 (Int32.toNatClampNeg x2)))) ((σ.2 9 (Int32.toNatClampNeg x2)) - ((σ.2 2 (Int32.toNatClampNeg (σ.2 8 (Int32.toNatClampNeg x2)))) - (σ.2 2 (Int32.toNatClampNeg (σ.2 7 (Int32.toNatClampNeg x2)))))) _ hw) (va_cwS 4 hts gX6_bounds_X6_least rfl rfl rfl (by decide +kernel) ⟨Nat.le_of_ble_eq_true rfl, Nat.le_of_ble_eq_true rfl⟩) hK hC hA [13] [0, 1, 2, 3, 4, 5, 6, 7, 8, 9, 10, 11, 12, 14, 15, 16, 17, 18] (by decide) rfl (wr := [_, _, _, _, _, _, _, _, _, _, _, _, _, _, _, _, _, _]) rfl (by decide) (by decide) rfl hl.1 rfl (Nat.le_of_ble_eq_true rfl) dX6_bounds_111 ⟨Nat.zero_le _, Nat.zero_le _⟩ [0, 1, 2, 3, 4, 5, 6, 7, 8, 9, 10, 11, 12, 18, 13, 14, 15, 16, 17] (by decide) (fun _ => rfl) (fun u_4 H locs hw hC => ?_)
    refine lv_goto (tgt := 206) hx hb dX6_bounds_114 (by decide) ?_
    exact cx_ret_v (u := (σ.1, (va_up (va_up σ.2 12 u_2) 12 u_4))) hx hb hr hlocks hK hC hw dX6_bounds_206
  · refine lv_lookup (off := 111) (tgt := 117) hx hb dX6_bounds_6 (by decide) (by rw [c0]; rfl) (by decide) ?_
    have hw := hw.2.1 c0
    refine lv_aload_n hx hb dX6_bounds_117 rfl (lv_at hl 1 rfl) ?_
    refine lv_aload_n hx hb dX6_bounds_118 rfl (lv_at hl 0 rfl) ?_
    refine cx_get (v := .ref (q 2)) hx hb hts iX6 hown hK hC 0 rfl rfl 10 (by decide) u2 rfl rfl dX6_bounds_119 ?_
    refine lv_aload_n hx hb dX6_bounds_122 rfl (lv_at hl 0 rfl) ?_
    refine cx_get (v := .ref (q 8)) hx hb hts iX6 hown hK hC 0 rfl rfl 16 (by decide) u3 rfl rfl dX6_bounds_123 ?_
    refine lv_iload_n hx hb dX6_bounds_126 rfl (lv_at hl 2 rfl) ?_
    refine cx_iald (f := σ.2 7) hx hb hK hC 8 rfl hw.1 dX6_bounds_127 ?_
    have hw := hw.2
    refine cx_iald (f := σ.2 1) hx hb hK hC 2 rfl hw.1 dX6_bounds_128 ?_
    have hw := hw.2
    refine lv_aload_n hx hb dX6_bounds_129 rfl (lv_at hl 0 rfl) ?_
    refine cx_get (v := .ref (q 2)) hx hb hts iX6 hown hK hC 0 rfl rfl 10 (by decide) u2 rfl rfl dX6_bounds_130 ?_
    refine lv_aload_n hx hb dX6_bounds_133 rfl (lv_at hl 0 rfl) ?_
    refine cx_get (v := .ref (q 9)) hx hb hts iX6 hown hK hC 0 rfl rfl 17 (by decide) u4 rfl rfl dX6_bounds_134 ?_
    refine lv_iload_n hx hb dX6_bounds_137 rfl (lv_at hl 2 rfl) ?_
    refine cx_iald (f := σ.2 8) hx hb hK hC 9 rfl hw.1 dX6_bounds_138 ?_
    have hw := hw.2
    refine cx_iald (f := σ.2 1) hx hb hK hC 2 rfl hw.1 dX6_bounds_139 ?_
    have hw := hw.2
    refine lv_aload_n hx hb dX6_bounds_140 rfl (lv_at hl 0 rfl) ?_
    refine cx_get (v := .ref (q 3)) hx hb hts iX6 hown hK hC 0 rfl rfl 11 (by decide) u5 rfl rfl dX6_bounds_141 ?_
    refine lv_aload_n hx hb dX6_bounds_144 rfl (lv_at hl 0 rfl) ?_
    refine cx_get (v := .ref (q 9)) hx hb hts iX6 hown hK hC 0 rfl rfl 17 (by decide) u4 rfl rfl dX6_bounds_145 ?_
    refine lv_iload_n hx hb dX6_bounds_148 rfl (lv_at hl 2 rfl) ?_
    refine cx_iald (f := σ.2 8) hx hb hK hC 9 rfl hw.1 dX6_bounds_149 ?_
    have hw := hw.2
    refine cx_iald (f := σ.2 2) hx hb hK hC 3 rfl hw.1 dX6_bounds_150 ?_
    have hw := hw.2
    refine lv_aload_n hx hb dX6_bounds_151 rfl (lv_at hl 0 rfl) ?_
    refine cx_get (v := .ref (q 3)) hx hb hts iX6 hown hK hC 0 rfl rfl 11 (by decide) u5 rfl rfl dX6_bounds_152 ?_
    refine lv_aload_n hx hb dX6_bounds_155 rfl (lv_at hl 0 rfl) ?_
    refine cx_get (v := .ref (q 8)) hx hb hts iX6 hown hK hC 0 rfl rfl 16 (by decide) u3 rfl rfl dX6_bounds_156 ?_
    refine lv_iload_n hx hb dX6_bounds_159 rfl (lv_at hl 2 rfl) ?_
    refine cx_iald (f := σ.2 7) hx hb hK hC 8 rfl hw.1 dX6_bounds_160 ?_
    have hw := hw.2
    refine cx_iald (f := σ.2 2) hx hb hK hC 3 rfl hw.1 dX6_bounds_161 ?_
    have hw := hw.2
    refine lv_isub hx hb dX6_bounds_162 ?_
    refine lv_iconst (v := 1) hx hb dX6_bounds_163 (by decide) ?_
    refine lv_isub hx hb dX6_bounds_164 ?_
    refine cx_callSv (As := [.ref (q 13), .int (σ.2 1 (Int32.toNatClampNeg (σ.2 7 (Int32.toNatClampNeg x2)))), .int (σ.2 1 (Int32.toNatClampNeg (σ.2 8 (Int32.toNatClampNeg x2)))), .int (((σ.2 2 (Int32.toNatClampNeg (σ.2 8 (Int32.toNatClampNeg x2)))) - (σ.2 2 (Int32.toNatClampNeg (σ.2 7 (Int32.toNatClampNeg x2))))) - 1)]) (rest := []) (ws' := fun u_6 => (wM cI q (σ.1, (va_up σ.2 12 u_6)))) ⟨hx, hb, hml, hown, hts⟩ (c_X6_least l D cI (q 13) _ (σ.2 12) (σ.2 1 (Int32.toNatClampNeg (σ.2 7 (Int32.toNatClampNeg x2)))) (σ.2 1 (Int32.toNatClampNeg (σ.2 8 (Int32.toNatClampNeg x2)))) (((σ.2 2 (Int32.toNatClampNeg (σ.2 8 (Int32.toNatClampNeg x2)))) - (σ.2 2 (Int32.toNatClampNeg (σ.2 7 (Int32.toNatClampNeg x2))))) - 1) _ hw) (va_cwS 4 hts gX6_bounds_X6_least rfl rfl rfl (by decide +kernel) ⟨Nat.le_of_ble_eq_true rfl, Nat.le_of_ble_eq_true rfl⟩) hK hC hA [13] [0, 1, 2, 3, 4, 5, 6, 7, 8, 9, 10, 11, 12, 14, 15, 16, 17, 18] (by decide) rfl (wr := [_, _, _, _, _, _, _, _, _, _, _, _, _, _, _, _, _, _]) rfl (by decide) (by decide) rfl hl.1 rfl (Nat.le_of_ble_eq_true rfl) dX6_bounds_165 ⟨Nat.zero_le _, Nat.zero_le _⟩ [0, 1, 2, 3, 4, 5, 6, 7, 8, 9, 10, 11, 12, 18, 13, 14, 15, 16, 17] (by decide) (fun _ => rfl) (fun u_6 H locs hw hC => ?_)
    refine lv_goto (tgt := 206) hx hb dX6_bounds_168 (by decide) ?_
    exact cx_ret_v (u := (σ.1, (va_up σ.2 12 u_6))) hx hb hr hlocks hK hC hw dX6_bounds_206
  · refine lv_lookup (off := 165) (tgt := 171) hx hb dX6_bounds_6 (by decide) (sw_lo c0) (by decide) ?_
    have hw := hw.2.2 c0
    refine lv_aload_n hx hb dX6_bounds_171 rfl (lv_at hl 1 rfl) ?_
    refine lv_aload_n hx hb dX6_bounds_172 rfl (lv_at hl 0 rfl) ?_
    refine cx_get (v := .ref (q 8)) hx hb hts iX6 hown hK hC 0 rfl rfl 16 (by decide) u3 rfl rfl dX6_bounds_173 ?_
    refine lv_iload_n hx hb dX6_bounds_176 rfl (lv_at hl 2 rfl) ?_
    refine cx_iald (f := σ.2 7) hx hb hK hC 8 rfl hw.1 dX6_bounds_177 ?_
    have hw := hw.2
    refine lv_iconst (v := 0) hx hb dX6_bounds_178 (by decide) ?_
    refine lv_aload_n hx hb dX6_bounds_179 rfl (lv_at hl 0 rfl) ?_
    refine cx_get (v := .ref (q 10)) hx hb hts iX6 hown hK hC 0 rfl rfl 18 (by decide) u6 rfl rfl dX6_bounds_180 ?_
    refine lv_iload_n hx hb dX6_bounds_183 rfl (lv_at hl 2 rfl) ?_
    refine cx_iald (f := σ.2 9) hx hb hK hC 10 rfl hw.1 dX6_bounds_184 ?_
    have hw := hw.2
    refine cx_callSv (As := [.ref (q 13), .int (σ.2 7 (Int32.toNatClampNeg x2)), .int 0, .int (σ.2 9 (Int32.toNatClampNeg x2))]) (rest := []) (ws' := fun u_8 => (wM cI q (σ.1, (va_up σ.2 12 u_8)))) ⟨hx, hb, hml, hown, hts⟩ (c_X6_least l D cI (q 13) _ (σ.2 12) (σ.2 7 (Int32.toNatClampNeg x2)) 0 (σ.2 9 (Int32.toNatClampNeg x2)) _ hw) (va_cwS 4 hts gX6_bounds_X6_least rfl rfl rfl (by decide +kernel) ⟨Nat.le_of_ble_eq_true rfl, Nat.le_of_ble_eq_true rfl⟩) hK hC hA [13] [0, 1, 2, 3, 4, 5, 6, 7, 8, 9, 10, 11, 12, 14, 15, 16, 17, 18] (by decide) rfl (wr := [_, _, _, _, _, _, _, _, _, _, _, _, _, _, _, _, _, _]) rfl (by decide) (by decide) rfl hl.1 rfl (Nat.le_of_ble_eq_true rfl) dX6_bounds_185 ⟨Nat.zero_le _, Nat.zero_le _⟩ [0, 1, 2, 3, 4, 5, 6, 7, 8, 9, 10, 11, 12, 18, 13, 14, 15, 16, 17] (by decide) (fun _ => rfl) (fun u_8 H locs hw hC => ?_)
    refine lv_aload_n hx hb dX6_bounds_188 rfl (lv_at hl 1 rfl) ?_
    refine lv_iconst (v := 0) hx hb dX6_bounds_189 (by decide) ?_
    refine lv_aload_n hx hb dX6_bounds_190 rfl (lv_at hl 0 rfl) ?_
    refine cx_get (v := .ref (q 8)) hx hb hts iX6 hown hK hC 0 rfl rfl 16 (by decide) u3 rfl rfl dX6_bounds_191 ?_
    refine lv_iload_n hx hb dX6_bounds_194 rfl (lv_at hl 2 rfl) ?_
    refine cx_iald (f := σ.2 7) hx hb hK hC 8 rfl hw.1 dX6_bounds_195 ?_
    have hw := hw.2
    refine lv_aload_n hx hb dX6_bounds_196 rfl (lv_at hl 0 rfl) ?_
    refine cx_get (v := .ref (q 9)) hx hb hts iX6 hown hK hC 0 rfl rfl 17 (by decide) u4 rfl rfl dX6_bounds_197 ?_
    refine lv_iload_n hx hb dX6_bounds_200 rfl (lv_at hl 2 rfl) ?_
    refine cx_iald (f := σ.2 8) hx hb hK hC 9 rfl hw.1 dX6_bounds_201 ?_
    have hw := hw.2
    refine lv_ineg hx hb dX6_bounds_202 ?_
    refine cx_callSv (As := [.ref (q 13), .int 0, .int (σ.2 7 (Int32.toNatClampNeg x2)), .int (-(σ.2 8 (Int32.toNatClampNeg x2)))]) (rest := []) (ws' := fun u_10 => (wM cI q (σ.1, (va_up (va_up σ.2 12 u_8) 12 u_10)))) ⟨hx, hb, hml, hown, hts⟩ (c_X6_least l D cI (q 13) _ (u_8) 0 (σ.2 7 (Int32.toNatClampNeg x2)) (-(σ.2 8 (Int32.toNatClampNeg x2))) _ hw) (va_cwS 4 hts gX6_bounds_X6_least rfl rfl rfl (by decide +kernel) ⟨Nat.le_of_ble_eq_true rfl, Nat.le_of_ble_eq_true rfl⟩) hK hC hA [13] [0, 1, 2, 3, 4, 5, 6, 7, 8, 9, 10, 11, 12, 14, 15, 16, 17, 18] (by decide) rfl (wr := [_, _, _, _, _, _, _, _, _, _, _, _, _, _, _, _, _, _]) rfl (by decide) (by decide) rfl hl.1 rfl (Nat.le_of_ble_eq_true rfl) dX6_bounds_203 ⟨Nat.zero_le _, Nat.zero_le _⟩ [0, 1, 2, 3, 4, 5, 6, 7, 8, 9, 10, 11, 12, 18, 13, 14, 15, 16, 17] (by decide) (fun _ => rfl) (fun u_10 H locs hw hC => ?_)
    exact cx_ret_v (u := (σ.1, (va_up (va_up σ.2 12 u_8) 12 u_10))) hx hb hr hlocks hK hC hw dX6_bounds_206

/-! PictureHeapModel.breaks([I)Z (X6_breaks_a10) -/
set_option maxHeartbeats 1000000 in
set_option maxRecDepth 100000 in
theorem c_X6_breaks_a10 (l : Launch) (D : va_G) (cI : ClassId) (q : Nat → Nat) (sz : Nat) (σ : St) (post : Int32 → St → Prop) (hw : w_X6_breaks_a10 σ post) : Ci l yX6_breaks wsX6_breaks 3 69 D cI (wM cI q σ) sz [.ref (q 0), .ref (q 11)] (wM cI q) post := by
  refine mo_i (cc := cX6_breaks) (maxL := 5) (ret := (some .boolean)) (by decide) rfl (Nat.le_of_ble_eq_true rfl) ?_
  intro p e s m below meth c hx hb hr hml hts hown hlocks hK A hA hC ls hl
  have hown : s.vm.findClass RX6 = some m.cls := hown
  have hl : lv_has ls 5 [(0, .ref (q 0)), (1, .ref (q 11))] := hl
  have u1 : (Cond.fieldLink RX6 53 "PictureHeapModel" "single" "[I").before [.ref (q 0), .ref (q 11)].toArray s = true := hts _ (List.mem_of_getElem? (i := 1) rfl)
  have u2 : (Cond.constant RX6 143 (100000000)).before [.ref (q 0), .ref (q 11)].toArray s = true := hts _ (List.mem_of_getElem? (i := 2) rfl)
  have u3 : (Cond.fieldLink RX6 132 "PictureHeapModel" "ties" "I").before [.ref (q 0), .ref (q 11)].toArray s = true := hts _ (List.mem_of_getElem? (i := 3) rfl)
  have iX6 : ∀ w ∈ wsX60, w ∈ wsX6_breaks := fun _ h => List.mem_cons_of_mem _ (List.mem_append_right _ h)
  have L10 : ∀ (K : Int32 → St → Prop) (hKK : ∀ (x2_3 : Int32) (s_4 : St) (H : Heap) (locs : List Loc) (ls : Array Slot), K x2_3 s_4 → Cx D A s.heap (wM cI q s_4) H locs → lv_has ls 5 [(0, .ref (q 0)), (1, .ref (q 11)), (2, .int x2_3)] → W p l e (Rm 3 69) s m [.ref (q 0), .ref (q 11)].toArray below meth c H locs 0 0 (QI below D cI A (wM cI q) post [.ref (q 0), .ref (q 11)].toArray s) (F0 m 30 ls [])) (n : Nat), ∀ (x2_3 : Int32) (s_4 : St) (H : Heap) (locs : List Loc) (ls : Array Slot), w_X6_breaks_a10_L10 post K n x2_3 s_4 → Cx D A s.heap (wM cI q s_4) H locs → lv_has ls 5 [(0, .ref (q 0)), (1, .ref (q 11)), (2, .int x2_3)] → W p l e (Rm 3 69) s m [.ref (q 0), .ref (q 11)].toArray below meth c H locs 0 0 (QI below D cI A (wM cI q) post [.ref (q 0), .ref (q 11)].toArray s) (F0 m 10 ls []) := by
    intro  K hKK n
    induction n with
    | zero => intro x2_3 s_4 H locs ls hw; exact hw.elim
    | succ n ih =>
      intro x2_3 s_4 H locs ls hw hC hl
      refine lv_iload_n hx hb dX6_breaks_10 rfl (lv_at hl 2 rfl) ?_
      refine lv_bipush (v := 64) hx hb dX6_breaks_11 (by decide) ?_
      refine lv_icmp_ge (tgt := 30) hx hb dX6_breaks_13 (by decide) (fun c_5 => ?_) (fun c_5 => ?_)
      · have hw := hw.1 c_5
        exact hKK x2_3 s_4 _ _ _ hw hC (lv_sub hl [0, 1, 2] rfl)
      · have hw := hw.2 c_5
        refine lv_aload_n hx hb dX6_breaks_16 rfl (lv_at hl 0 rfl) ?_
        refine cx_get (v := .ref (q 13)) hx hb hts iX6 hown hK hC 0 rfl rfl 21 (by decide) u1 rfl rfl dX6_breaks_17 ?_
        refine lv_iload_n hx hb dX6_breaks_20 rfl (lv_at hl 2 rfl) ?_
        refine lv_ldc (v := 100000000) hx hb hown u2 dX6_breaks_21 ?_
        refine cx_iast (f := s_4.2 12) hx hb hK hC 13 rfl hw.1 dX6_breaks_23 (ws' := (wM cI q (s_4.1, (va_up s_4.2 12 (upd (s_4.2 12) (Int32.toNatClampNeg x2_3) 100000000))))) (wM_a12 cI q _ _) (fun H locs hC => ?_)
        have hw := hw.2
        refine lv_iinc (v := (x2_3 + 1)) (lv' := [(2, .int (x2_3 + 1)), (0, .ref (q 0)), (1, .ref (q 11))]) hx hb dX6_breaks_24 hl (k := 2) rfl rfl (by decide) rfl (fun ls hl => ?_)
        refine lv_goto (tgt := 10) hx hb dX6_breaks_27 (by decide) ?_
        exact ih (x2_3 + 1) (s_4.1, (va_up s_4.2 12 (upd (s_4.2 12) (Int32.toNatClampNeg x2_3) 100000000))) _ _ _ hw hC (lv_sub hl [1, 2, 0] rfl)
  have L55 : ∀ (x3_14 : Int32) (K : Int32 → Int32 → St → Prop) (hKK : ∀ (x2_15 : Int32) (x4_16 : Int32) (s_17 : St) (H : Heap) (locs : List Loc) (ls : Array Slot), K x2_15 x4_16 s_17 → Cx D A s.heap (wM cI q s_17) H locs → lv_has ls 5 [(0, .ref (q 0)), (1, .ref (q 11)), (2, .int x2_15), (3, .int x3_14), (4, .int x4_16)] → W p l e (Rm 3 69) s m [.ref (q 0), .ref (q 11)].toArray below meth c H locs 0 0 (QI below D cI A (wM cI q) post [.ref (q 0), .ref (q 11)].toArray s) (F0 m 120 ls [])) (n : Nat), ∀ (x2_15 : Int32) (x4_16 : Int32) (s_17 : St) (H : Heap) (locs : List Loc) (ls : Array Slot), w_X6_breaks_a10_L55 x3_14 post K n x2_15 x4_16 s_17 → Cx D A s.heap (wM cI q s_17) H locs → lv_has ls 5 [(0, .ref (q 0)), (1, .ref (q 11)), (2, .int x2_15), (3, .int x3_14), (4, .int x4_16)] → W p l e (Rm 3 69) s m [.ref (q 0), .ref (q 11)].toArray below meth c H locs 0 0 (QI below D cI A (wM cI q) post [.ref (q 0), .ref (q 11)].toArray s) (F0 m 55 ls []) := by
    intro x3_14 K hKK n
    induction n with
    | zero => intro x2_15 x4_16 s_17 H locs ls hw; exact hw.elim
    | succ n ih =>
      intro x2_15 x4_16 s_17 H locs ls hw hC hl
      refine lv_iload hx hb dX6_breaks_55 (lv_at hl 4 rfl) ?_
      refine lv_bipush (v := 8) hx hb dX6_breaks_57 (by decide) ?_
      refine lv_icmp_ge (tgt := 120) hx hb dX6_breaks_59 (by decide) (fun c_18 => ?_) (fun c_18 => ?_)
      · have hw := hw.1 c_18
        exact hKK x2_15 x4_16 s_17 _ _ _ hw hC (lv_sub hl [0, 1, 2, 3, 4] rfl)
      · have hw := hw.2 c_18
        refine lv_iload_n hx hb dX6_breaks_62 rfl (lv_at hl 2 rfl) ?_
        refine lv_if_ne (tgt := 108) hx hb dX6_breaks_63 (by decide) (fun c_19 => ?_) (fun c_19 => ?_)
        · have hw := hw.1 c_19
          refine lv_iconst (v := 1) hx hb dX6_breaks_108 (by decide) ?_
          refine lv_goto (tgt := 113) hx hb dX6_breaks_109 (by decide) ?_
          refine lv_istore_n (lv' := [(2, .int 1), (0, .ref (q 0)), (1, .ref (q 11)), (3, .int x3_14), (4, .int x4_16)]) hx hb dX6_breaks_113 rfl hl (by decide) rfl (fun ls hl => ?_)
          refine lv_iinc (v := (x4_16 + 1)) (lv' := [(4, .int (x4_16 + 1)), (2, .int 1), (0, .ref (q 0)), (1, .ref (q 11)), (3, .int x3_14)]) hx hb dX6_breaks_114 hl (k := 4) rfl rfl (by decide) rfl (fun ls hl => ?_)
          refine lv_goto (tgt := 55) hx hb dX6_breaks_117 (by decide) ?_
          exact ih 1 (x4_16 + 1) s_17 _ _ _ hw hC (lv_sub hl [2, 3, 1, 4, 0] rfl)
        · have hw := hw.2 c_19
          refine lv_aload_n hx hb dX6_breaks_66 rfl (lv_at hl 0 rfl) ?_
          refine cx_get (v := .ref (q 13)) hx hb hts iX6 hown hK hC 0 rfl rfl 21 (by decide) u1 rfl rfl dX6_breaks_67 ?_
          refine lv_bipush (v := 8) hx hb dX6_breaks_70 (by decide) ?_
          refine lv_iload_n hx hb dX6_breaks_72 rfl (lv_at hl 3 rfl) ?_
          refine lv_imul hx hb dX6_breaks_73 ?_
          refine lv_iload hx hb dX6_breaks_74 (lv_at hl 4 rfl) ?_
          refine lv_iadd hx hb dX6_breaks_76 ?_
          refine cx_iald (f := s_17.2 12) hx hb hK hC 13 rfl hw.1 dX6_breaks_77 ?_
          have hw := hw.2
          refine lv_ldc (v := 100000000) hx hb hown u2 dX6_breaks_78 ?_
          refine lv_icmp_ge (tgt := 112) hx hb dX6_breaks_80 (by decide) (fun c_20 => ?_) (fun c_20 => ?_)
          · have hw := hw.1 c_20
            refine lv_iconst (v := 0) hx hb dX6_breaks_112 (by decide) ?_
            refine lv_istore_n (lv' := [(2, .int 0), (0, .ref (q 0)), (1, .ref (q 11)), (3, .int x3_14), (4, .int x4_16)]) hx hb dX6_breaks_113 rfl hl (by decide) rfl (fun ls hl => ?_)
            refine lv_iinc (v := (x4_16 + 1)) (lv' := [(4, .int (x4_16 + 1)), (2, .int 0), (0, .ref (q 0)), (1, .ref (q 11)), (3, .int x3_14)]) hx hb dX6_breaks_114 hl (k := 4) rfl rfl (by decide) rfl (fun ls hl => ?_)
            refine lv_goto (tgt := 55) hx hb dX6_breaks_117 (by decide) ?_
            exact ih 0 (x4_16 + 1) s_17 _ _ _ hw hC (lv_sub hl [2, 3, 1, 4, 0] rfl)
          · have hw := hw.2 c_20
            refine lv_aload_n hx hb dX6_breaks_83 rfl (lv_at hl 0 rfl) ?_
            refine cx_get (v := .ref (q 13)) hx hb hts iX6 hown hK hC 0 rfl rfl 21 (by decide) u1 rfl rfl dX6_breaks_84 ?_
            refine lv_bipush (v := 8) hx hb dX6_breaks_87 (by decide) ?_
            refine lv_iload_n hx hb dX6_breaks_89 rfl (lv_at hl 3 rfl) ?_
            refine lv_imul hx hb dX6_breaks_90 ?_
            refine lv_iload hx hb dX6_breaks_91 (lv_at hl 4 rfl) ?_
            refine lv_iadd hx hb dX6_breaks_93 ?_
            refine cx_iald (f := s_17.2 12) hx hb hK hC 13 rfl hw.1 dX6_breaks_94 ?_
            have hw := hw.2
            refine lv_aload_n hx hb dX6_breaks_95 rfl (lv_at hl 1 rfl) ?_
            refine lv_bipush (v := 8) hx hb dX6_breaks_96 (by decide) ?_
            refine lv_iload hx hb dX6_breaks_98 (lv_at hl 4 rfl) ?_
            refine lv_imul hx hb dX6_breaks_100 ?_
            refine lv_iload_n hx hb dX6_breaks_101 rfl (lv_at hl 3 rfl) ?_
            refine lv_iadd hx hb dX6_breaks_102 ?_
            refine cx_iald (f := s_17.2 10) hx hb hK hC 11 rfl hw.1 dX6_breaks_103 ?_
            have hw := hw.2
            refine lv_iadd hx hb dX6_breaks_104 ?_
            refine lv_if_ge (tgt := 112) hx hb dX6_breaks_105 (by decide) (fun c_21 => ?_) (fun c_21 => ?_)
            · have hw := hw.1 c_21
              refine lv_iconst (v := 0) hx hb dX6_breaks_112 (by decide) ?_
              refine lv_istore_n (lv' := [(2, .int 0), (0, .ref (q 0)), (1, .ref (q 11)), (3, .int x3_14), (4, .int x4_16)]) hx hb dX6_breaks_113 rfl hl (by decide) rfl (fun ls hl => ?_)
              refine lv_iinc (v := (x4_16 + 1)) (lv' := [(4, .int (x4_16 + 1)), (2, .int 0), (0, .ref (q 0)), (1, .ref (q 11)), (3, .int x3_14)]) hx hb dX6_breaks_114 hl (k := 4) rfl rfl (by decide) rfl (fun ls hl => ?_)
              refine lv_goto (tgt := 55) hx hb dX6_breaks_117 (by decide) ?_
              exact ih 0 (x4_16 + 1) s_17 _ _ _ hw hC (lv_sub hl [2, 3, 1, 4, 0] rfl)
            · have hw := hw.2 c_21
              refine lv_iconst (v := 1) hx hb dX6_breaks_108 (by decide) ?_
              refine lv_goto (tgt := 113) hx hb dX6_breaks_109 (by decide) ?_
              refine lv_istore_n (lv' := [(2, .int 1), (0, .ref (q 0)), (1, .ref (q 11)), (3, .int x3_14), (4, .int x4_16)]) hx hb dX6_breaks_113 rfl hl (by decide) rfl (fun ls hl => ?_)
              refine lv_iinc (v := (x4_16 + 1)) (lv' := [(4, .int (x4_16 + 1)), (2, .int 1), (0, .ref (q 0)), (1, .ref (q 11)), (3, .int x3_14)]) hx hb dX6_breaks_114 hl (k := 4) rfl rfl (by decide) rfl (fun ls hl => ?_)
              refine lv_goto (tgt := 55) hx hb dX6_breaks_117 (by decide) ?_
              exact ih 1 (x4_16 + 1) s_17 _ _ _ hw hC (lv_sub hl [2, 3, 1, 4, 0] rfl)
  have L46 : ∀ (K : Int32 → Int32 → St → Prop) (hKK : ∀ (x2_10 : Int32) (x3_11 : Int32) (s_12 : St) (H : Heap) (locs : List Loc) (ls : Array Slot), K x2_10 x3_11 s_12 → Cx D A s.heap (wM cI q s_12) H locs → lv_has ls 5 [(0, .ref (q 0)), (1, .ref (q 11)), (2, .int x2_10), (3, .int x3_11)] → W p l e (Rm 3 69) s m [.ref (q 0), .ref (q 11)].toArray below meth c H locs 0 0 (QI below D cI A (wM cI q) post [.ref (q 0), .ref (q 11)].toArray s) (F0 m 126 ls [])) (n : Nat), ∀ (x2_10 : Int32) (x3_11 : Int32) (s_12 : St) (H : Heap) (locs : List Loc) (ls : Array Slot), w_X6_breaks_a10_L46 post K n x2_10 x3_11 s_12 → Cx D A s.heap (wM cI q s_12) H locs → lv_has ls 5 [(0, .ref (q 0)), (1, .ref (q 11)), (2, .int x2_10), (3, .int x3_11)] → W p l e (Rm 3 69) s m [.ref (q 0), .ref (q 11)].toArray below meth c H locs 0 0 (QI below D cI A (wM cI q) post [.ref (q 0), .ref (q 11)].toArray s) (F0 m 46 ls []) := by
    intro  K hKK n
    induction n with
    | zero => intro x2_10 x3_11 s_12 H locs ls hw; exact hw.elim
    | succ n ih =>
      intro x2_10 x3_11 s_12 H locs ls hw hC hl
      refine lv_iload_n hx hb dX6_breaks_46 rfl (lv_at hl 3 rfl) ?_
      refine lv_bipush (v := 8) hx hb dX6_breaks_47 (by decide) ?_
      refine lv_icmp_ge (tgt := 126) hx hb dX6_breaks_49 (by decide) (fun c_13 => ?_) (fun c_13 => ?_)
      · have hw := hw.1 c_13
        exact hKK x2_10 x3_11 s_12 _ _ _ hw hC (lv_sub hl [0, 1, 2, 3] rfl)
      · have hw := hw.2 c_13
        refine lv_iconst (v := 0) hx hb dX6_breaks_52 (by decide) ?_
        refine lv_istore (lv' := [(4, .int 0), (0, .ref (q 0)), (1, .ref (q 11)), (2, .int x2_10), (3, .int x3_11)]) hx hb dX6_breaks_53 hl (by decide) rfl (fun ls hl => ?_)
        obtain ⟨n, hw⟩ := hw
        refine L55 x3_11 _ (fun x2_22 x4_23 s_24 H locs ls hw hC hl => ?_) n x2_10 0 s_12 _ _ _ hw hC (lv_sub hl [1, 2, 3, 4, 0] rfl)
        refine lv_iinc (v := (x3_11 + 1)) (lv' := [(3, .int (x3_11 + 1)), (0, .ref (q 0)), (1, .ref (q 11)), (2, .int x2_22), (4, .int x4_23)]) hx hb dX6_breaks_120 hl (k := 3) rfl rfl (by decide) rfl (fun ls hl => ?_)
        refine lv_goto (tgt := 46) hx hb dX6_breaks_123 (by decide) ?_
        exact ih x2_22 (x3_11 + 1) s_24 _ _ _ hw hC (lv_sub hl [1, 2, 3, 0] rfl)
  refine lv_aload_n hx hb dX6_breaks_0 rfl (lv_at hl 0 rfl) ?_
  refine lv_aload_n hx hb dX6_breaks_1 rfl (lv_at hl 0 rfl) ?_
  refine cx_get (v := .ref (q 13)) hx hb hts iX6 hown hK hC 0 rfl rfl 21 (by decide) u1 rfl rfl dX6_breaks_2 ?_
  refine cx_callVv0 (As := [.ref (q 13)]) (rest := []) ⟨hx, hb, hml, hown, hts⟩ (c_X6_first_a12 l D cI q _ σ  _ hw) (cwV 1 hts gX6_breaks_X6_first rfl rfl rfl (by decide +kernel) ⟨Nat.le_of_ble_eq_true rfl, Nat.le_of_ble_eq_true rfl⟩) hK hC hA 0 rfl rfl rfl rfl hl.1 rfl (Nat.le_of_ble_eq_true rfl) dX6_breaks_5 ⟨Nat.zero_le _, Nat.zero_le _⟩ (fun u_2 H locs hw hC => ?_)
  refine lv_iconst (v := 0) hx hb dX6_breaks_8 (by decide) ?_
  refine lv_istore_n (lv' := [(2, .int 0), (0, .ref (q 0)), (1, .ref (q 11))]) hx hb dX6_breaks_9 rfl hl (by decide) rfl (fun ls hl => ?_)
  obtain ⟨n, hw⟩ := hw
  refine L10  _ (fun x2_6 s_7 H locs ls hw hC hl => ?_) n 0 u_2 _ _ _ hw hC (lv_sub hl [1, 2, 0] rfl)
  refine lv_aload_n hx hb dX6_breaks_30 rfl (lv_at hl 0 rfl) ?_
  refine lv_aload_n hx hb dX6_breaks_31 rfl (lv_at hl 0 rfl) ?_
  refine cx_get (v := .ref (q 13)) hx hb hts iX6 hown hK hC 0 rfl rfl 21 (by decide) u1 rfl rfl dX6_breaks_32 ?_
  refine lv_aload_n hx hb dX6_breaks_35 rfl (lv_at hl 0 rfl) ?_
  refine cx_get (v := .int (s_7.1 5)) hx hb hts iX6 hown hK hC 0 rfl rfl 5 (by decide) u3 rfl rfl dX6_breaks_36 ?_
  refine cx_callVv0 (As := [.ref (q 13), .int (s_7.1 5)]) (rest := []) ⟨hx, hb, hml, hown, hts⟩ (c_X6_bounds_a12 l D cI q _ s_7 (s_7.1 5) _ hw) (cwV 2 hts gX6_breaks_X6_bounds rfl rfl rfl (by decide +kernel) ⟨Nat.le_of_ble_eq_true rfl, Nat.le_of_ble_eq_true rfl⟩) hK hC hA 0 rfl rfl rfl rfl hl.1 rfl (Nat.le_of_ble_eq_true rfl) dX6_breaks_39 ⟨Nat.zero_le _, Nat.zero_le _⟩ (fun u_9 H locs hw hC => ?_)
  refine lv_iconst (v := 0) hx hb dX6_breaks_42 (by decide) ?_
  refine lv_istore_n (lv' := [(2, .int 0), (0, .ref (q 0)), (1, .ref (q 11))]) hx hb dX6_breaks_43 rfl hl (by decide) rfl (fun ls hl => ?_)
  refine lv_iconst (v := 0) hx hb dX6_breaks_44 (by decide) ?_
  refine lv_istore_n (lv' := [(3, .int 0), (2, .int 0), (0, .ref (q 0)), (1, .ref (q 11))]) hx hb dX6_breaks_45 rfl hl (by decide) rfl (fun ls hl => ?_)
  obtain ⟨n, hw⟩ := hw
  refine L46  _ (fun x2_26 x3_27 s_28 H locs ls hw hC hl => ?_) n 0 0 u_9 _ _ _ hw hC (lv_sub hl [2, 3, 1, 0] rfl)
  refine lv_iload_n hx hb dX6_breaks_126 rfl (lv_at hl 2 rfl) ?_
  exact cx_ret_z (u := s_28) hx hb hr hlocks hK hC hw.1 hw.2 dX6_breaks_127

/-! PictureHeapModel.first([I)V (X6_first_a15) -/
set_option maxHeartbeats 1000000 in
set_option maxRecDepth 100000 in
theorem c_X6_first_a15 (l : Launch) (D : va_G) (cI : ClassId) (q : Nat → Nat) (sz : Nat) (σ : St) (post : St → Prop) (hw : w_X6_first_a15 σ post) : Cv l yX6_first wsX6_first 0 0 D cI (wM cI q σ) sz [.ref (q 0), .ref (q 16)] (wM cI q) post := by
  refine mo_v (cc := cX6_first) (maxL := 4) (ret := none) (by decide) rfl (Nat.le_of_ble_eq_true rfl) ?_
  intro p e s m below meth c hx hb hr hml hts hown hlocks hK A hA hC ls hl
  have hown : s.vm.findClass RX6 = some m.cls := hown
  have hl : lv_has ls 4 [(0, .ref (q 0)), (1, .ref (q 16))] := hl
  have u1 : (Cond.constant RX6 126 (200000)).before [.ref (q 0), .ref (q 16)].toArray s = true := hts _ (List.mem_of_getElem? (i := 1) rfl)
  have u2 : (Cond.constant RX6 127 (400000)).before [.ref (q 0), .ref (q 16)].toArray s = true := hts _ (List.mem_of_getElem? (i := 2) rfl)
  have L10 : ∀ (x2_4 : Int32) (K : Int32 → St → Prop) (hKK : ∀ (x3_5 : Int32) (s_6 : St) (H : Heap) (locs : List Loc) (ls : Array Slot), K x3_5 s_6 → Cx D A s.heap (wM cI q s_6) H locs → lv_has ls 4 [(1, .ref (q 16)), (2, .int x2_4), (3, .int x3_5)] → W p l e (Rm 0 0) s m [.ref (q 0), .ref (q 16)].toArray below meth c H locs 0 0 (QV below D cI A (wM cI q) post [.ref (q 0), .ref (q 16)].toArray s) (F0 m 54 ls [])) (n : Nat), ∀ (x3_5 : Int32) (s_6 : St) (H : Heap) (locs : List Loc) (ls : Array Slot), w_X6_first_a15_L10 x2_4 post K n x3_5 s_6 → Cx D A s.heap (wM cI q s_6) H locs → lv_has ls 4 [(1, .ref (q 16)), (2, .int x2_4), (3, .int x3_5)] → W p l e (Rm 0 0) s m [.ref (q 0), .ref (q 16)].toArray below meth c H locs 0 0 (QV below D cI A (wM cI q) post [.ref (q 0), .ref (q 16)].toArray s) (F0 m 10 ls []) := by
    intro x2_4 K hKK n
    induction n with
    | zero => intro x3_5 s_6 H locs ls hw; exact hw.elim
    | succ n ih =>
      intro x3_5 s_6 H locs ls hw hC hl
      refine lv_iload_n hx hb dX6_first_10 rfl (lv_at hl 2 rfl) ?_
      refine lv_bipush (v := 8) hx hb dX6_first_11 (by decide) ?_
      refine lv_icmp_ge (tgt := 54) hx hb dX6_first_13 (by decide) (fun c_7 => ?_) (fun c_7 => ?_)
      · have hw := hw.1 c_7
        exact hKK x3_5 s_6 _ _ _ hw hC (lv_sub hl [0, 1, 2] rfl)
      · have hw := hw.2 c_7
        refine lv_aload_n hx hb dX6_first_16 rfl (lv_at hl 0 rfl) ?_
        refine lv_bipush (v := 8) hx hb dX6_first_17 (by decide) ?_
        refine lv_iload_n hx hb dX6_first_19 rfl (lv_at hl 1 rfl) ?_
        refine lv_imul hx hb dX6_first_20 ?_
        refine lv_iload_n hx hb dX6_first_21 rfl (lv_at hl 2 rfl) ?_
        refine lv_iadd hx hb dX6_first_22 ?_
        refine lv_iload_n hx hb dX6_first_23 rfl (lv_at hl 1 rfl) ?_
        refine lv_iload_n hx hb dX6_first_24 rfl (lv_at hl 2 rfl) ?_
        refine lv_icmp_ne (tgt := 32) hx hb dX6_first_25 (by decide) (fun c_8 => ?_) (fun c_8 => ?_)
        · have hw := hw.1 c_8
          refine lv_iload_n hx hb dX6_first_32 rfl (lv_at hl 1 rfl) ?_
          refine lv_if_eq (tgt := 40) hx hb dX6_first_33 (by decide) (fun c_9 => ?_) (fun c_9 => ?_)
          · have hw := hw.1 c_9
            refine lv_ldc (v := 200000) hx hb hown u1 dX6_first_40 ?_
            refine lv_goto (tgt := 47) hx hb dX6_first_42 (by decide) ?_
            refine cx_iast (f := s_6.2 15) hx hb hK hC 16 rfl hw.1 dX6_first_47 (ws' := (wM cI q (s_6.1, (va_up s_6.2 15 (upd (s_6.2 15) (Int32.toNatClampNeg ((8 * x2_4) + x3_5)) 200000))))) (wM_a15 cI q _ _) (fun H locs hC => ?_)
            have hw := hw.2
            refine lv_iinc (v := (x3_5 + 1)) (lv' := [(3, .int (x3_5 + 1)), (1, .ref (q 16)), (2, .int x2_4)]) hx hb dX6_first_48 hl (k := 2) rfl rfl (by decide) rfl (fun ls hl => ?_)
            refine lv_goto (tgt := 10) hx hb dX6_first_51 (by decide) ?_
            exact ih (x3_5 + 1) (s_6.1, (va_up s_6.2 15 (upd (s_6.2 15) (Int32.toNatClampNeg ((8 * x2_4) + x3_5)) 200000))) _ _ _ hw hC (lv_sub hl [1, 2, 0] rfl)
          · have hw := hw.2 c_9
            refine lv_iload_n hx hb dX6_first_36 rfl (lv_at hl 2 rfl) ?_
            refine lv_if_ne (tgt := 45) hx hb dX6_first_37 (by decide) (fun c_10 => ?_) (fun c_10 => ?_)
            · have hw := hw.1 c_10
              refine lv_ldc (v := 400000) hx hb hown u2 dX6_first_45 ?_
              refine cx_iast (f := s_6.2 15) hx hb hK hC 16 rfl hw.1 dX6_first_47 (ws' := (wM cI q (s_6.1, (va_up s_6.2 15 (upd (s_6.2 15) (Int32.toNatClampNeg ((8 * x2_4) + x3_5)) 400000))))) (wM_a15 cI q _ _) (fun H locs hC => ?_)
              have hw := hw.2
              refine lv_iinc (v := (x3_5 + 1)) (lv' := [(3, .int (x3_5 + 1)), (1, .ref (q 16)), (2, .int x2_4)]) hx hb dX6_first_48 hl (k := 2) rfl rfl (by decide) rfl (fun ls hl => ?_)
              refine lv_goto (tgt := 10) hx hb dX6_first_51 (by decide) ?_
              exact ih (x3_5 + 1) (s_6.1, (va_up s_6.2 15 (upd (s_6.2 15) (Int32.toNatClampNeg ((8 * x2_4) + x3_5)) 400000))) _ _ _ hw hC (lv_sub hl [1, 2, 0] rfl)
            · have hw := hw.2 c_10
              refine lv_ldc (v := 200000) hx hb hown u1 dX6_first_40 ?_
              refine lv_goto (tgt := 47) hx hb dX6_first_42 (by decide) ?_
              refine cx_iast (f := s_6.2 15) hx hb hK hC 16 rfl hw.1 dX6_first_47 (ws' := (wM cI q (s_6.1, (va_up s_6.2 15 (upd (s_6.2 15) (Int32.toNatClampNeg ((8 * x2_4) + x3_5)) 200000))))) (wM_a15 cI q _ _) (fun H locs hC => ?_)
              have hw := hw.2
              refine lv_iinc (v := (x3_5 + 1)) (lv' := [(3, .int (x3_5 + 1)), (1, .ref (q 16)), (2, .int x2_4)]) hx hb dX6_first_48 hl (k := 2) rfl rfl (by decide) rfl (fun ls hl => ?_)
              refine lv_goto (tgt := 10) hx hb dX6_first_51 (by decide) ?_
              exact ih (x3_5 + 1) (s_6.1, (va_up s_6.2 15 (upd (s_6.2 15) (Int32.toNatClampNeg ((8 * x2_4) + x3_5)) 200000))) _ _ _ hw hC (lv_sub hl [1, 2, 0] rfl)
        · have hw := hw.2 c_8
          refine lv_iconst (v := 0) hx hb dX6_first_28 (by decide) ?_
          refine lv_goto (tgt := 47) hx hb dX6_first_29 (by decide) ?_
          refine cx_iast (f := s_6.2 15) hx hb hK hC 16 rfl hw.1 dX6_first_47 (ws' := (wM cI q (s_6.1, (va_up s_6.2 15 (upd (s_6.2 15) (Int32.toNatClampNeg ((8 * x2_4) + x3_5)) 0))))) (wM_a15 cI q _ _) (fun H locs hC => ?_)
          have hw := hw.2
          refine lv_iinc (v := (x3_5 + 1)) (lv' := [(3, .int (x3_5 + 1)), (1, .ref (q 16)), (2, .int x2_4)]) hx hb dX6_first_48 hl (k := 2) rfl rfl (by decide) rfl (fun ls hl => ?_)
          refine lv_goto (tgt := 10) hx hb dX6_first_51 (by decide) ?_
          exact ih (x3_5 + 1) (s_6.1, (va_up s_6.2 15 (upd (s_6.2 15) (Int32.toNatClampNeg ((8 * x2_4) + x3_5)) 0))) _ _ _ hw hC (lv_sub hl [1, 2, 0] rfl)
  have L2 : ∀ (K : Int32 → St → Prop) (hKK : ∀ (x2_1 : Int32) (s_2 : St) (H : Heap) (locs : List Loc) (ls : Array Slot), K x2_1 s_2 → Cx D A s.heap (wM cI q s_2) H locs → lv_has ls 4 [(1, .ref (q 16)), (2, .int x2_1)] → W p l e (Rm 0 0) s m [.ref (q 0), .ref (q 16)].toArray below meth c H locs 0 0 (QV below D cI A (wM cI q) post [.ref (q 0), .ref (q 16)].toArray s) (F0 m 60 ls [])) (n : Nat), ∀ (x2_1 : Int32) (s_2 : St) (H : Heap) (locs : List Loc) (ls : Array Slot), w_X6_first_a15_L2 post K n x2_1 s_2 → Cx D A s.heap (wM cI q s_2) H locs → lv_has ls 4 [(1, .ref (q 16)), (2, .int x2_1)] → W p l e (Rm 0 0) s m [.ref (q 0), .ref (q 16)].toArray below meth c H locs 0 0 (QV below D cI A (wM cI q) post [.ref (q 0), .ref (q 16)].toArray s) (F0 m 2 ls []) := by
    intro  K hKK n
    induction n with
    | zero => intro x2_1 s_2 H locs ls hw; exact hw.elim
    | succ n ih =>
      intro x2_1 s_2 H locs ls hw hC hl
      refine lv_iload_n hx hb dX6_first_2 rfl (lv_at hl 1 rfl) ?_
      refine lv_bipush (v := 8) hx hb dX6_first_3 (by decide) ?_
      refine lv_icmp_ge (tgt := 60) hx hb dX6_first_5 (by decide) (fun c_3 => ?_) (fun c_3 => ?_)
      · have hw := hw.1 c_3
        exact hKK x2_1 s_2 _ _ _ hw hC (lv_sub hl [0, 1] rfl)
      · have hw := hw.2 c_3
        refine lv_iconst (v := 0) hx hb dX6_first_8 (by decide) ?_
        refine lv_istore_n (lv' := [(3, .int 0), (1, .ref (q 16)), (2, .int x2_1)]) hx hb dX6_first_9 rfl hl (by decide) rfl (fun ls hl => ?_)
        obtain ⟨n, hw⟩ := hw
        refine L10 x2_1 _ (fun x3_11 s_12 H locs ls hw hC hl => ?_) n 0 s_2 _ _ _ hw hC (lv_sub hl [1, 2, 0] rfl)
        refine lv_iinc (v := (x2_1 + 1)) (lv' := [(2, .int (x2_1 + 1)), (1, .ref (q 16)), (3, .int x3_11)]) hx hb dX6_first_54 hl (k := 1) rfl rfl (by decide) rfl (fun ls hl => ?_)
        refine lv_goto (tgt := 2) hx hb dX6_first_57 (by decide) ?_
        exact ih (x2_1 + 1) s_12 _ _ _ hw hC (lv_sub hl [1, 0] rfl)
  refine lv_iconst (v := 0) hx hb dX6_first_0 (by decide) ?_
  refine lv_istore_n (lv' := [(2, .int 0), (0, .ref (q 0)), (1, .ref (q 16))]) hx hb dX6_first_1 rfl hl (by decide) rfl (fun ls hl => ?_)
  obtain ⟨n, hw⟩ := hw
  refine L2  _ (fun x2_14 s_15 H locs ls hw hC hl => ?_) n 0 σ _ _ _ hw hC (lv_sub hl [2, 0] rfl)
  exact cx_ret_v (u := s_15) hx hb hr hlocks hK hC hw dX6_first_60

/-! PictureHeapModel.breaks([I)Z (X6_breaks_a13) -/
set_option maxHeartbeats 1000000 in
set_option maxRecDepth 100000 in
theorem c_X6_breaks_a13 (l : Launch) (D : va_G) (cI : ClassId) (q : Nat → Nat) (sz : Nat) (σ : St) (post : Int32 → St → Prop) (hw : w_X6_breaks_a13 σ post) : Ci l yX6_breaks wsX6_breaks 3 69 D cI (wM cI q σ) sz [.ref (q 0), .ref (q 14)] (wM cI q) post := by
  refine mo_i (cc := cX6_breaks) (maxL := 5) (ret := (some .boolean)) (by decide) rfl (Nat.le_of_ble_eq_true rfl) ?_
  intro p e s m below meth c hx hb hr hml hts hown hlocks hK A hA hC ls hl
  have hown : s.vm.findClass RX6 = some m.cls := hown
  have hl : lv_has ls 5 [(0, .ref (q 0)), (1, .ref (q 14))] := hl
  have u1 : (Cond.fieldLink RX6 53 "PictureHeapModel" "single" "[I").before [.ref (q 0), .ref (q 14)].toArray s = true := hts _ (List.mem_of_getElem? (i := 1) rfl)
  have u2 : (Cond.constant RX6 143 (100000000)).before [.ref (q 0), .ref (q 14)].toArray s = true := hts _ (List.mem_of_getElem? (i := 2) rfl)
  have u3 : (Cond.fieldLink RX6 132 "PictureHeapModel" "ties" "I").before [.ref (q 0), .ref (q 14)].toArray s = true := hts _ (List.mem_of_getElem? (i := 3) rfl)
  have iX6 : ∀ w ∈ wsX60, w ∈ wsX6_breaks := fun _ h => List.mem_cons_of_mem _ (List.mem_append_right _ h)
  have L10 : ∀ (K : Int32 → St → Prop) (hKK : ∀ (x2_3 : Int32) (s_4 : St) (H : Heap) (locs : List Loc) (ls : Array Slot), K x2_3 s_4 → Cx D A s.heap (wM cI q s_4) H locs → lv_has ls 5 [(0, .ref (q 0)), (1, .ref (q 14)), (2, .int x2_3)] → W p l e (Rm 3 69) s m [.ref (q 0), .ref (q 14)].toArray below meth c H locs 0 0 (QI below D cI A (wM cI q) post [.ref (q 0), .ref (q 14)].toArray s) (F0 m 30 ls [])) (n : Nat), ∀ (x2_3 : Int32) (s_4 : St) (H : Heap) (locs : List Loc) (ls : Array Slot), w_X6_breaks_a13_L10 post K n x2_3 s_4 → Cx D A s.heap (wM cI q s_4) H locs → lv_has ls 5 [(0, .ref (q 0)), (1, .ref (q 14)), (2, .int x2_3)] → W p l e (Rm 3 69) s m [.ref (q 0), .ref (q 14)].toArray below meth c H locs 0 0 (QI below D cI A (wM cI q) post [.ref (q 0), .ref (q 14)].toArray s) (F0 m 10 ls []) := by
    intro  K hKK n
    induction n with
    | zero => intro x2_3 s_4 H locs ls hw; exact hw.elim
    | succ n ih =>
      intro x2_3 s_4 H locs ls hw hC hl
      refine lv_iload_n hx hb dX6_breaks_10 rfl (lv_at hl 2 rfl) ?_
      refine lv_bipush (v := 64) hx hb dX6_breaks_11 (by decide) ?_
      refine lv_icmp_ge (tgt := 30) hx hb dX6_breaks_13 (by decide) (fun c_5 => ?_) (fun c_5 => ?_)
      · have hw := hw.1 c_5
        exact hKK x2_3 s_4 _ _ _ hw hC (lv_sub hl [0, 1, 2] rfl)
      · have hw := hw.2 c_5
        refine lv_aload_n hx hb dX6_breaks_16 rfl (lv_at hl 0 rfl) ?_
        refine cx_get (v := .ref (q 13)) hx hb hts iX6 hown hK hC 0 rfl rfl 21 (by decide) u1 rfl rfl dX6_breaks_17 ?_
        refine lv_iload_n hx hb dX6_breaks_20 rfl (lv_at hl 2 rfl) ?_
        refine lv_ldc (v := 100000000) hx hb hown u2 dX6_breaks_21 ?_
        refine cx_iast (f := s_4.2 12) hx hb hK hC 13 rfl hw.1 dX6_breaks_23 (ws' := (wM cI q (s_4.1, (va_up s_4.2 12 (upd (s_4.2 12) (Int32.toNatClampNeg x2_3) 100000000))))) (wM_a12 cI q _ _) (fun H locs hC => ?_)
        have hw := hw.2
        refine lv_iinc (v := (x2_3 + 1)) (lv' := [(2, .int (x2_3 + 1)), (0, .ref (q 0)), (1, .ref (q 14))]) hx hb dX6_breaks_24 hl (k := 2) rfl rfl (by decide) rfl (fun ls hl => ?_)
        refine lv_goto (tgt := 10) hx hb dX6_breaks_27 (by decide) ?_
        exact ih (x2_3 + 1) (s_4.1, (va_up s_4.2 12 (upd (s_4.2 12) (Int32.toNatClampNeg x2_3) 100000000))) _ _ _ hw hC (lv_sub hl [1, 2, 0] rfl)
  have L55 : ∀ (x3_14 : Int32) (K : Int32 → Int32 → St → Prop) (hKK : ∀ (x2_15 : Int32) (x4_16 : Int32) (s_17 : St) (H : Heap) (locs : List Loc) (ls : Array Slot), K x2_15 x4_16 s_17 → Cx D A s.heap (wM cI q s_17) H locs → lv_has ls 5 [(0, .ref (q 0)), (1, .ref (q 14)), (2, .int x2_15), (3, .int x3_14), (4, .int x4_16)] → W p l e (Rm 3 69) s m [.ref (q 0), .ref (q 14)].toArray below meth c H locs 0 0 (QI below D cI A (wM cI q) post [.ref (q 0), .ref (q 14)].toArray s) (F0 m 120 ls [])) (n : Nat), ∀ (x2_15 : Int32) (x4_16 : Int32) (s_17 : St) (H : Heap) (locs : List Loc) (ls : Array Slot), w_X6_breaks_a13_L55 x3_14 post K n x2_15 x4_16 s_17 → Cx D A s.heap (wM cI q s_17) H locs → lv_has ls 5 [(0, .ref (q 0)), (1, .ref (q 14)), (2, .int x2_15), (3, .int x3_14), (4, .int x4_16)] → W p l e (Rm 3 69) s m [.ref (q 0), .ref (q 14)].toArray below meth c H locs 0 0 (QI below D cI A (wM cI q) post [.ref (q 0), .ref (q 14)].toArray s) (F0 m 55 ls []) := by
    intro x3_14 K hKK n
    induction n with
    | zero => intro x2_15 x4_16 s_17 H locs ls hw; exact hw.elim
    | succ n ih =>
      intro x2_15 x4_16 s_17 H locs ls hw hC hl
      refine lv_iload hx hb dX6_breaks_55 (lv_at hl 4 rfl) ?_
      refine lv_bipush (v := 8) hx hb dX6_breaks_57 (by decide) ?_
      refine lv_icmp_ge (tgt := 120) hx hb dX6_breaks_59 (by decide) (fun c_18 => ?_) (fun c_18 => ?_)
      · have hw := hw.1 c_18
        exact hKK x2_15 x4_16 s_17 _ _ _ hw hC (lv_sub hl [0, 1, 2, 3, 4] rfl)
      · have hw := hw.2 c_18
        refine lv_iload_n hx hb dX6_breaks_62 rfl (lv_at hl 2 rfl) ?_
        refine lv_if_ne (tgt := 108) hx hb dX6_breaks_63 (by decide) (fun c_19 => ?_) (fun c_19 => ?_)
        · have hw := hw.1 c_19
          refine lv_iconst (v := 1) hx hb dX6_breaks_108 (by decide) ?_
          refine lv_goto (tgt := 113) hx hb dX6_breaks_109 (by decide) ?_
          refine lv_istore_n (lv' := [(2, .int 1), (0, .ref (q 0)), (1, .ref (q 14)), (3, .int x3_14), (4, .int x4_16)]) hx hb dX6_breaks_113 rfl hl (by decide) rfl (fun ls hl => ?_)
          refine lv_iinc (v := (x4_16 + 1)) (lv' := [(4, .int (x4_16 + 1)), (2, .int 1), (0, .ref (q 0)), (1, .ref (q 14)), (3, .int x3_14)]) hx hb dX6_breaks_114 hl (k := 4) rfl rfl (by decide) rfl (fun ls hl => ?_)
          refine lv_goto (tgt := 55) hx hb dX6_breaks_117 (by decide) ?_
          exact ih 1 (x4_16 + 1) s_17 _ _ _ hw hC (lv_sub hl [2, 3, 1, 4, 0] rfl)
        · have hw := hw.2 c_19
          refine lv_aload_n hx hb dX6_breaks_66 rfl (lv_at hl 0 rfl) ?_
          refine cx_get (v := .ref (q 13)) hx hb hts iX6 hown hK hC 0 rfl rfl 21 (by decide) u1 rfl rfl dX6_breaks_67 ?_
          refine lv_bipush (v := 8) hx hb dX6_breaks_70 (by decide) ?_
          refine lv_iload_n hx hb dX6_breaks_72 rfl (lv_at hl 3 rfl) ?_
          refine lv_imul hx hb dX6_breaks_73 ?_
          refine lv_iload hx hb dX6_breaks_74 (lv_at hl 4 rfl) ?_
          refine lv_iadd hx hb dX6_breaks_76 ?_
          refine cx_iald (f := s_17.2 12) hx hb hK hC 13 rfl hw.1 dX6_breaks_77 ?_
          have hw := hw.2
          refine lv_ldc (v := 100000000) hx hb hown u2 dX6_breaks_78 ?_
          refine lv_icmp_ge (tgt := 112) hx hb dX6_breaks_80 (by decide) (fun c_20 => ?_) (fun c_20 => ?_)
          · have hw := hw.1 c_20
            refine lv_iconst (v := 0) hx hb dX6_breaks_112 (by decide) ?_
            refine lv_istore_n (lv' := [(2, .int 0), (0, .ref (q 0)), (1, .ref (q 14)), (3, .int x3_14), (4, .int x4_16)]) hx hb dX6_breaks_113 rfl hl (by decide) rfl (fun ls hl => ?_)
            refine lv_iinc (v := (x4_16 + 1)) (lv' := [(4, .int (x4_16 + 1)), (2, .int 0), (0, .ref (q 0)), (1, .ref (q 14)), (3, .int x3_14)]) hx hb dX6_breaks_114 hl (k := 4) rfl rfl (by decide) rfl (fun ls hl => ?_)
            refine lv_goto (tgt := 55) hx hb dX6_breaks_117 (by decide) ?_
            exact ih 0 (x4_16 + 1) s_17 _ _ _ hw hC (lv_sub hl [2, 3, 1, 4, 0] rfl)
          · have hw := hw.2 c_20
            refine lv_aload_n hx hb dX6_breaks_83 rfl (lv_at hl 0 rfl) ?_
            refine cx_get (v := .ref (q 13)) hx hb hts iX6 hown hK hC 0 rfl rfl 21 (by decide) u1 rfl rfl dX6_breaks_84 ?_
            refine lv_bipush (v := 8) hx hb dX6_breaks_87 (by decide) ?_
            refine lv_iload_n hx hb dX6_breaks_89 rfl (lv_at hl 3 rfl) ?_
            refine lv_imul hx hb dX6_breaks_90 ?_
            refine lv_iload hx hb dX6_breaks_91 (lv_at hl 4 rfl) ?_
            refine lv_iadd hx hb dX6_breaks_93 ?_
            refine cx_iald (f := s_17.2 12) hx hb hK hC 13 rfl hw.1 dX6_breaks_94 ?_
            have hw := hw.2
            refine lv_aload_n hx hb dX6_breaks_95 rfl (lv_at hl 1 rfl) ?_
            refine lv_bipush (v := 8) hx hb dX6_breaks_96 (by decide) ?_
            refine lv_iload hx hb dX6_breaks_98 (lv_at hl 4 rfl) ?_
            refine lv_imul hx hb dX6_breaks_100 ?_
            refine lv_iload_n hx hb dX6_breaks_101 rfl (lv_at hl 3 rfl) ?_
            refine lv_iadd hx hb dX6_breaks_102 ?_
            refine cx_iald (f := s_17.2 13) hx hb hK hC 14 rfl hw.1 dX6_breaks_103 ?_
            have hw := hw.2
            refine lv_iadd hx hb dX6_breaks_104 ?_
            refine lv_if_ge (tgt := 112) hx hb dX6_breaks_105 (by decide) (fun c_21 => ?_) (fun c_21 => ?_)
            · have hw := hw.1 c_21
              refine lv_iconst (v := 0) hx hb dX6_breaks_112 (by decide) ?_
              refine lv_istore_n (lv' := [(2, .int 0), (0, .ref (q 0)), (1, .ref (q 14)), (3, .int x3_14), (4, .int x4_16)]) hx hb dX6_breaks_113 rfl hl (by decide) rfl (fun ls hl => ?_)
              refine lv_iinc (v := (x4_16 + 1)) (lv' := [(4, .int (x4_16 + 1)), (2, .int 0), (0, .ref (q 0)), (1, .ref (q 14)), (3, .int x3_14)]) hx hb dX6_breaks_114 hl (k := 4) rfl rfl (by decide) rfl (fun ls hl => ?_)
              refine lv_goto (tgt := 55) hx hb dX6_breaks_117 (by decide) ?_
              exact ih 0 (x4_16 + 1) s_17 _ _ _ hw hC (lv_sub hl [2, 3, 1, 4, 0] rfl)
            · have hw := hw.2 c_21
              refine lv_iconst (v := 1) hx hb dX6_breaks_108 (by decide) ?_
              refine lv_goto (tgt := 113) hx hb dX6_breaks_109 (by decide) ?_
              refine lv_istore_n (lv' := [(2, .int 1), (0, .ref (q 0)), (1, .ref (q 14)), (3, .int x3_14), (4, .int x4_16)]) hx hb dX6_breaks_113 rfl hl (by decide) rfl (fun ls hl => ?_)
              refine lv_iinc (v := (x4_16 + 1)) (lv' := [(4, .int (x4_16 + 1)), (2, .int 1), (0, .ref (q 0)), (1, .ref (q 14)), (3, .int x3_14)]) hx hb dX6_breaks_114 hl (k := 4) rfl rfl (by decide) rfl (fun ls hl => ?_)
              refine lv_goto (tgt := 55) hx hb dX6_breaks_117 (by decide) ?_
              exact ih 1 (x4_16 + 1) s_17 _ _ _ hw hC (lv_sub hl [2, 3, 1, 4, 0] rfl)
  have L46 : ∀ (K : Int32 → Int32 → St → Prop) (hKK : ∀ (x2_10 : Int32) (x3_11 : Int32) (s_12 : St) (H : Heap) (locs : List Loc) (ls : Array Slot), K x2_10 x3_11 s_12 → Cx D A s.heap (wM cI q s_12) H locs → lv_has ls 5 [(0, .ref (q 0)), (1, .ref (q 14)), (2, .int x2_10), (3, .int x3_11)] → W p l e (Rm 3 69) s m [.ref (q 0), .ref (q 14)].toArray below meth c H locs 0 0 (QI below D cI A (wM cI q) post [.ref (q 0), .ref (q 14)].toArray s) (F0 m 126 ls [])) (n : Nat), ∀ (x2_10 : Int32) (x3_11 : Int32) (s_12 : St) (H : Heap) (locs : List Loc) (ls : Array Slot), w_X6_breaks_a13_L46 post K n x2_10 x3_11 s_12 → Cx D A s.heap (wM cI q s_12) H locs → lv_has ls 5 [(0, .ref (q 0)), (1, .ref (q 14)), (2, .int x2_10), (3, .int x3_11)] → W p l e (Rm 3 69) s m [.ref (q 0), .ref (q 14)].toArray below meth c H locs 0 0 (QI below D cI A (wM cI q) post [.ref (q 0), .ref (q 14)].toArray s) (F0 m 46 ls []) := by
    intro  K hKK n
    induction n with
    | zero => intro x2_10 x3_11 s_12 H locs ls hw; exact hw.elim
    | succ n ih =>
      intro x2_10 x3_11 s_12 H locs ls hw hC hl
      refine lv_iload_n hx hb dX6_breaks_46 rfl (lv_at hl 3 rfl) ?_
      refine lv_bipush (v := 8) hx hb dX6_breaks_47 (by decide) ?_
      refine lv_icmp_ge (tgt := 126) hx hb dX6_breaks_49 (by decide) (fun c_13 => ?_) (fun c_13 => ?_)
      · have hw := hw.1 c_13
        exact hKK x2_10 x3_11 s_12 _ _ _ hw hC (lv_sub hl [0, 1, 2, 3] rfl)
      · have hw := hw.2 c_13
        refine lv_iconst (v := 0) hx hb dX6_breaks_52 (by decide) ?_
        refine lv_istore (lv' := [(4, .int 0), (0, .ref (q 0)), (1, .ref (q 14)), (2, .int x2_10), (3, .int x3_11)]) hx hb dX6_breaks_53 hl (by decide) rfl (fun ls hl => ?_)
        obtain ⟨n, hw⟩ := hw
        refine L55 x3_11 _ (fun x2_22 x4_23 s_24 H locs ls hw hC hl => ?_) n x2_10 0 s_12 _ _ _ hw hC (lv_sub hl [1, 2, 3, 4, 0] rfl)
        refine lv_iinc (v := (x3_11 + 1)) (lv' := [(3, .int (x3_11 + 1)), (0, .ref (q 0)), (1, .ref (q 14)), (2, .int x2_22), (4, .int x4_23)]) hx hb dX6_breaks_120 hl (k := 3) rfl rfl (by decide) rfl (fun ls hl => ?_)
        refine lv_goto (tgt := 46) hx hb dX6_breaks_123 (by decide) ?_
        exact ih x2_22 (x3_11 + 1) s_24 _ _ _ hw hC (lv_sub hl [1, 2, 3, 0] rfl)
  refine lv_aload_n hx hb dX6_breaks_0 rfl (lv_at hl 0 rfl) ?_
  refine lv_aload_n hx hb dX6_breaks_1 rfl (lv_at hl 0 rfl) ?_
  refine cx_get (v := .ref (q 13)) hx hb hts iX6 hown hK hC 0 rfl rfl 21 (by decide) u1 rfl rfl dX6_breaks_2 ?_
  refine cx_callVv0 (As := [.ref (q 13)]) (rest := []) ⟨hx, hb, hml, hown, hts⟩ (c_X6_first_a12 l D cI q _ σ  _ hw) (cwV 1 hts gX6_breaks_X6_first rfl rfl rfl (by decide +kernel) ⟨Nat.le_of_ble_eq_true rfl, Nat.le_of_ble_eq_true rfl⟩) hK hC hA 0 rfl rfl rfl rfl hl.1 rfl (Nat.le_of_ble_eq_true rfl) dX6_breaks_5 ⟨Nat.zero_le _, Nat.zero_le _⟩ (fun u_2 H locs hw hC => ?_)
  refine lv_iconst (v := 0) hx hb dX6_breaks_8 (by decide) ?_
  refine lv_istore_n (lv' := [(2, .int 0), (0, .ref (q 0)), (1, .ref (q 14))]) hx hb dX6_breaks_9 rfl hl (by decide) rfl (fun ls hl => ?_)
  obtain ⟨n, hw⟩ := hw
  refine L10  _ (fun x2_6 s_7 H locs ls hw hC hl => ?_) n 0 u_2 _ _ _ hw hC (lv_sub hl [1, 2, 0] rfl)
  refine lv_aload_n hx hb dX6_breaks_30 rfl (lv_at hl 0 rfl) ?_
  refine lv_aload_n hx hb dX6_breaks_31 rfl (lv_at hl 0 rfl) ?_
  refine cx_get (v := .ref (q 13)) hx hb hts iX6 hown hK hC 0 rfl rfl 21 (by decide) u1 rfl rfl dX6_breaks_32 ?_
  refine lv_aload_n hx hb dX6_breaks_35 rfl (lv_at hl 0 rfl) ?_
  refine cx_get (v := .int (s_7.1 5)) hx hb hts iX6 hown hK hC 0 rfl rfl 5 (by decide) u3 rfl rfl dX6_breaks_36 ?_
  refine cx_callVv0 (As := [.ref (q 13), .int (s_7.1 5)]) (rest := []) ⟨hx, hb, hml, hown, hts⟩ (c_X6_bounds_a12 l D cI q _ s_7 (s_7.1 5) _ hw) (cwV 2 hts gX6_breaks_X6_bounds rfl rfl rfl (by decide +kernel) ⟨Nat.le_of_ble_eq_true rfl, Nat.le_of_ble_eq_true rfl⟩) hK hC hA 0 rfl rfl rfl rfl hl.1 rfl (Nat.le_of_ble_eq_true rfl) dX6_breaks_39 ⟨Nat.zero_le _, Nat.zero_le _⟩ (fun u_9 H locs hw hC => ?_)
  refine lv_iconst (v := 0) hx hb dX6_breaks_42 (by decide) ?_
  refine lv_istore_n (lv' := [(2, .int 0), (0, .ref (q 0)), (1, .ref (q 14))]) hx hb dX6_breaks_43 rfl hl (by decide) rfl (fun ls hl => ?_)
  refine lv_iconst (v := 0) hx hb dX6_breaks_44 (by decide) ?_
  refine lv_istore_n (lv' := [(3, .int 0), (2, .int 0), (0, .ref (q 0)), (1, .ref (q 14))]) hx hb dX6_breaks_45 rfl hl (by decide) rfl (fun ls hl => ?_)
  obtain ⟨n, hw⟩ := hw
  refine L46  _ (fun x2_26 x3_27 s_28 H locs ls hw hC hl => ?_) n 0 0 u_9 _ _ _ hw hC (lv_sub hl [2, 3, 1, 0] rfl)
  refine lv_iload_n hx hb dX6_breaks_126 rfl (lv_at hl 2 rfl) ?_
  exact cx_ret_z (u := s_28) hx hb hr hlocks hK hC hw.1 hw.2 dX6_breaks_127

/-! PictureHeapModel.fewest()I (X6_fewest) -/
set_option maxHeartbeats 1000000 in
set_option maxRecDepth 100000 in
theorem c_X6_fewest (l : Launch) (D : va_G) (cI : ClassId) (q : Nat → Nat) (sz : Nat) (σ : St) (post : Int32 → St → Prop) (hw : w_X6_fewest σ post) : Ci l yX6_fewest wsX6_fewest 4 93 D cI (wM cI q σ) sz [.ref (q 0)] (wM cI q) post := by
  refine mo_i (cc := cX6_fewest) (maxL := 7) (ret := (some .int)) (by decide) rfl (Nat.le_of_ble_eq_true rfl) ?_
  intro p e s m below meth c hx hb hr hml hts hown hlocks hK A hA hC ls hl
  have hown : s.vm.findClass RX6 = some m.cls := hown
  have hl : lv_has ls 7 [(0, .ref (q 0))] := hl
  have u1 : (Cond.fieldLink RX6 62 "PictureHeapModel" "free" "[I").before [.ref (q 0)].toArray s = true := hts _ (List.mem_of_getElem? (i := 1) rfl)
  have u2 : (Cond.fieldLink RX6 56 "PictureHeapModel" "walk" "[I").before [.ref (q 0)].toArray s = true := hts _ (List.mem_of_getElem? (i := 2) rfl)
  have u3 : (Cond.fieldLink RX6 59 "PictureHeapModel" "longer" "[I").before [.ref (q 0)].toArray s = true := hts _ (List.mem_of_getElem? (i := 3) rfl)
  have u4 : (Cond.fieldLink RX6 53 "PictureHeapModel" "single" "[I").before [.ref (q 0)].toArray s = true := hts _ (List.mem_of_getElem? (i := 4) rfl)
  have u5 : (Cond.constant RX6 143 (100000000)).before [.ref (q 0)].toArray s = true := hts _ (List.mem_of_getElem? (i := 5) rfl)
  have u6 : (Cond.fieldLink RX6 132 "PictureHeapModel" "ties" "I").before [.ref (q 0)].toArray s = true := hts _ (List.mem_of_getElem? (i := 6) rfl)
  have iX6 : ∀ w ∈ wsX60, w ∈ wsX6_fewest := fun _ h => List.mem_cons_of_mem _ (List.mem_append_right _ h)
  have L18 : ∀ (K : Int32 → St → Prop) (hKK : ∀ (x2_5 : Int32) (s_6 : St) (H : Heap) (locs : List Loc) (ls : Array Slot), K x2_5 s_6 → Cx D A s.heap (wM cI q s_6) H locs → lv_has ls 7 [(0, .ref (q 0)), (2, .int x2_5)] → W p l e (Rm 4 93) s m [.ref (q 0)].toArray below meth c H locs 0 0 (QI below D cI A (wM cI q) post [.ref (q 0)].toArray s) (F0 m 42 ls [])) (n : Nat), ∀ (x2_5 : Int32) (s_6 : St) (H : Heap) (locs : List Loc) (ls : Array Slot), w_X6_fewest_L18 post K n x2_5 s_6 → Cx D A s.heap (wM cI q s_6) H locs → lv_has ls 7 [(0, .ref (q 0)), (2, .int x2_5)] → W p l e (Rm 4 93) s m [.ref (q 0)].toArray below meth c H locs 0 0 (QI below D cI A (wM cI q) post [.ref (q 0)].toArray s) (F0 m 18 ls []) := by
    intro  K hKK n
    induction n with
    | zero => intro x2_5 s_6 H locs ls hw; exact hw.elim
    | succ n ih =>
      intro x2_5 s_6 H locs ls hw hC hl
      refine lv_iload_n hx hb dX6_fewest_18 rfl (lv_at hl 1 rfl) ?_
      refine lv_bipush (v := 64) hx hb dX6_fewest_19 (by decide) ?_
      refine lv_icmp_ge (tgt := 42) hx hb dX6_fewest_21 (by decide) (fun c_7 => ?_) (fun c_7 => ?_)
      · have hw := hw.1 c_7
        exact hKK x2_5 s_6 _ _ _ hw hC (lv_sub hl [0, 1] rfl)
      · have hw := hw.2 c_7
        refine lv_aload_n hx hb dX6_fewest_24 rfl (lv_at hl 0 rfl) ?_
        refine cx_get (v := .ref (q 14)) hx hb hts iX6 hown hK hC 0 rfl rfl 22 (by decide) u2 rfl rfl dX6_fewest_25 ?_
        refine lv_iload_n hx hb dX6_fewest_28 rfl (lv_at hl 1 rfl) ?_
        refine lv_aload_n hx hb dX6_fewest_29 rfl (lv_at hl 0 rfl) ?_
        refine cx_get (v := .ref (q 16)) hx hb hts iX6 hown hK hC 0 rfl rfl 24 (by decide) u1 rfl rfl dX6_fewest_30 ?_
        refine lv_iload_n hx hb dX6_fewest_33 rfl (lv_at hl 1 rfl) ?_
        refine cx_iald (f := s_6.2 15) hx hb hK hC 16 rfl hw.1 dX6_fewest_34 ?_
        have hw := hw.2
        refine cx_iast (f := s_6.2 13) hx hb hK hC 14 rfl hw.1 dX6_fewest_35 (ws' := (wM cI q (s_6.1, (va_up s_6.2 13 (upd (s_6.2 13) (Int32.toNatClampNeg x2_5) (s_6.2 15 (Int32.toNatClampNeg x2_5))))))) (wM_a13 cI q _ _) (fun H locs hC => ?_)
        have hw := hw.2
        refine lv_iinc (v := (x2_5 + 1)) (lv' := [(2, .int (x2_5 + 1)), (0, .ref (q 0))]) hx hb dX6_fewest_36 hl (k := 1) rfl rfl (by decide) rfl (fun ls hl => ?_)
        refine lv_goto (tgt := 18) hx hb dX6_fewest_39 (by decide) ?_
        exact ih (x2_5 + 1) (s_6.1, (va_up s_6.2 13 (upd (s_6.2 13) (Int32.toNatClampNeg x2_5) (s_6.2 15 (Int32.toNatClampNeg x2_5))))) _ _ _ hw hC (lv_sub hl [1, 0] rfl)
  have L60 : ∀ (x2_15 : Int32) (K : Int32 → St → Prop) (hKK : ∀ (x3_16 : Int32) (s_17 : St) (H : Heap) (locs : List Loc) (ls : Array Slot), K x3_16 s_17 → Cx D A s.heap (wM cI q s_17) H locs → lv_has ls 7 [(0, .ref (q 0)), (2, .int x2_15), (3, .int x3_16)] → W p l e (Rm 4 93) s m [.ref (q 0)].toArray below meth c H locs 0 0 (QI below D cI A (wM cI q) post [.ref (q 0)].toArray s) (F0 m 92 ls [])) (n : Nat), ∀ (x3_16 : Int32) (s_17 : St) (H : Heap) (locs : List Loc) (ls : Array Slot), w_X6_fewest_L60 x2_15 post K n x3_16 s_17 → Cx D A s.heap (wM cI q s_17) H locs → lv_has ls 7 [(0, .ref (q 0)), (2, .int x2_15), (3, .int x3_16)] → W p l e (Rm 4 93) s m [.ref (q 0)].toArray below meth c H locs 0 0 (QI below D cI A (wM cI q) post [.ref (q 0)].toArray s) (F0 m 60 ls []) := by
    intro x2_15 K hKK n
    induction n with
    | zero => intro x3_16 s_17 H locs ls hw; exact hw.elim
    | succ n ih =>
      intro x3_16 s_17 H locs ls hw hC hl
      refine lv_iload_n hx hb dX6_fewest_60 rfl (lv_at hl 2 rfl) ?_
      refine lv_bipush (v := 64) hx hb dX6_fewest_61 (by decide) ?_
      refine lv_icmp_ge (tgt := 92) hx hb dX6_fewest_63 (by decide) (fun c_18 => ?_) (fun c_18 => ?_)
      · have hw := hw.1 c_18
        exact hKK x3_16 s_17 _ _ _ hw hC (lv_sub hl [0, 1, 2] rfl)
      · have hw := hw.2 c_18
        refine lv_aload_n hx hb dX6_fewest_66 rfl (lv_at hl 0 rfl) ?_
        refine cx_get (v := .ref (q 15)) hx hb hts iX6 hown hK hC 0 rfl rfl 23 (by decide) u3 rfl rfl dX6_fewest_67 ?_
        refine lv_iload_n hx hb dX6_fewest_70 rfl (lv_at hl 2 rfl) ?_
        refine lv_aload_n hx hb dX6_fewest_71 rfl (lv_at hl 0 rfl) ?_
        refine cx_get (v := .ref (q 14)) hx hb hts iX6 hown hK hC 0 rfl rfl 22 (by decide) u2 rfl rfl dX6_fewest_72 ?_
        refine lv_iload_n hx hb dX6_fewest_75 rfl (lv_at hl 2 rfl) ?_
        refine cx_iald (f := s_17.2 13) hx hb hK hC 14 rfl hw.1 dX6_fewest_76 ?_
        have hw := hw.2
        refine cx_iast (f := s_17.2 14) hx hb hK hC 15 rfl hw.1 dX6_fewest_77 (ws' := (wM cI q (s_17.1, (va_up s_17.2 14 (upd (s_17.2 14) (Int32.toNatClampNeg x3_16) (s_17.2 13 (Int32.toNatClampNeg x3_16))))))) (wM_a14 cI q _ _) (fun H locs hC => ?_)
        have hw := hw.2
        refine lv_aload_n hx hb dX6_fewest_78 rfl (lv_at hl 0 rfl) ?_
        refine cx_get (v := .ref (q 13)) hx hb hts iX6 hown hK hC 0 rfl rfl 21 (by decide) u4 rfl rfl dX6_fewest_79 ?_
        refine lv_iload_n hx hb dX6_fewest_82 rfl (lv_at hl 2 rfl) ?_
        refine lv_ldc (v := 100000000) hx hb hown u5 dX6_fewest_83 ?_
        refine cx_iast (f := s_17.2 12) hx hb hK hC 13 rfl hw.1 dX6_fewest_85 (ws' := (wM cI q (s_17.1, (va_up (va_up s_17.2 14 (upd (s_17.2 14) (Int32.toNatClampNeg x3_16) (s_17.2 13 (Int32.toNatClampNeg x3_16)))) 12 (upd (s_17.2 12) (Int32.toNatClampNeg x3_16) 100000000))))) (wM_a12 cI q _ _) (fun H locs hC => ?_)
        have hw := hw.2
        refine lv_iinc (v := (x3_16 + 1)) (lv' := [(3, .int (x3_16 + 1)), (0, .ref (q 0)), (2, .int x2_15)]) hx hb dX6_fewest_86 hl (k := 2) rfl rfl (by decide) rfl (fun ls hl => ?_)
        refine lv_goto (tgt := 60) hx hb dX6_fewest_89 (by decide) ?_
        exact ih (x3_16 + 1) (s_17.1, (va_up (va_up s_17.2 14 (upd (s_17.2 14) (Int32.toNatClampNeg x3_16) (s_17.2 13 (Int32.toNatClampNeg x3_16)))) 12 (upd (s_17.2 12) (Int32.toNatClampNeg x3_16) 100000000))) _ _ _ hw hC (lv_sub hl [1, 2, 0] rfl)
  have L94 : ∀ (x2_21 : Int32) (K : Int32 → St → Prop) (hKK : ∀ (x3_22 : Int32) (s_23 : St) (H : Heap) (locs : List Loc) (ls : Array Slot), K x3_22 s_23 → Cx D A s.heap (wM cI q s_23) H locs → lv_has ls 7 [(0, .ref (q 0)), (2, .int x2_21), (3, .int x3_22)] → W p l e (Rm 4 93) s m [.ref (q 0)].toArray below meth c H locs 0 0 (QI below D cI A (wM cI q) post [.ref (q 0)].toArray s) (F0 m 117 ls [])) (n : Nat), ∀ (x3_22 : Int32) (s_23 : St) (H : Heap) (locs : List Loc) (ls : Array Slot), w_X6_fewest_L94 x2_21 post K n x3_22 s_23 → Cx D A s.heap (wM cI q s_23) H locs → lv_has ls 7 [(0, .ref (q 0)), (2, .int x2_21), (3, .int x3_22)] → W p l e (Rm 4 93) s m [.ref (q 0)].toArray below meth c H locs 0 0 (QI below D cI A (wM cI q) post [.ref (q 0)].toArray s) (F0 m 94 ls []) := by
    intro x2_21 K hKK n
    induction n with
    | zero => intro x3_22 s_23 H locs ls hw; exact hw.elim
    | succ n ih =>
      intro x3_22 s_23 H locs ls hw hC hl
      refine lv_iload_n hx hb dX6_fewest_94 rfl (lv_at hl 2 rfl) ?_
      refine lv_aload_n hx hb dX6_fewest_95 rfl (lv_at hl 0 rfl) ?_
      refine cx_get (v := .int (s_23.1 5)) hx hb hts iX6 hown hK hC 0 rfl rfl 5 (by decide) u6 rfl rfl dX6_fewest_96 ?_
      refine lv_icmp_ge (tgt := 117) hx hb dX6_fewest_99 (by decide) (fun c_24 => ?_) (fun c_24 => ?_)
      · have hw := hw.1 c_24
        exact hKK x3_22 s_23 _ _ _ hw hC (lv_sub hl [0, 1, 2] rfl)
      · have hw := hw.2 c_24
        refine lv_aload_n hx hb dX6_fewest_102 rfl (lv_at hl 0 rfl) ?_
        refine lv_aload_n hx hb dX6_fewest_103 rfl (lv_at hl 0 rfl) ?_
        refine cx_get (v := .ref (q 13)) hx hb hts iX6 hown hK hC 0 rfl rfl 21 (by decide) u4 rfl rfl dX6_fewest_104 ?_
        refine lv_iload_n hx hb dX6_fewest_107 rfl (lv_at hl 2 rfl) ?_
        refine cx_callVv0 (As := [.ref (q 13), .int x3_22]) (rest := []) ⟨hx, hb, hml, hown, hts⟩ (c_X6_bounds_a12 l D cI q _ s_23 x3_22 _ hw) (cwV 2 hts gX6_fewest_X6_bounds rfl rfl rfl (by decide +kernel) ⟨Nat.le_of_ble_eq_true rfl, Nat.le_of_ble_eq_true rfl⟩) hK hC hA 0 rfl rfl rfl rfl hl.1 rfl (Nat.le_of_ble_eq_true rfl) dX6_fewest_108 ⟨Nat.zero_le _, Nat.zero_le _⟩ (fun u_26 H locs hw hC => ?_)
        refine lv_iinc (v := (x3_22 + 1)) (lv' := [(3, .int (x3_22 + 1)), (0, .ref (q 0)), (2, .int x2_21)]) hx hb dX6_fewest_111 hl (k := 2) rfl rfl (by decide) rfl (fun ls hl => ?_)
        refine lv_goto (tgt := 94) hx hb dX6_fewest_114 (by decide) ?_
        exact ih (x3_22 + 1) u_26 _ _ _ hw hC (lv_sub hl [1, 2, 0] rfl)
  have L168 : ∀ (x2_45 : Int32) (x3_46 : Int32) (x4_47 : Int32) (x5_48 : Int32) (K : Int32 → St → Prop) (hKK : ∀ (x6_49 : Int32) (s_50 : St) (H : Heap) (locs : List Loc) (ls : Array Slot), K x6_49 s_50 → Cx D A s.heap (wM cI q s_50) H locs → lv_has ls 7 [(0, .ref (q 0)), (2, .int x2_45), (3, .int x3_46), (4, .int x4_47), (5, .int x5_48), (6, .int x6_49)] → W p l e (Rm 4 93) s m [.ref (q 0)].toArray below meth c H locs 0 0 (QI below D cI A (wM cI q) post [.ref (q 0)].toArray s) (F0 m 231 ls [])) (n : Nat), ∀ (x6_49 : Int32) (s_50 : St) (H : Heap) (locs : List Loc) (ls : Array Slot), w_X6_fewest_L168 x2_45 x3_46 x4_47 x5_48 post K n x6_49 s_50 → Cx D A s.heap (wM cI q s_50) H locs → lv_has ls 7 [(0, .ref (q 0)), (2, .int x2_45), (3, .int x3_46), (4, .int x4_47), (5, .int x5_48), (6, .int x6_49)] → W p l e (Rm 4 93) s m [.ref (q 0)].toArray below meth c H locs 0 0 (QI below D cI A (wM cI q) post [.ref (q 0)].toArray s) (F0 m 168 ls []) := by
    intro x2_45 x3_46 x4_47 x5_48 K hKK n
    induction n with
    | zero => intro x6_49 s_50 H locs ls hw; exact hw.elim
    | succ n ih =>
      intro x6_49 s_50 H locs ls hw hC hl
      refine lv_iload hx hb dX6_fewest_168 (lv_at hl 5 rfl) ?_
      refine lv_bipush (v := 8) hx hb dX6_fewest_170 (by decide) ?_
      refine lv_icmp_ge (tgt := 231) hx hb dX6_fewest_172 (by decide) (fun c_51 => ?_) (fun c_51 => ?_)
      · have hw := hw.1 c_51
        exact hKK x6_49 s_50 _ _ _ hw hC (lv_sub hl [0, 1, 2, 3, 4, 5] rfl)
      · have hw := hw.2 c_51
        refine lv_aload_n hx hb dX6_fewest_175 rfl (lv_at hl 0 rfl) ?_
        refine cx_get (v := .ref (q 15)) hx hb hts iX6 hown hK hC 0 rfl rfl 23 (by decide) u3 rfl rfl dX6_fewest_176 ?_
        refine lv_iload hx hb dX6_fewest_179 (lv_at hl 4 rfl) ?_
        refine lv_iload hx hb dX6_fewest_181 (lv_at hl 5 rfl) ?_
        refine lv_aload_n hx hb dX6_fewest_183 rfl (lv_at hl 0 rfl) ?_
        refine cx_get (v := .ref (q 14)) hx hb hts iX6 hown hK hC 0 rfl rfl 22 (by decide) u2 rfl rfl dX6_fewest_184 ?_
        refine lv_bipush (v := 8) hx hb dX6_fewest_187 (by decide) ?_
        refine lv_iload hx hb dX6_fewest_189 (lv_at hl 4 rfl) ?_
        refine lv_imul hx hb dX6_fewest_191 ?_
        refine lv_iload_n hx hb dX6_fewest_192 rfl (lv_at hl 2 rfl) ?_
        refine lv_iadd hx hb dX6_fewest_193 ?_
        refine cx_iald (f := s_50.2 13) hx hb hK hC 14 rfl hw.1 dX6_fewest_194 ?_
        have hw := hw.2
        refine lv_aload_n hx hb dX6_fewest_195 rfl (lv_at hl 0 rfl) ?_
        refine cx_get (v := .ref (q 13)) hx hb hts iX6 hown hK hC 0 rfl rfl 21 (by decide) u4 rfl rfl dX6_fewest_196 ?_
        refine lv_bipush (v := 8) hx hb dX6_fewest_199 (by decide) ?_
        refine lv_iload_n hx hb dX6_fewest_201 rfl (lv_at hl 2 rfl) ?_
        refine lv_imul hx hb dX6_fewest_202 ?_
        refine lv_iload hx hb dX6_fewest_203 (lv_at hl 3 rfl) ?_
        refine lv_iadd hx hb dX6_fewest_205 ?_
        refine cx_iald (f := s_50.2 12) hx hb hK hC 13 rfl hw.1 dX6_fewest_206 ?_
        have hw := hw.2
        refine lv_iadd hx hb dX6_fewest_207 ?_
        refine lv_aload_n hx hb dX6_fewest_208 rfl (lv_at hl 0 rfl) ?_
        refine cx_get (v := .ref (q 16)) hx hb hts iX6 hown hK hC 0 rfl rfl 24 (by decide) u1 rfl rfl dX6_fewest_209 ?_
        refine lv_bipush (v := 8) hx hb dX6_fewest_212 (by decide) ?_
        refine lv_iload hx hb dX6_fewest_214 (lv_at hl 3 rfl) ?_
        refine lv_imul hx hb dX6_fewest_216 ?_
        refine lv_iload hx hb dX6_fewest_217 (lv_at hl 5 rfl) ?_
        refine lv_iadd hx hb dX6_fewest_219 ?_
        refine cx_iald (f := s_50.2 15) hx hb hK hC 16 rfl hw.1 dX6_fewest_220 ?_
        have hw := hw.2
        refine lv_iadd hx hb dX6_fewest_221 ?_
        refine cx_callSv (As := [.ref (q 15), .int x5_48, .int x6_49, .int (((s_50.2 13 (Int32.toNatClampNeg ((8 * x5_48) + x3_46))) + (s_50.2 12 (Int32.toNatClampNeg ((8 * x3_46) + x4_47)))) + (s_50.2 15 (Int32.toNatClampNeg ((8 * x4_47) + x6_49))))]) (rest := []) (ws' := fun u_53 => (wM cI q (s_50.1, (va_up s_50.2 14 u_53)))) ⟨hx, hb, hml, hown, hts⟩ (c_X6_least l D cI (q 15) _ (s_50.2 14) x5_48 x6_49 (((s_50.2 13 (Int32.toNatClampNeg ((8 * x5_48) + x3_46))) + (s_50.2 12 (Int32.toNatClampNeg ((8 * x3_46) + x4_47)))) + (s_50.2 15 (Int32.toNatClampNeg ((8 * x4_47) + x6_49)))) _ hw) (va_cwS 4 hts gX6_fewest_X6_least rfl rfl rfl (by decide +kernel) ⟨Nat.le_of_ble_eq_true rfl, Nat.le_of_ble_eq_true rfl⟩) hK hC hA [15] [0, 1, 2, 3, 4, 5, 6, 7, 8, 9, 10, 11, 12, 13, 14, 16, 17, 18] (by decide) rfl (wr := [_, _, _, _, _, _, _, _, _, _, _, _, _, _, _, _, _, _]) rfl (by decide) (by decide) rfl hl.1 rfl (Nat.le_of_ble_eq_true rfl) dX6_fewest_222 ⟨Nat.zero_le _, Nat.zero_le _⟩ [0, 1, 2, 3, 4, 5, 6, 7, 8, 9, 10, 11, 12, 13, 14, 18, 15, 16, 17] (by decide) (fun _ => rfl) (fun u_53 H locs hw hC => ?_)
        refine lv_iinc (v := (x6_49 + 1)) (lv' := [(6, .int (x6_49 + 1)), (0, .ref (q 0)), (2, .int x2_45), (3, .int x3_46), (4, .int x4_47), (5, .int x5_48)]) hx hb dX6_fewest_225 hl (k := 5) rfl rfl (by decide) rfl (fun ls hl => ?_)
        refine lv_goto (tgt := 168) hx hb dX6_fewest_228 (by decide) ?_
        exact ih (x6_49 + 1) (s_50.1, (va_up s_50.2 14 u_53)) _ _ _ hw hC (lv_sub hl [1, 2, 3, 4, 5, 0] rfl)
  have L158 : ∀ (x2_39 : Int32) (x3_40 : Int32) (x4_41 : Int32) (K : Int32 → St → Prop) (hKK : ∀ (x5_42 : Int32) (s_43 : St) (H : Heap) (locs : List Loc) (ls : Array Slot), K x5_42 s_43 → Cx D A s.heap (wM cI q s_43) H locs → lv_has ls 7 [(0, .ref (q 0)), (2, .int x2_39), (3, .int x3_40), (4, .int x4_41), (5, .int x5_42)] → W p l e (Rm 4 93) s m [.ref (q 0)].toArray below meth c H locs 0 0 (QI below D cI A (wM cI q) post [.ref (q 0)].toArray s) (F0 m 237 ls [])) (n : Nat), ∀ (x5_42 : Int32) (s_43 : St) (H : Heap) (locs : List Loc) (ls : Array Slot), w_X6_fewest_L158 x2_39 x3_40 x4_41 post K n x5_42 s_43 → Cx D A s.heap (wM cI q s_43) H locs → lv_has ls 7 [(0, .ref (q 0)), (2, .int x2_39), (3, .int x3_40), (4, .int x4_41), (5, .int x5_42)] → W p l e (Rm 4 93) s m [.ref (q 0)].toArray below meth c H locs 0 0 (QI below D cI A (wM cI q) post [.ref (q 0)].toArray s) (F0 m 158 ls []) := by
    intro x2_39 x3_40 x4_41 K hKK n
    induction n with
    | zero => intro x5_42 s_43 H locs ls hw; exact hw.elim
    | succ n ih =>
      intro x5_42 s_43 H locs ls hw hC hl
      refine lv_iload hx hb dX6_fewest_158 (lv_at hl 4 rfl) ?_
      refine lv_bipush (v := 8) hx hb dX6_fewest_160 (by decide) ?_
      refine lv_icmp_ge (tgt := 237) hx hb dX6_fewest_162 (by decide) (fun c_44 => ?_) (fun c_44 => ?_)
      · have hw := hw.1 c_44
        exact hKK x5_42 s_43 _ _ _ hw hC (lv_sub hl [0, 1, 2, 3, 4] rfl)
      · have hw := hw.2 c_44
        refine lv_iconst (v := 0) hx hb dX6_fewest_165 (by decide) ?_
        refine lv_istore (lv' := [(6, .int 0), (0, .ref (q 0)), (2, .int x2_39), (3, .int x3_40), (4, .int x4_41), (5, .int x5_42)]) hx hb dX6_fewest_166 hl (by decide) rfl (fun ls hl => ?_)
        obtain ⟨n, hw⟩ := hw
        refine L168 x2_39 x3_40 x4_41 x5_42 _ (fun x6_54 s_55 H locs ls hw hC hl => ?_) n 0 s_43 _ _ _ hw hC (lv_sub hl [1, 2, 3, 4, 5, 0] rfl)
        refine lv_iinc (v := (x5_42 + 1)) (lv' := [(5, .int (x5_42 + 1)), (0, .ref (q 0)), (2, .int x2_39), (3, .int x3_40), (4, .int x4_41), (6, .int x6_54)]) hx hb dX6_fewest_231 hl (k := 4) rfl rfl (by decide) rfl (fun ls hl => ?_)
        refine lv_goto (tgt := 158) hx hb dX6_fewest_234 (by decide) ?_
        exact ih (x5_42 + 1) s_55 _ _ _ hw hC (lv_sub hl [1, 2, 3, 4, 0] rfl)
  have L128 : ∀ (x2_33 : Int32) (x3_34 : Int32) (K : Int32 → St → Prop) (hKK : ∀ (x4_35 : Int32) (s_36 : St) (H : Heap) (locs : List Loc) (ls : Array Slot), K x4_35 s_36 → Cx D A s.heap (wM cI q s_36) H locs → lv_has ls 7 [(0, .ref (q 0)), (2, .int x2_33), (3, .int x3_34), (4, .int x4_35)] → W p l e (Rm 4 93) s m [.ref (q 0)].toArray below meth c H locs 0 0 (QI below D cI A (wM cI q) post [.ref (q 0)].toArray s) (F0 m 243 ls [])) (n : Nat), ∀ (x4_35 : Int32) (s_36 : St) (H : Heap) (locs : List Loc) (ls : Array Slot), w_X6_fewest_L128 x2_33 x3_34 post K n x4_35 s_36 → Cx D A s.heap (wM cI q s_36) H locs → lv_has ls 7 [(0, .ref (q 0)), (2, .int x2_33), (3, .int x3_34), (4, .int x4_35)] → W p l e (Rm 4 93) s m [.ref (q 0)].toArray below meth c H locs 0 0 (QI below D cI A (wM cI q) post [.ref (q 0)].toArray s) (F0 m 128 ls []) := by
    intro x2_33 x3_34 K hKK n
    induction n with
    | zero => intro x4_35 s_36 H locs ls hw; exact hw.elim
    | succ n ih =>
      intro x4_35 s_36 H locs ls hw hC hl
      refine lv_iload hx hb dX6_fewest_128 (lv_at hl 3 rfl) ?_
      refine lv_bipush (v := 8) hx hb dX6_fewest_130 (by decide) ?_
      refine lv_icmp_ge (tgt := 243) hx hb dX6_fewest_132 (by decide) (fun c_37 => ?_) (fun c_37 => ?_)
      · have hw := hw.1 c_37
        exact hKK x4_35 s_36 _ _ _ hw hC (lv_sub hl [0, 1, 2, 3] rfl)
      · have hw := hw.2 c_37
        refine lv_aload_n hx hb dX6_fewest_135 rfl (lv_at hl 0 rfl) ?_
        refine cx_get (v := .ref (q 13)) hx hb hts iX6 hown hK hC 0 rfl rfl 21 (by decide) u4 rfl rfl dX6_fewest_136 ?_
        refine lv_bipush (v := 8) hx hb dX6_fewest_139 (by decide) ?_
        refine lv_iload_n hx hb dX6_fewest_141 rfl (lv_at hl 2 rfl) ?_
        refine lv_imul hx hb dX6_fewest_142 ?_
        refine lv_iload hx hb dX6_fewest_143 (lv_at hl 3 rfl) ?_
        refine lv_iadd hx hb dX6_fewest_145 ?_
        refine cx_iald (f := s_36.2 12) hx hb hK hC 13 rfl hw.1 dX6_fewest_146 ?_
        have hw := hw.2
        refine lv_ldc (v := 100000000) hx hb hown u5 dX6_fewest_147 ?_
        refine lv_icmp_ne (tgt := 155) hx hb dX6_fewest_149 (by decide) (fun c_38 => ?_) (fun c_38 => ?_)
        · have hw := hw.1 c_38
          refine lv_iconst (v := 0) hx hb dX6_fewest_155 (by decide) ?_
          refine lv_istore (lv' := [(5, .int 0), (0, .ref (q 0)), (2, .int x2_33), (3, .int x3_34), (4, .int x4_35)]) hx hb dX6_fewest_156 hl (by decide) rfl (fun ls hl => ?_)
          obtain ⟨n, hw⟩ := hw
          refine L158 x2_33 x3_34 x4_35 _ (fun x5_57 s_58 H locs ls hw hC hl => ?_) n 0 s_36 _ _ _ hw hC (lv_sub hl [1, 2, 3, 4, 0] rfl)
          refine lv_iinc (v := (x4_35 + 1)) (lv' := [(4, .int (x4_35 + 1)), (0, .ref (q 0)), (2, .int x2_33), (3, .int x3_34), (5, .int x5_57)]) hx hb dX6_fewest_237 hl (k := 3) rfl rfl (by decide) rfl (fun ls hl => ?_)
          refine lv_goto (tgt := 128) hx hb dX6_fewest_240 (by decide) ?_
          exact ih (x4_35 + 1) s_58 _ _ _ hw hC (lv_sub hl [1, 2, 3, 0] rfl)
        · have hw := hw.2 c_38
          refine lv_goto (tgt := 237) hx hb dX6_fewest_152 (by decide) ?_
          refine lv_iinc (v := (x4_35 + 1)) (lv' := [(4, .int (x4_35 + 1)), (0, .ref (q 0)), (2, .int x2_33), (3, .int x3_34)]) hx hb dX6_fewest_237 hl (k := 3) rfl rfl (by decide) rfl (fun ls hl => ?_)
          refine lv_goto (tgt := 128) hx hb dX6_fewest_240 (by decide) ?_
          exact ih (x4_35 + 1) s_36 _ _ _ hw hC (lv_sub hl [1, 2, 3, 0] rfl)
  have L119 : ∀ (x2_29 : Int32) (K : Int32 → St → Prop) (hKK : ∀ (x3_30 : Int32) (s_31 : St) (H : Heap) (locs : List Loc) (ls : Array Slot), K x3_30 s_31 → Cx D A s.heap (wM cI q s_31) H locs → lv_has ls 7 [(0, .ref (q 0)), (2, .int x2_29), (3, .int x3_30)] → W p l e (Rm 4 93) s m [.ref (q 0)].toArray below meth c H locs 0 0 (QI below D cI A (wM cI q) post [.ref (q 0)].toArray s) (F0 m 249 ls [])) (n : Nat), ∀ (x3_30 : Int32) (s_31 : St) (H : Heap) (locs : List Loc) (ls : Array Slot), w_X6_fewest_L119 x2_29 post K n x3_30 s_31 → Cx D A s.heap (wM cI q s_31) H locs → lv_has ls 7 [(0, .ref (q 0)), (2, .int x2_29), (3, .int x3_30)] → W p l e (Rm 4 93) s m [.ref (q 0)].toArray below meth c H locs 0 0 (QI below D cI A (wM cI q) post [.ref (q 0)].toArray s) (F0 m 119 ls []) := by
    intro x2_29 K hKK n
    induction n with
    | zero => intro x3_30 s_31 H locs ls hw; exact hw.elim
    | succ n ih =>
      intro x3_30 s_31 H locs ls hw hC hl
      refine lv_iload_n hx hb dX6_fewest_119 rfl (lv_at hl 2 rfl) ?_
      refine lv_bipush (v := 8) hx hb dX6_fewest_120 (by decide) ?_
      refine lv_icmp_ge (tgt := 249) hx hb dX6_fewest_122 (by decide) (fun c_32 => ?_) (fun c_32 => ?_)
      · have hw := hw.1 c_32
        exact hKK x3_30 s_31 _ _ _ hw hC (lv_sub hl [0, 1, 2] rfl)
      · have hw := hw.2 c_32
        refine lv_iconst (v := 0) hx hb dX6_fewest_125 (by decide) ?_
        refine lv_istore (lv' := [(4, .int 0), (0, .ref (q 0)), (2, .int x2_29), (3, .int x3_30)]) hx hb dX6_fewest_126 hl (by decide) rfl (fun ls hl => ?_)
        obtain ⟨n, hw⟩ := hw
        refine L128 x2_29 x3_30 _ (fun x4_60 s_61 H locs ls hw hC hl => ?_) n 0 s_31 _ _ _ hw hC (lv_sub hl [1, 2, 3, 0] rfl)
        refine lv_iinc (v := (x3_30 + 1)) (lv' := [(3, .int (x3_30 + 1)), (0, .ref (q 0)), (2, .int x2_29), (4, .int x4_60)]) hx hb dX6_fewest_243 hl (k := 2) rfl rfl (by decide) rfl (fun ls hl => ?_)
        refine lv_goto (tgt := 119) hx hb dX6_fewest_246 (by decide) ?_
        exact ih (x3_30 + 1) s_61 _ _ _ hw hC (lv_sub hl [1, 2, 0] rfl)
  have L251 : ∀ (x2_65 : Int32) (K : Int32 → St → Prop) (hKK : ∀ (x3_66 : Int32) (s_67 : St) (H : Heap) (locs : List Loc) (ls : Array Slot), K x3_66 s_67 → Cx D A s.heap (wM cI q s_67) H locs → lv_has ls 7 [(0, .ref (q 0)), (2, .int x2_65), (3, .int x3_66)] → W p l e (Rm 4 93) s m [.ref (q 0)].toArray below meth c H locs 0 0 (QI below D cI A (wM cI q) post [.ref (q 0)].toArray s) (F0 m 275 ls [])) (n : Nat), ∀ (x3_66 : Int32) (s_67 : St) (H : Heap) (locs : List Loc) (ls : Array Slot), w_X6_fewest_L251 x2_65 post K n x3_66 s_67 → Cx D A s.heap (wM cI q s_67) H locs → lv_has ls 7 [(0, .ref (q 0)), (2, .int x2_65), (3, .int x3_66)] → W p l e (Rm 4 93) s m [.ref (q 0)].toArray below meth c H locs 0 0 (QI below D cI A (wM cI q) post [.ref (q 0)].toArray s) (F0 m 251 ls []) := by
    intro x2_65 K hKK n
    induction n with
    | zero => intro x3_66 s_67 H locs ls hw; exact hw.elim
    | succ n ih =>
      intro x3_66 s_67 H locs ls hw hC hl
      refine lv_iload_n hx hb dX6_fewest_251 rfl (lv_at hl 2 rfl) ?_
      refine lv_bipush (v := 64) hx hb dX6_fewest_252 (by decide) ?_
      refine lv_icmp_ge (tgt := 275) hx hb dX6_fewest_254 (by decide) (fun c_68 => ?_) (fun c_68 => ?_)
      · have hw := hw.1 c_68
        exact hKK x3_66 s_67 _ _ _ hw hC (lv_sub hl [0, 1, 2] rfl)
      · have hw := hw.2 c_68
        refine lv_aload_n hx hb dX6_fewest_257 rfl (lv_at hl 0 rfl) ?_
        refine cx_get (v := .ref (q 14)) hx hb hts iX6 hown hK hC 0 rfl rfl 22 (by decide) u2 rfl rfl dX6_fewest_258 ?_
        refine lv_iload_n hx hb dX6_fewest_261 rfl (lv_at hl 2 rfl) ?_
        refine lv_aload_n hx hb dX6_fewest_262 rfl (lv_at hl 0 rfl) ?_
        refine cx_get (v := .ref (q 15)) hx hb hts iX6 hown hK hC 0 rfl rfl 23 (by decide) u3 rfl rfl dX6_fewest_263 ?_
        refine lv_iload_n hx hb dX6_fewest_266 rfl (lv_at hl 2 rfl) ?_
        refine cx_iald (f := s_67.2 14) hx hb hK hC 15 rfl hw.1 dX6_fewest_267 ?_
        have hw := hw.2
        refine cx_iast (f := s_67.2 13) hx hb hK hC 14 rfl hw.1 dX6_fewest_268 (ws' := (wM cI q (s_67.1, (va_up s_67.2 13 (upd (s_67.2 13) (Int32.toNatClampNeg x3_66) (s_67.2 14 (Int32.toNatClampNeg x3_66))))))) (wM_a13 cI q _ _) (fun H locs hC => ?_)
        have hw := hw.2
        refine lv_iinc (v := (x3_66 + 1)) (lv' := [(3, .int (x3_66 + 1)), (0, .ref (q 0)), (2, .int x2_65)]) hx hb dX6_fewest_269 hl (k := 2) rfl rfl (by decide) rfl (fun ls hl => ?_)
        refine lv_goto (tgt := 251) hx hb dX6_fewest_272 (by decide) ?_
        exact ih (x3_66 + 1) (s_67.1, (va_up s_67.2 13 (upd (s_67.2 13) (Int32.toNatClampNeg x3_66) (s_67.2 14 (Int32.toNatClampNeg x3_66))))) _ _ _ hw hC (lv_sub hl [1, 2, 0] rfl)
  have L44 : ∀ (K : Int32 → St → Prop) (hKK : ∀ (x2_10 : Int32) (s_11 : St) (H : Heap) (locs : List Loc) (ls : Array Slot), K x2_10 s_11 → Cx D A s.heap (wM cI q s_11) H locs → lv_has ls 7 [(0, .ref (q 0)), (2, .int x2_10)] → W p l e (Rm 4 93) s m [.ref (q 0)].toArray below meth c H locs 0 0 (QI below D cI A (wM cI q) post [.ref (q 0)].toArray s) (F0 m 278 ls [])) (n : Nat), ∀ (x2_10 : Int32) (s_11 : St) (H : Heap) (locs : List Loc) (ls : Array Slot), w_X6_fewest_L44 post K n x2_10 s_11 → Cx D A s.heap (wM cI q s_11) H locs → lv_has ls 7 [(0, .ref (q 0)), (2, .int x2_10)] → W p l e (Rm 4 93) s m [.ref (q 0)].toArray below meth c H locs 0 0 (QI below D cI A (wM cI q) post [.ref (q 0)].toArray s) (F0 m 44 ls []) := by
    intro  K hKK n
    induction n with
    | zero => intro x2_10 s_11 H locs ls hw; exact hw.elim
    | succ n ih =>
      intro x2_10 s_11 H locs ls hw hC hl
      refine lv_aload_n hx hb dX6_fewest_44 rfl (lv_at hl 0 rfl) ?_
      refine lv_aload_n hx hb dX6_fewest_45 rfl (lv_at hl 0 rfl) ?_
      refine cx_get (v := .ref (q 14)) hx hb hts iX6 hown hK hC 0 rfl rfl 22 (by decide) u2 rfl rfl dX6_fewest_46 ?_
      refine cx_callVi0 (As := [.ref (q 14)]) (rest := []) ⟨hx, hb, hml, hown, hts⟩ (c_X6_breaks_a13 l D cI q _ s_11  _ hw) (cwV 1 hts gX6_fewest_X6_breaks rfl rfl rfl (by decide +kernel) ⟨Nat.le_of_ble_eq_true rfl, Nat.le_of_ble_eq_true rfl⟩) hK hC hA 0 rfl rfl rfl rfl hl.1 rfl (Nat.le_of_ble_eq_true rfl) dX6_fewest_49 ⟨Nat.zero_le _, Nat.zero_le _⟩ (fun r_12 u_13 H locs hw hC => ?_)
      refine lv_if_ne (tgt := 278) hx hb dX6_fewest_52 (by decide) (fun c_14 => ?_) (fun c_14 => ?_)
      · have hw := hw.1 c_14
        exact hKK x2_10 u_13 _ _ _ hw hC (lv_sub hl [0, 1] rfl)
      · have hw := hw.2 c_14
        refine lv_iinc (v := (x2_10 + 1)) (lv' := [(2, .int (x2_10 + 1)), (0, .ref (q 0))]) hx hb dX6_fewest_55 hl (k := 1) rfl rfl (by decide) rfl (fun ls hl => ?_)
        refine lv_iconst (v := 0) hx hb dX6_fewest_58 (by decide) ?_
        refine lv_istore_n (lv' := [(3, .int 0), (2, .int (x2_10 + 1)), (0, .ref (q 0))]) hx hb dX6_fewest_59 rfl hl (by decide) rfl (fun ls hl => ?_)
        obtain ⟨n, hw⟩ := hw
        refine L60 (x2_10 + 1) _ (fun x3_19 s_20 H locs ls hw hC hl => ?_) n 0 u_13 _ _ _ hw hC (lv_sub hl [2, 1, 0] rfl)
        refine lv_iconst (v := 0) hx hb dX6_fewest_92 (by decide) ?_
        refine lv_istore_n (lv' := [(3, .int 0), (0, .ref (q 0)), (2, .int (x2_10 + 1))]) hx hb dX6_fewest_93 rfl hl (by decide) rfl (fun ls hl => ?_)
        obtain ⟨n, hw⟩ := hw
        refine L94 (x2_10 + 1) _ (fun x3_27 s_28 H locs ls hw hC hl => ?_) n 0 s_20 _ _ _ hw hC (lv_sub hl [1, 2, 0] rfl)
        refine lv_iconst (v := 0) hx hb dX6_fewest_117 (by decide) ?_
        refine lv_istore_n (lv' := [(3, .int 0), (0, .ref (q 0)), (2, .int (x2_10 + 1))]) hx hb dX6_fewest_118 rfl hl (by decide) rfl (fun ls hl => ?_)
        obtain ⟨n, hw⟩ := hw
        refine L119 (x2_10 + 1) _ (fun x3_63 s_64 H locs ls hw hC hl => ?_) n 0 s_28 _ _ _ hw hC (lv_sub hl [1, 2, 0] rfl)
        refine lv_iconst (v := 0) hx hb dX6_fewest_249 (by decide) ?_
        refine lv_istore_n (lv' := [(3, .int 0), (0, .ref (q 0)), (2, .int (x2_10 + 1))]) hx hb dX6_fewest_250 rfl hl (by decide) rfl (fun ls hl => ?_)
        obtain ⟨n, hw⟩ := hw
        refine L251 (x2_10 + 1) _ (fun x3_69 s_70 H locs ls hw hC hl => ?_) n 0 s_64 _ _ _ hw hC (lv_sub hl [1, 2, 0] rfl)
        refine lv_goto (tgt := 44) hx hb dX6_fewest_275 (by decide) ?_
        exact ih (x2_10 + 1) s_70 _ _ _ hw hC (lv_sub hl [0, 1] rfl)
  refine lv_aload_n hx hb dX6_fewest_0 rfl (lv_at hl 0 rfl) ?_
  refine lv_aload_n hx hb dX6_fewest_1 rfl (lv_at hl 0 rfl) ?_
  refine cx_get (v := .ref (q 16)) hx hb hts iX6 hown hK hC 0 rfl rfl 24 (by decide) u1 rfl rfl dX6_fewest_2 ?_
  refine cx_callVv0 (As := [.ref (q 16)]) (rest := []) ⟨hx, hb, hml, hown, hts⟩ (c_X6_first_a15 l D cI q _ σ  _ hw) (cwV 1 hts gX6_fewest_X6_first rfl rfl rfl (by decide +kernel) ⟨Nat.le_of_ble_eq_true rfl, Nat.le_of_ble_eq_true rfl⟩) hK hC hA 0 rfl rfl rfl rfl hl.1 rfl (Nat.le_of_ble_eq_true rfl) dX6_fewest_5 ⟨Nat.zero_le _, Nat.zero_le _⟩ (fun u_2 H locs hw hC => ?_)
  refine lv_aload_n hx hb dX6_fewest_8 rfl (lv_at hl 0 rfl) ?_
  refine cx_get (v := .ref (q 16)) hx hb hts iX6 hown hK hC 0 rfl rfl 24 (by decide) u1 rfl rfl dX6_fewest_9 ?_
  refine cx_callSi (As := [.ref (q 16)]) (rest := []) (ws' := fun u_4 => (wM cI q (u_2.1, (va_up u_2.2 15 u_4)))) ⟨hx, hb, hml, hown, hts⟩ (c_X6_closes l D cI (q 16) _ (u_2.2 15)  _ hw) (va_cwS 1 hts gX6_fewest_X6_closes rfl rfl rfl (by decide +kernel) ⟨Nat.le_of_ble_eq_true rfl, Nat.le_of_ble_eq_true rfl⟩) hK hC hA [16] [0, 1, 2, 3, 4, 5, 6, 7, 8, 9, 10, 11, 12, 13, 14, 15, 17, 18] (by decide) rfl (wr := [_, _, _, _, _, _, _, _, _, _, _, _, _, _, _, _, _, _]) rfl (by decide) (by decide) rfl hl.1 rfl (Nat.le_of_ble_eq_true rfl) dX6_fewest_12 ⟨Nat.zero_le _, Nat.zero_le _⟩ [0, 1, 2, 3, 4, 5, 6, 7, 8, 9, 10, 11, 12, 13, 14, 15, 18, 16, 17] (by decide) (fun _ => rfl) (fun r_3 u_4 H locs hw hC => ?_)
  refine lv_istore_n (lv' := [(1, .int r_3), (0, .ref (q 0))]) hx hb dX6_fewest_15 rfl hl (by decide) rfl (fun ls hl => ?_)
  refine lv_iconst (v := 0) hx hb dX6_fewest_16 (by decide) ?_
  refine lv_istore_n (lv' := [(2, .int 0), (1, .int r_3), (0, .ref (q 0))]) hx hb dX6_fewest_17 rfl hl (by decide) rfl (fun ls hl => ?_)
  obtain ⟨n, hw⟩ := hw
  refine L18  _ (fun x2_8 s_9 H locs ls hw hC hl => ?_) n 0 (u_2.1, (va_up u_2.2 15 u_4)) _ _ _ hw hC (lv_sub hl [2, 0] rfl)
  refine lv_iconst (v := 0) hx hb dX6_fewest_42 (by decide) ?_
  refine lv_istore_n (lv' := [(2, .int 0), (0, .ref (q 0))]) hx hb dX6_fewest_43 rfl hl (by decide) rfl (fun ls hl => ?_)
  obtain ⟨n, hw⟩ := hw
  refine L44  _ (fun x2_75 s_76 H locs ls hw hC hl => ?_) n 0 s_9 _ _ _ hw hC (lv_sub hl [1, 0] rfl)
  refine lv_iload_n hx hb dX6_fewest_278 rfl (lv_at hl 1 rfl) ?_
  exact cx_ret_i (u := s_76) hx hb hr hlocks hK hC hw dX6_fewest_279

/-! PictureHeapModel.tie(IIII)I (X6_tie) -/
set_option maxHeartbeats 1000000 in
set_option maxRecDepth 100000 in
theorem c_X6_tie (l : Launch) (D : va_G) (cI : ClassId) (q : Nat → Nat) (sz : Nat) (σ : St) (x1 : Int32) (x2 : Int32) (x3 : Int32) (x4 : Int32) (post : Int32 → St → Prop) (hw : w_X6_tie σ x1 x2 x3 x4 post) : Ci l yX6_tie wsX6_tie 5 119 D cI (wM cI q σ) sz [.ref (q 0), .int x1, .int x2, .int x3, .int x4] (wM cI q) post := by
  refine mo_i (cc := cX6_tie) (maxL := 6) (ret := (some .int)) (by decide) rfl (Nat.le_of_ble_eq_true rfl) ?_
  intro p e s m below meth c hx hb hr hml hts hown hlocks hK A hA hC ls hl
  have hown : s.vm.findClass RX6 = some m.cls := hown
  have hl : lv_has ls 6 [(0, .ref (q 0)), (1, .int x1), (2, .int x2), (3, .int x3), (4, .int x4)] := hl
  have u1 : (Cond.fieldLink RX6 132 "PictureHeapModel" "ties" "I").before [.ref (q 0), .int x1, .int x2, .int x3, .int x4].toArray s = true := hts _ (List.mem_of_getElem? (i := 1) rfl)
  have u2 : (Cond.fieldLink RX6 35 "PictureHeapModel" "tieKind" "[I").before [.ref (q 0), .int x1, .int x2, .int x3, .int x4].toArray s = true := hts _ (List.mem_of_getElem? (i := 2) rfl)
  have u3 : (Cond.fieldLink RX6 38 "PictureHeapModel" "one" "[I").before [.ref (q 0), .int x1, .int x2, .int x3, .int x4].toArray s = true := hts _ (List.mem_of_getElem? (i := 3) rfl)
  have u4 : (Cond.fieldLink RX6 41 "PictureHeapModel" "two" "[I").before [.ref (q 0), .int x1, .int x2, .int x3, .int x4].toArray s = true := hts _ (List.mem_of_getElem? (i := 4) rfl)
  have u5 : (Cond.fieldLink RX6 44 "PictureHeapModel" "three" "[I").before [.ref (q 0), .int x1, .int x2, .int x3, .int x4].toArray s = true := hts _ (List.mem_of_getElem? (i := 5) rfl)
  have u6 : (Cond.fieldLink RX6 47 "PictureHeapModel" "bound" "[I").before [.ref (q 0), .int x1, .int x2, .int x3, .int x4].toArray s = true := hts _ (List.mem_of_getElem? (i := 6) rfl)
  have u8 : (Cond.fieldLink RX6 32 "PictureHeapModel" "tieNumber" "[I").before [.ref (q 0), .int x1, .int x2, .int x3, .int x4].toArray s = true := hts _ (List.mem_of_getElem? (i := 8) rfl)
  have u9 : (Cond.fieldLink RX6 155 "PictureHeapModel" "tiesEver" "I").before [.ref (q 0), .int x1, .int x2, .int x3, .int x4].toArray s = true := hts _ (List.mem_of_getElem? (i := 9) rfl)
  have u7 : (Cond.fieldLink RX6 13 "PictureHeapModel" "quarrel" "I").before [.ref (q 0), .int x1, .int x2, .int x3, .int x4].toArray s = true := hts _ (List.mem_of_getElem? (i := 7) rfl)
  have iX6 : ∀ w ∈ wsX60, w ∈ wsX6_tie := fun _ h => List.mem_cons_of_mem _ (List.mem_append_right _ h)
  refine lv_aload_n hx hb dX6_tie_0 rfl (lv_at hl 0 rfl) ?_
  refine cx_get (v := .int (σ.1 5)) hx hb hts iX6 hown hK hC 0 rfl rfl 5 (by decide) u1 rfl rfl dX6_tie_1 ?_
  refine lv_bipush (v := 60) hx hb dX6_tie_4 (by decide) ?_
  refine lv_icmp_ne (tgt := 15) hx hb dX6_tie_6 (by decide) (fun c_1 => ?_) (fun c_1 => ?_)
  · have hw := hw.1 c_1
    refine lv_aload_n hx hb dX6_tie_15 rfl (lv_at hl 0 rfl) ?_
    refine cx_get (v := .ref (q 7)) hx hb hts iX6 hown hK hC 0 rfl rfl 15 (by decide) u2 rfl rfl dX6_tie_16 ?_
    refine lv_aload_n hx hb dX6_tie_19 rfl (lv_at hl 0 rfl) ?_
    refine cx_get (v := .int (σ.1 5)) hx hb hts iX6 hown hK hC 0 rfl rfl 5 (by decide) u1 rfl rfl dX6_tie_20 ?_
    refine lv_iload_n hx hb dX6_tie_23 rfl (lv_at hl 1 rfl) ?_
    refine cx_iast (f := σ.2 6) hx hb hK hC 7 rfl hw.1 dX6_tie_24 (ws' := (wM cI q (σ.1, (va_up σ.2 6 (upd (σ.2 6) (Int32.toNatClampNeg (σ.1 5)) x1))))) (wM_a6 cI q _ _) (fun H locs hC => ?_)
    have hw := hw.2
    refine lv_aload_n hx hb dX6_tie_25 rfl (lv_at hl 0 rfl) ?_
    refine cx_get (v := .ref (q 8)) hx hb hts iX6 hown hK hC 0 rfl rfl 16 (by decide) u3 rfl rfl dX6_tie_26 ?_
    refine lv_aload_n hx hb dX6_tie_29 rfl (lv_at hl 0 rfl) ?_
    refine cx_get (v := .int (σ.1 5)) hx hb hts iX6 hown hK hC 0 rfl rfl 5 (by decide) u1 rfl rfl dX6_tie_30 ?_
    refine lv_iload_n hx hb dX6_tie_33 rfl (lv_at hl 2 rfl) ?_
    refine cx_iast (f := σ.2 7) hx hb hK hC 8 rfl hw.1 dX6_tie_34 (ws' := (wM cI q (σ.1, (va_up (va_up σ.2 6 (upd (σ.2 6) (Int32.toNatClampNeg (σ.1 5)) x1)) 7 (upd (σ.2 7) (Int32.toNatClampNeg (σ.1 5)) x2))))) (wM_a7 cI q _ _) (fun H locs hC => ?_)
    have hw := hw.2
    refine lv_aload_n hx hb dX6_tie_35 rfl (lv_at hl 0 rfl) ?_
    refine cx_get (v := .ref (q 9)) hx hb hts iX6 hown hK hC 0 rfl rfl 17 (by decide) u4 rfl rfl dX6_tie_36 ?_
    refine lv_aload_n hx hb dX6_tie_39 rfl (lv_at hl 0 rfl) ?_
    refine cx_get (v := .int (σ.1 5)) hx hb hts iX6 hown hK hC 0 rfl rfl 5 (by decide) u1 rfl rfl dX6_tie_40 ?_
    refine lv_iload_n hx hb dX6_tie_43 rfl (lv_at hl 3 rfl) ?_
    refine cx_iast (f := σ.2 8) hx hb hK hC 9 rfl hw.1 dX6_tie_44 (ws' := (wM cI q (σ.1, (va_up (va_up (va_up σ.2 6 (upd (σ.2 6) (Int32.toNatClampNeg (σ.1 5)) x1)) 7 (upd (σ.2 7) (Int32.toNatClampNeg (σ.1 5)) x2)) 8 (upd (σ.2 8) (Int32.toNatClampNeg (σ.1 5)) x3))))) (wM_a8 cI q _ _) (fun H locs hC => ?_)
    have hw := hw.2
    refine lv_aload_n hx hb dX6_tie_45 rfl (lv_at hl 0 rfl) ?_
    refine cx_get (v := .ref (q 10)) hx hb hts iX6 hown hK hC 0 rfl rfl 18 (by decide) u5 rfl rfl dX6_tie_46 ?_
    refine lv_aload_n hx hb dX6_tie_49 rfl (lv_at hl 0 rfl) ?_
    refine cx_get (v := .int (σ.1 5)) hx hb hts iX6 hown hK hC 0 rfl rfl 5 (by decide) u1 rfl rfl dX6_tie_50 ?_
    refine lv_iload hx hb dX6_tie_53 (lv_at hl 4 rfl) ?_
    refine cx_iast (f := σ.2 9) hx hb hK hC 10 rfl hw.1 dX6_tie_55 (ws' := (wM cI q (σ.1, (va_up (va_up (va_up (va_up σ.2 6 (upd (σ.2 6) (Int32.toNatClampNeg (σ.1 5)) x1)) 7 (upd (σ.2 7) (Int32.toNatClampNeg (σ.1 5)) x2)) 8 (upd (σ.2 8) (Int32.toNatClampNeg (σ.1 5)) x3)) 9 (upd (σ.2 9) (Int32.toNatClampNeg (σ.1 5)) x4))))) (wM_a9 cI q _ _) (fun H locs hC => ?_)
    have hw := hw.2
    refine lv_aload_n hx hb dX6_tie_56 rfl (lv_at hl 0 rfl) ?_
    refine lv_aload_n hx hb dX6_tie_57 rfl (lv_at hl 0 rfl) ?_
    refine cx_get (v := .ref (q 11)) hx hb hts iX6 hown hK hC 0 rfl rfl 19 (by decide) u6 rfl rfl dX6_tie_58 ?_
    refine lv_iconst (v := (-1)) hx hb dX6_tie_61 (by decide) ?_
    refine cx_callVi0 (As := [.ref (q 11), .int (-1)]) (rest := []) ⟨hx, hb, hml, hown, hts⟩ (c_X6_closed_a10 l D cI q _ (σ.1, (va_up (va_up (va_up (va_up σ.2 6 (upd (σ.2 6) (Int32.toNatClampNeg (σ.1 5)) x1)) 7 (upd (σ.2 7) (Int32.toNatClampNeg (σ.1 5)) x2)) 8 (upd (σ.2 8) (Int32.toNatClampNeg (σ.1 5)) x3)) 9 (upd (σ.2 9) (Int32.toNatClampNeg (σ.1 5)) x4))) (-1) _ hw) (cwV 2 hts gX6_tie_X6_closed rfl rfl rfl (by decide +kernel) ⟨Nat.le_of_ble_eq_true rfl, Nat.le_of_ble_eq_true rfl⟩) hK hC hA 0 rfl rfl rfl rfl hl.1 rfl (Nat.le_of_ble_eq_true rfl) dX6_tie_62 ⟨Nat.zero_le _, Nat.zero_le _⟩ (fun r_2 u_3 H locs hw hC => ?_)
    refine lv_istore (lv' := [(5, .int r_2), (0, .ref (q 0)), (1, .int x1), (2, .int x2), (3, .int x3), (4, .int x4)]) hx hb dX6_tie_65 hl (by decide) rfl (fun ls hl => ?_)
    refine lv_aload_n hx hb dX6_tie_67 rfl (lv_at hl 1 rfl) ?_
    refine lv_aload_n hx hb dX6_tie_68 rfl (lv_at hl 1 rfl) ?_
    refine cx_get (v := .ref (q 11)) hx hb hts iX6 hown hK hC 0 rfl rfl 19 (by decide) u6 rfl rfl dX6_tie_69 ?_
    refine cx_callVi0 (As := [.ref (q 11)]) (rest := []) ⟨hx, hb, hml, hown, hts⟩ (c_X6_breaks_a10 l D cI q _ u_3  _ hw) (cwV 1 hts gX6_tie_X6_breaks rfl rfl rfl (by decide +kernel) ⟨Nat.le_of_ble_eq_true rfl, Nat.le_of_ble_eq_true rfl⟩) hK hC hA 0 rfl rfl rfl rfl hl.1 rfl (Nat.le_of_ble_eq_true rfl) dX6_tie_72 ⟨Nat.zero_le _, Nat.zero_le _⟩ (fun r_4 u_5 H locs hw hC => ?_)
    refine lv_if_eq (tgt := 92) hx hb dX6_tie_75 (by decide) (fun c_6 => ?_) (fun c_6 => ?_)
    · have hw := hw.1 c_6
      refine lv_aload_n hx hb dX6_tie_92 rfl (lv_at hl 1 rfl) ?_
      refine cx_get (v := .ref (q 6)) hx hb hts iX6 hown hK hC 0 rfl rfl 14 (by decide) u8 rfl rfl dX6_tie_93 ?_
      refine lv_aload_n hx hb dX6_tie_96 rfl (lv_at hl 1 rfl) ?_
      refine cx_get (v := .int (u_5.1 5)) hx hb hts iX6 hown hK hC 0 rfl rfl 5 (by decide) u1 rfl rfl dX6_tie_97 ?_
      refine lv_aload_n hx hb dX6_tie_100 rfl (lv_at hl 1 rfl) ?_
      refine cx_get (v := .int (u_5.1 6)) hx hb hts iX6 hown hK hC 0 rfl rfl 6 (by decide) u9 rfl rfl dX6_tie_101 ?_
      refine cx_iast (f := u_5.2 5) hx hb hK hC 6 rfl hw.1 dX6_tie_104 (ws' := (wM cI q (u_5.1, (va_up u_5.2 5 (upd (u_5.2 5) (Int32.toNatClampNeg (u_5.1 5)) (u_5.1 6)))))) (wM_a5 cI q _ _) (fun H locs hC => ?_)
      have hw := hw.2
      refine lv_aload_n hx hb dX6_tie_105 rfl (lv_at hl 1 rfl) ?_
      refine lv_dup hx hb dX6_tie_106 rfl ?_
      refine cx_get (v := .int (u_5.1 5)) hx hb hts iX6 hown hK hC 0 rfl rfl 5 (by decide) u1 rfl rfl dX6_tie_107 ?_
      refine lv_iconst (v := 1) hx hb dX6_tie_110 (by decide) ?_
      refine lv_iadd hx hb dX6_tie_111 ?_
      refine cx_put (v := .int ((u_5.1 5) + 1)) hx hb hts iX6 tyX6 tyX6_ok nmX6 hown hK hC 0 rfl rfl 5 (by decide) u1 rfl rfl (tyX6_ok 5 (by decide)) rfl rfl (Nat.le_of_ble_eq_true rfl) dX6_tie_112 (ws' := (wM cI q ((va_up u_5.1 5 ((u_5.1 5) + 1)), (va_up u_5.2 5 (upd (u_5.2 5) (Int32.toNatClampNeg (u_5.1 5)) (u_5.1 6)))))) (wM_i5 cI q _ _) (fun H locs hC => ?_)
      refine lv_aload_n hx hb dX6_tie_115 rfl (lv_at hl 1 rfl) ?_
      refine lv_dup hx hb dX6_tie_116 rfl ?_
      refine cx_get (v := .int (u_5.1 6)) hx hb hts iX6 hown hK hC 0 rfl rfl 6 (by decide) u9 rfl rfl dX6_tie_117 ?_
      refine lv_iconst (v := 1) hx hb dX6_tie_120 (by decide) ?_
      refine lv_iadd hx hb dX6_tie_121 ?_
      refine cx_put (v := .int ((u_5.1 6) + 1)) hx hb hts iX6 tyX6 tyX6_ok nmX6 hown hK hC 0 rfl rfl 6 (by decide) u9 rfl rfl (tyX6_ok 6 (by decide)) rfl rfl (Nat.le_of_ble_eq_true rfl) dX6_tie_122 (ws' := (wM cI q ((va_up (va_up u_5.1 5 ((u_5.1 5) + 1)) 6 ((u_5.1 6) + 1)), (va_up u_5.2 5 (upd (u_5.2 5) (Int32.toNatClampNeg (u_5.1 5)) (u_5.1 6)))))) (wM_i6 cI q _ _) (fun H locs hC => ?_)
      refine lv_aload_n hx hb dX6_tie_125 rfl (lv_at hl 1 rfl) ?_
      refine lv_aload_n hx hb dX6_tie_126 rfl (lv_at hl 1 rfl) ?_
      refine cx_get (v := .int ((u_5.1 6) + 1)) hx hb hts iX6 hown hK hC 0 rfl rfl 6 (by decide) u9 rfl rfl dX6_tie_127 ?_
      refine lv_iconst (v := 1) hx hb dX6_tie_130 (by decide) ?_
      refine lv_isub hx hb dX6_tie_131 ?_
      refine cx_callVi0 (As := [.int (((u_5.1 6) + 1) - 1)]) (rest := []) ⟨hx, hb, hml, hown, hts⟩ (c_X6_done l D cI q _ ((va_up (va_up u_5.1 5 ((u_5.1 5) + 1)) 6 ((u_5.1 6) + 1)), (va_up u_5.2 5 (upd (u_5.2 5) (Int32.toNatClampNeg (u_5.1 5)) (u_5.1 6)))) (((u_5.1 6) + 1) - 1) _ hw) (cwV 1 hts gX6_tie_X6_done rfl rfl rfl (by decide +kernel) ⟨Nat.le_of_ble_eq_true rfl, Nat.le_of_ble_eq_true rfl⟩) hK hC hA 0 rfl rfl rfl rfl hl.1 rfl (Nat.le_of_ble_eq_true rfl) dX6_tie_132 ⟨Nat.zero_le _, Nat.zero_le _⟩ (fun r_7 u_8 H locs hw hC => ?_)
      exact cx_ret_i (u := u_8) hx hb hr hlocks hK hC hw dX6_tie_135
    · have hw := hw.2 c_6
      refine lv_aload_n hx hb dX6_tie_78 rfl (lv_at hl 1 rfl) ?_
      refine lv_aload_n hx hb dX6_tie_79 rfl (lv_at hl 1 rfl) ?_
      refine cx_callVi0 (As := []) (rest := [.ref (q 0)]) ⟨hx, hb, hml, hown, hts⟩ (c_X6_fewest l D cI q _ u_5  _ hw) (cwV 0 hts gX6_tie_X6_fewest rfl rfl rfl (by decide +kernel) ⟨Nat.le_of_ble_eq_true rfl, Nat.le_of_ble_eq_true rfl⟩) hK hC hA 0 rfl rfl rfl rfl hl.1 rfl (Nat.le_of_ble_eq_true rfl) dX6_tie_80 ⟨Nat.zero_le _, Nat.zero_le _⟩ (fun r_9 u_10 H locs hw hC => ?_)
      refine cx_put (v := .int r_9) hx hb hts iX6 tyX6 tyX6_ok nmX6 hown hK hC 0 rfl rfl 8 (by decide) u7 rfl rfl (tyX6_ok 8 (by decide)) rfl rfl (Nat.le_of_ble_eq_true rfl) dX6_tie_83 (ws' := (wM cI q ((va_up u_10.1 8 r_9), u_10.2))) (wM_i8 cI q _ _) (fun H locs hC => ?_)
      refine lv_aload_n hx hb dX6_tie_86 rfl (lv_at hl 1 rfl) ?_
      refine lv_iconst (v := 4) hx hb dX6_tie_87 (by decide) ?_
      refine cx_callVi0 (As := [.int 4]) (rest := []) ⟨hx, hb, hml, hown, hts⟩ (c_X6_refused l D cI q _ ((va_up u_10.1 8 r_9), u_10.2) 4 _ hw) (cwV 1 hts gX6_tie_X6_refused rfl rfl rfl (by decide +kernel) ⟨Nat.le_of_ble_eq_true rfl, Nat.le_of_ble_eq_true rfl⟩) hK hC hA 0 rfl rfl rfl rfl hl.1 rfl (Nat.le_of_ble_eq_true rfl) dX6_tie_88 ⟨Nat.zero_le _, Nat.zero_le _⟩ (fun r_11 u_12 H locs hw hC => ?_)
      exact cx_ret_i (u := u_12) hx hb hr hlocks hK hC hw dX6_tie_91
  · have hw := hw.2 c_1
    refine lv_aload_n hx hb dX6_tie_9 rfl (lv_at hl 0 rfl) ?_
    refine lv_iconst (v := 3) hx hb dX6_tie_10 (by decide) ?_
    refine cx_callVi0 (As := [.int 3]) (rest := []) ⟨hx, hb, hml, hown, hts⟩ (c_X6_refused l D cI q _ σ 3 _ hw) (cwV 1 hts gX6_tie_X6_refused rfl rfl rfl (by decide +kernel) ⟨Nat.le_of_ble_eq_true rfl, Nat.le_of_ble_eq_true rfl⟩) hK hC hA 0 rfl rfl rfl rfl hl.1 rfl (Nat.le_of_ble_eq_true rfl) dX6_tie_11 ⟨Nat.zero_le _, Nat.zero_le _⟩ (fun r_13 u_14 H locs hw hC => ?_)
    exact cx_ret_i (u := u_14) hx hb hr hlocks hK hC hw dX6_tie_14

/-! PictureHeapModel.near(III)I (X6_near) -/
set_option maxHeartbeats 1000000 in
set_option maxRecDepth 100000 in
theorem c_X6_near (l : Launch) (D : va_G) (cI : ClassId) (q : Nat → Nat) (sz : Nat) (σ : St) (x1 : Int32) (x2 : Int32) (x3 : Int32) (post : Int32 → St → Prop) (hw : w_X6_near σ x1 x2 x3 post) : Ci l yX6_near wsX6_near 6 144 D cI (wM cI q σ) sz [.ref (q 0), .int x1, .int x2, .int x3] (wM cI q) post := by
  refine mo_i (cc := cX6_near) (maxL := 4) (ret := (some .int)) (by decide) rfl (Nat.le_of_ble_eq_true rfl) ?_
  intro p e s m below meth c hx hb hr hml hts hown hlocks hK A hA hC ls hl
  have hown : s.vm.findClass RX6 = some m.cls := hown
  have hl : lv_has ls 4 [(0, .ref (q 0)), (1, .int x1), (2, .int x2), (3, .int x3)] := hl
  have u1 : (Cond.fieldLink RX6 74 "PictureHeapModel" "thrown" "I").before [.ref (q 0), .int x1, .int x2, .int x3].toArray s = true := hts _ (List.mem_of_getElem? (i := 1) rfl)
  have iX6 : ∀ w ∈ wsX60, w ∈ wsX6_near := fun _ h => List.mem_cons_of_mem _ (List.mem_append_right _ h)
  refine lv_aload_n hx hb dX6_near_0 rfl (lv_at hl 0 rfl) ?_
  refine lv_iconst (v := 0) hx hb dX6_near_1 (by decide) ?_
  refine cx_put (v := .int 0) hx hb hts iX6 tyX6 tyX6_ok nmX6 hown hK hC 0 rfl rfl 0 (by decide) u1 rfl rfl (tyX6_ok 0 (by decide)) rfl rfl (Nat.le_of_ble_eq_true rfl) dX6_near_2 (ws' := (wM cI q ((va_up σ.1 0 0), σ.2))) (wM_i0 cI q _ _) (fun H locs hC => ?_)
  refine lv_aload_n hx hb dX6_near_5 rfl (lv_at hl 0 rfl) ?_
  refine lv_iload_n hx hb dX6_near_6 rfl (lv_at hl 1 rfl) ?_
  refine cx_callVi0 (As := [.int x1]) (rest := []) ⟨hx, hb, hml, hown, hts⟩ (c_X6_isPicture l D cI q _ ((va_up σ.1 0 0), σ.2) x1 _ hw) (cwV 1 hts gX6_near_X6_isPicture rfl rfl rfl (by decide +kernel) ⟨Nat.le_of_ble_eq_true rfl, Nat.le_of_ble_eq_true rfl⟩) hK hC hA 0 rfl rfl rfl rfl hl.1 rfl (Nat.le_of_ble_eq_true rfl) dX6_near_7 ⟨Nat.zero_le _, Nat.zero_le _⟩ (fun r_1 u_2 H locs hw hC => ?_)
  refine lv_if_eq (tgt := 21) hx hb dX6_near_10 (by decide) (fun c_3 => ?_) (fun c_3 => ?_)
  · have hw := hw.1 c_3
    refine lv_aload_n hx hb dX6_near_21 rfl (lv_at hl 0 rfl) ?_
    refine lv_iconst (v := 1) hx hb dX6_near_22 (by decide) ?_
    refine cx_callVi0 (As := [.int 1]) (rest := []) ⟨hx, hb, hml, hown, hts⟩ (c_X6_refused l D cI q _ u_2 1 _ hw) (cwV 1 hts gX6_near_X6_refused rfl rfl rfl (by decide +kernel) ⟨Nat.le_of_ble_eq_true rfl, Nat.le_of_ble_eq_true rfl⟩) hK hC hA 0 rfl rfl rfl rfl hl.1 rfl (Nat.le_of_ble_eq_true rfl) dX6_near_23 ⟨Nat.zero_le _, Nat.zero_le _⟩ (fun r_4 u_5 H locs hw hC => ?_)
    exact cx_ret_i (u := u_5) hx hb hr hlocks hK hC hw dX6_near_26
  · have hw := hw.2 c_3
    refine lv_aload_n hx hb dX6_near_13 rfl (lv_at hl 0 rfl) ?_
    refine lv_iload_n hx hb dX6_near_14 rfl (lv_at hl 2 rfl) ?_
    refine cx_callVi0 (As := [.int x2]) (rest := []) ⟨hx, hb, hml, hown, hts⟩ (c_X6_isPicture l D cI q _ u_2 x2 _ hw) (cwV 1 hts gX6_near_X6_isPicture rfl rfl rfl (by decide +kernel) ⟨Nat.le_of_ble_eq_true rfl, Nat.le_of_ble_eq_true rfl⟩) hK hC hA 0 rfl rfl rfl rfl hl.1 rfl (Nat.le_of_ble_eq_true rfl) dX6_near_15 ⟨Nat.zero_le _, Nat.zero_le _⟩ (fun r_6 u_7 H locs hw hC => ?_)
    refine lv_if_ne (tgt := 27) hx hb dX6_near_18 (by decide) (fun c_8 => ?_) (fun c_8 => ?_)
    · have hw := hw.1 c_8
      refine lv_iload_n hx hb dX6_near_27 rfl (lv_at hl 3 rfl) ?_
      refine lv_iconst (v := 0) hx hb dX6_near_28 (by decide) ?_
      refine lv_sipush (v := 10000) hx hb dX6_near_29 (by decide) ?_
      refine cx_callSiE (As := [.int x3, .int 0, .int 10000]) (rest := []) ⟨hx, hb, hml, hown, hts⟩ (c_X6_in l D cI _ x3 0 10000 _ hw) (va_cwS 3 hts gX6_near_X6_in rfl rfl rfl (by decide +kernel) ⟨Nat.le_of_ble_eq_true rfl, Nat.le_of_ble_eq_true rfl⟩) hK hC hA rfl hl.1 rfl (Nat.le_of_ble_eq_true rfl) dX6_near_32 ⟨Nat.zero_le _, Nat.zero_le _⟩ (fun r_9 H locs hw hC => ?_)
      refine lv_if_ne (tgt := 44) hx hb dX6_near_35 (by decide) (fun c_11 => ?_) (fun c_11 => ?_)
      · have hw := hw.1 c_11
        refine lv_aload_n hx hb dX6_near_44 rfl (lv_at hl 0 rfl) ?_
        refine lv_iconst (v := 0) hx hb dX6_near_45 (by decide) ?_
        refine lv_iload_n hx hb dX6_near_46 rfl (lv_at hl 1 rfl) ?_
        refine lv_iload_n hx hb dX6_near_47 rfl (lv_at hl 2 rfl) ?_
        refine lv_iload_n hx hb dX6_near_48 rfl (lv_at hl 3 rfl) ?_
        refine cx_callVi0 (As := [.int 0, .int x1, .int x2, .int x3]) (rest := []) ⟨hx, hb, hml, hown, hts⟩ (c_X6_tie l D cI q _ u_7 0 x1 x2 x3 _ hw) (cwV 4 hts gX6_near_X6_tie rfl rfl rfl (by decide +kernel) ⟨Nat.le_of_ble_eq_true rfl, Nat.le_of_ble_eq_true rfl⟩) hK hC hA 0 rfl rfl rfl rfl hl.1 rfl (Nat.le_of_ble_eq_true rfl) dX6_near_49 ⟨Nat.zero_le _, Nat.zero_le _⟩ (fun r_12 u_13 H locs hw hC => ?_)
        exact cx_ret_i (u := u_13) hx hb hr hlocks hK hC hw dX6_near_52
      · have hw := hw.2 c_11
        refine lv_aload_n hx hb dX6_near_38 rfl (lv_at hl 0 rfl) ?_
        refine lv_iconst (v := 2) hx hb dX6_near_39 (by decide) ?_
        refine cx_callVi0 (As := [.int 2]) (rest := []) ⟨hx, hb, hml, hown, hts⟩ (c_X6_refused l D cI q _ u_7 2 _ hw) (cwV 1 hts gX6_near_X6_refused rfl rfl rfl (by decide +kernel) ⟨Nat.le_of_ble_eq_true rfl, Nat.le_of_ble_eq_true rfl⟩) hK hC hA 0 rfl rfl rfl rfl hl.1 rfl (Nat.le_of_ble_eq_true rfl) dX6_near_40 ⟨Nat.zero_le _, Nat.zero_le _⟩ (fun r_14 u_15 H locs hw hC => ?_)
        exact cx_ret_i (u := u_15) hx hb hr hlocks hK hC hw dX6_near_43
    · have hw := hw.2 c_8
      refine lv_aload_n hx hb dX6_near_21 rfl (lv_at hl 0 rfl) ?_
      refine lv_iconst (v := 1) hx hb dX6_near_22 (by decide) ?_
      refine cx_callVi0 (As := [.int 1]) (rest := []) ⟨hx, hb, hml, hown, hts⟩ (c_X6_refused l D cI q _ u_7 1 _ hw) (cwV 1 hts gX6_near_X6_refused rfl rfl rfl (by decide +kernel) ⟨Nat.le_of_ble_eq_true rfl, Nat.le_of_ble_eq_true rfl⟩) hK hC hA 0 rfl rfl rfl rfl hl.1 rfl (Nat.le_of_ble_eq_true rfl) dX6_near_23 ⟨Nat.zero_le _, Nat.zero_le _⟩ (fun r_16 u_17 H locs hw hC => ?_)
      exact cx_ret_i (u := u_17) hx hb hr hlocks hK hC hw dX6_near_26

/-! PictureHeapModel.ahead(II)I (X6_ahead) -/
set_option maxHeartbeats 1000000 in
set_option maxRecDepth 100000 in
theorem c_X6_ahead (l : Launch) (D : va_G) (cI : ClassId) (q : Nat → Nat) (sz : Nat) (σ : St) (x1 : Int32) (x2 : Int32) (post : Int32 → St → Prop) (hw : w_X6_ahead σ x1 x2 post) : Ci l yX6_ahead wsX6_ahead 6 144 D cI (wM cI q σ) sz [.ref (q 0), .int x1, .int x2] (wM cI q) post := by
  refine mo_i (cc := cX6_ahead) (maxL := 3) (ret := (some .int)) (by decide) rfl (Nat.le_of_ble_eq_true rfl) ?_
  intro p e s m below meth c hx hb hr hml hts hown hlocks hK A hA hC ls hl
  have hown : s.vm.findClass RX6 = some m.cls := hown
  have hl : lv_has ls 3 [(0, .ref (q 0)), (1, .int x1), (2, .int x2)] := hl
  have u1 : (Cond.fieldLink RX6 74 "PictureHeapModel" "thrown" "I").before [.ref (q 0), .int x1, .int x2].toArray s = true := hts _ (List.mem_of_getElem? (i := 1) rfl)
  have iX6 : ∀ w ∈ wsX60, w ∈ wsX6_ahead := fun _ h => List.mem_cons_of_mem _ (List.mem_append_right _ h)
  refine lv_aload_n hx hb dX6_ahead_0 rfl (lv_at hl 0 rfl) ?_
  refine lv_iconst (v := 0) hx hb dX6_ahead_1 (by decide) ?_
  refine cx_put (v := .int 0) hx hb hts iX6 tyX6 tyX6_ok nmX6 hown hK hC 0 rfl rfl 0 (by decide) u1 rfl rfl (tyX6_ok 0 (by decide)) rfl rfl (Nat.le_of_ble_eq_true rfl) dX6_ahead_2 (ws' := (wM cI q ((va_up σ.1 0 0), σ.2))) (wM_i0 cI q _ _) (fun H locs hC => ?_)
  refine lv_aload_n hx hb dX6_ahead_5 rfl (lv_at hl 0 rfl) ?_
  refine lv_iload_n hx hb dX6_ahead_6 rfl (lv_at hl 1 rfl) ?_
  refine cx_callVi0 (As := [.int x1]) (rest := []) ⟨hx, hb, hml, hown, hts⟩ (c_X6_isPicture l D cI q _ ((va_up σ.1 0 0), σ.2) x1 _ hw) (cwV 1 hts gX6_ahead_X6_isPicture rfl rfl rfl (by decide +kernel) ⟨Nat.le_of_ble_eq_true rfl, Nat.le_of_ble_eq_true rfl⟩) hK hC hA 0 rfl rfl rfl rfl hl.1 rfl (Nat.le_of_ble_eq_true rfl) dX6_ahead_7 ⟨Nat.zero_le _, Nat.zero_le _⟩ (fun r_1 u_2 H locs hw hC => ?_)
  refine lv_if_eq (tgt := 21) hx hb dX6_ahead_10 (by decide) (fun c_3 => ?_) (fun c_3 => ?_)
  · have hw := hw.1 c_3
    refine lv_aload_n hx hb dX6_ahead_21 rfl (lv_at hl 0 rfl) ?_
    refine lv_iconst (v := 1) hx hb dX6_ahead_22 (by decide) ?_
    refine cx_callVi0 (As := [.int 1]) (rest := []) ⟨hx, hb, hml, hown, hts⟩ (c_X6_refused l D cI q _ u_2 1 _ hw) (cwV 1 hts gX6_ahead_X6_refused rfl rfl rfl (by decide +kernel) ⟨Nat.le_of_ble_eq_true rfl, Nat.le_of_ble_eq_true rfl⟩) hK hC hA 0 rfl rfl rfl rfl hl.1 rfl (Nat.le_of_ble_eq_true rfl) dX6_ahead_23 ⟨Nat.zero_le _, Nat.zero_le _⟩ (fun r_4 u_5 H locs hw hC => ?_)
    exact cx_ret_i (u := u_5) hx hb hr hlocks hK hC hw dX6_ahead_26
  · have hw := hw.2 c_3
    refine lv_aload_n hx hb dX6_ahead_13 rfl (lv_at hl 0 rfl) ?_
    refine lv_iload_n hx hb dX6_ahead_14 rfl (lv_at hl 2 rfl) ?_
    refine cx_callVi0 (As := [.int x2]) (rest := []) ⟨hx, hb, hml, hown, hts⟩ (c_X6_isPicture l D cI q _ u_2 x2 _ hw) (cwV 1 hts gX6_ahead_X6_isPicture rfl rfl rfl (by decide +kernel) ⟨Nat.le_of_ble_eq_true rfl, Nat.le_of_ble_eq_true rfl⟩) hK hC hA 0 rfl rfl rfl rfl hl.1 rfl (Nat.le_of_ble_eq_true rfl) dX6_ahead_15 ⟨Nat.zero_le _, Nat.zero_le _⟩ (fun r_6 u_7 H locs hw hC => ?_)
    refine lv_if_ne (tgt := 27) hx hb dX6_ahead_18 (by decide) (fun c_8 => ?_) (fun c_8 => ?_)
    · have hw := hw.1 c_8
      refine lv_aload_n hx hb dX6_ahead_27 rfl (lv_at hl 0 rfl) ?_
      refine lv_iconst (v := 1) hx hb dX6_ahead_28 (by decide) ?_
      refine lv_iload_n hx hb dX6_ahead_29 rfl (lv_at hl 1 rfl) ?_
      refine lv_iload_n hx hb dX6_ahead_30 rfl (lv_at hl 2 rfl) ?_
      refine lv_iconst (v := 0) hx hb dX6_ahead_31 (by decide) ?_
      refine cx_callVi0 (As := [.int 1, .int x1, .int x2, .int 0]) (rest := []) ⟨hx, hb, hml, hown, hts⟩ (c_X6_tie l D cI q _ u_7 1 x1 x2 0 _ hw) (cwV 4 hts gX6_ahead_X6_tie rfl rfl rfl (by decide +kernel) ⟨Nat.le_of_ble_eq_true rfl, Nat.le_of_ble_eq_true rfl⟩) hK hC hA 0 rfl rfl rfl rfl hl.1 rfl (Nat.le_of_ble_eq_true rfl) dX6_ahead_32 ⟨Nat.zero_le _, Nat.zero_le _⟩ (fun r_9 u_10 H locs hw hC => ?_)
      exact cx_ret_i (u := u_10) hx hb hr hlocks hK hC hw dX6_ahead_35
    · have hw := hw.2 c_8
      refine lv_aload_n hx hb dX6_ahead_21 rfl (lv_at hl 0 rfl) ?_
      refine lv_iconst (v := 1) hx hb dX6_ahead_22 (by decide) ?_
      refine cx_callVi0 (As := [.int 1]) (rest := []) ⟨hx, hb, hml, hown, hts⟩ (c_X6_refused l D cI q _ u_7 1 _ hw) (cwV 1 hts gX6_ahead_X6_refused rfl rfl rfl (by decide +kernel) ⟨Nat.le_of_ble_eq_true rfl, Nat.le_of_ble_eq_true rfl⟩) hK hC hA 0 rfl rfl rfl rfl hl.1 rfl (Nat.le_of_ble_eq_true rfl) dX6_ahead_23 ⟨Nat.zero_le _, Nat.zero_le _⟩ (fun r_11 u_12 H locs hw hC => ?_)
      exact cx_ret_i (u := u_12) hx hb hr hlocks hK hC hw dX6_ahead_26

/-! PictureHeapModel.off(III)I (X6_off) -/
set_option maxHeartbeats 1000000 in
set_option maxRecDepth 100000 in
theorem c_X6_off (l : Launch) (D : va_G) (cI : ClassId) (q : Nat → Nat) (sz : Nat) (σ : St) (x1 : Int32) (x2 : Int32) (x3 : Int32) (post : Int32 → St → Prop) (hw : w_X6_off σ x1 x2 x3 post) : Ci l yX6_off wsX6_off 6 144 D cI (wM cI q σ) sz [.ref (q 0), .int x1, .int x2, .int x3] (wM cI q) post := by
  refine mo_i (cc := cX6_off) (maxL := 4) (ret := (some .int)) (by decide) rfl (Nat.le_of_ble_eq_true rfl) ?_
  intro p e s m below meth c hx hb hr hml hts hown hlocks hK A hA hC ls hl
  have hown : s.vm.findClass RX6 = some m.cls := hown
  have hl : lv_has ls 4 [(0, .ref (q 0)), (1, .int x1), (2, .int x2), (3, .int x3)] := hl
  have u1 : (Cond.fieldLink RX6 74 "PictureHeapModel" "thrown" "I").before [.ref (q 0), .int x1, .int x2, .int x3].toArray s = true := hts _ (List.mem_of_getElem? (i := 1) rfl)
  have u2 : (Cond.constant RX6 165 (-200000)).before [.ref (q 0), .int x1, .int x2, .int x3].toArray s = true := hts _ (List.mem_of_getElem? (i := 2) rfl)
  have u3 : (Cond.constant RX6 126 (200000)).before [.ref (q 0), .int x1, .int x2, .int x3].toArray s = true := hts _ (List.mem_of_getElem? (i := 3) rfl)
  have iX6 : ∀ w ∈ wsX60, w ∈ wsX6_off := fun _ h => List.mem_cons_of_mem _ (List.mem_append_right _ h)
  refine lv_aload_n hx hb dX6_off_0 rfl (lv_at hl 0 rfl) ?_
  refine lv_iconst (v := 0) hx hb dX6_off_1 (by decide) ?_
  refine cx_put (v := .int 0) hx hb hts iX6 tyX6 tyX6_ok nmX6 hown hK hC 0 rfl rfl 0 (by decide) u1 rfl rfl (tyX6_ok 0 (by decide)) rfl rfl (Nat.le_of_ble_eq_true rfl) dX6_off_2 (ws' := (wM cI q ((va_up σ.1 0 0), σ.2))) (wM_i0 cI q _ _) (fun H locs hC => ?_)
  refine lv_aload_n hx hb dX6_off_5 rfl (lv_at hl 0 rfl) ?_
  refine lv_iload_n hx hb dX6_off_6 rfl (lv_at hl 1 rfl) ?_
  refine cx_callVi0 (As := [.int x1]) (rest := []) ⟨hx, hb, hml, hown, hts⟩ (c_X6_isCamera l D cI q _ ((va_up σ.1 0 0), σ.2) x1 _ hw) (cwV 1 hts gX6_off_X6_isCamera rfl rfl rfl (by decide +kernel) ⟨Nat.le_of_ble_eq_true rfl, Nat.le_of_ble_eq_true rfl⟩) hK hC hA 0 rfl rfl rfl rfl hl.1 rfl (Nat.le_of_ble_eq_true rfl) dX6_off_7 ⟨Nat.zero_le _, Nat.zero_le _⟩ (fun r_1 u_2 H locs hw hC => ?_)
  refine lv_if_ne (tgt := 19) hx hb dX6_off_10 (by decide) (fun c_3 => ?_) (fun c_3 => ?_)
  · have hw := hw.1 c_3
    refine lv_iload_n hx hb dX6_off_19 rfl (lv_at hl 2 rfl) ?_
    refine lv_ldc (v := (-200000)) hx hb hown u2 dX6_off_20 ?_
    refine lv_iload_n hx hb dX6_off_22 rfl (lv_at hl 3 rfl) ?_
    refine cx_callSiE (As := [.int x2, .int (-200000), .int x3]) (rest := []) ⟨hx, hb, hml, hown, hts⟩ (c_X6_in l D cI _ x2 (-200000) x3 _ hw) (va_cwS 3 hts gX6_off_X6_in rfl rfl rfl (by decide +kernel) ⟨Nat.le_of_ble_eq_true rfl, Nat.le_of_ble_eq_true rfl⟩) hK hC hA rfl hl.1 rfl (Nat.le_of_ble_eq_true rfl) dX6_off_23 ⟨Nat.zero_le _, Nat.zero_le _⟩ (fun r_4 H locs hw hC => ?_)
    refine lv_if_eq (tgt := 35) hx hb dX6_off_26 (by decide) (fun c_6 => ?_) (fun c_6 => ?_)
    · have hw := hw.1 c_6
      refine lv_aload_n hx hb dX6_off_35 rfl (lv_at hl 0 rfl) ?_
      refine lv_iconst (v := 2) hx hb dX6_off_36 (by decide) ?_
      refine cx_callVi0 (As := [.int 2]) (rest := []) ⟨hx, hb, hml, hown, hts⟩ (c_X6_refused l D cI q _ u_2 2 _ hw) (cwV 1 hts gX6_off_X6_refused rfl rfl rfl (by decide +kernel) ⟨Nat.le_of_ble_eq_true rfl, Nat.le_of_ble_eq_true rfl⟩) hK hC hA 0 rfl rfl rfl rfl hl.1 rfl (Nat.le_of_ble_eq_true rfl) dX6_off_37 ⟨Nat.zero_le _, Nat.zero_le _⟩ (fun r_7 u_8 H locs hw hC => ?_)
      exact cx_ret_i (u := u_8) hx hb hr hlocks hK hC hw dX6_off_40
    · have hw := hw.2 c_6
      refine lv_iload_n hx hb dX6_off_29 rfl (lv_at hl 3 rfl) ?_
      refine lv_ldc (v := 200000) hx hb hown u3 dX6_off_30 ?_
      refine lv_icmp_le (tgt := 41) hx hb dX6_off_32 (by decide) (fun c_9 => ?_) (fun c_9 => ?_)
      · have hw := hw.1 c_9
        refine lv_aload_n hx hb dX6_off_41 rfl (lv_at hl 0 rfl) ?_
        refine lv_iconst (v := 2) hx hb dX6_off_42 (by decide) ?_
        refine lv_iload_n hx hb dX6_off_43 rfl (lv_at hl 1 rfl) ?_
        refine lv_iload_n hx hb dX6_off_44 rfl (lv_at hl 2 rfl) ?_
        refine lv_iload_n hx hb dX6_off_45 rfl (lv_at hl 3 rfl) ?_
        refine cx_callVi0 (As := [.int 2, .int x1, .int x2, .int x3]) (rest := []) ⟨hx, hb, hml, hown, hts⟩ (c_X6_tie l D cI q _ u_2 2 x1 x2 x3 _ hw) (cwV 4 hts gX6_off_X6_tie rfl rfl rfl (by decide +kernel) ⟨Nat.le_of_ble_eq_true rfl, Nat.le_of_ble_eq_true rfl⟩) hK hC hA 0 rfl rfl rfl rfl hl.1 rfl (Nat.le_of_ble_eq_true rfl) dX6_off_46 ⟨Nat.zero_le _, Nat.zero_le _⟩ (fun r_10 u_11 H locs hw hC => ?_)
        exact cx_ret_i (u := u_11) hx hb hr hlocks hK hC hw dX6_off_49
      · have hw := hw.2 c_9
        refine lv_aload_n hx hb dX6_off_35 rfl (lv_at hl 0 rfl) ?_
        refine lv_iconst (v := 2) hx hb dX6_off_36 (by decide) ?_
        refine cx_callVi0 (As := [.int 2]) (rest := []) ⟨hx, hb, hml, hown, hts⟩ (c_X6_refused l D cI q _ u_2 2 _ hw) (cwV 1 hts gX6_off_X6_refused rfl rfl rfl (by decide +kernel) ⟨Nat.le_of_ble_eq_true rfl, Nat.le_of_ble_eq_true rfl⟩) hK hC hA 0 rfl rfl rfl rfl hl.1 rfl (Nat.le_of_ble_eq_true rfl) dX6_off_37 ⟨Nat.zero_le _, Nat.zero_le _⟩ (fun r_12 u_13 H locs hw hC => ?_)
        exact cx_ret_i (u := u_13) hx hb hr hlocks hK hC hw dX6_off_40
  · have hw := hw.2 c_3
    refine lv_aload_n hx hb dX6_off_13 rfl (lv_at hl 0 rfl) ?_
    refine lv_iconst (v := 1) hx hb dX6_off_14 (by decide) ?_
    refine cx_callVi0 (As := [.int 1]) (rest := []) ⟨hx, hb, hml, hown, hts⟩ (c_X6_refused l D cI q _ u_2 1 _ hw) (cwV 1 hts gX6_off_X6_refused rfl rfl rfl (by decide +kernel) ⟨Nat.le_of_ble_eq_true rfl, Nat.le_of_ble_eq_true rfl⟩) hK hC hA 0 rfl rfl rfl rfl hl.1 rfl (Nat.le_of_ble_eq_true rfl) dX6_off_15 ⟨Nat.zero_le _, Nat.zero_le _⟩ (fun r_14 u_15 H locs hw hC => ?_)
    exact cx_ret_i (u := u_15) hx hb hr hlocks hK hC hw dX6_off_18

/-! PictureHeapModel.quarrel()I (X6_quarrel) -/
set_option maxHeartbeats 1000000 in
set_option maxRecDepth 100000 in
theorem c_X6_quarrel (l : Launch) (D : va_G) (cI : ClassId) (q : Nat → Nat) (sz : Nat) (σ : St) (post : Int32 → St → Prop) (hw : w_X6_quarrel σ post) : Ci l yX6_quarrel wsX6_quarrel 0 0 D cI (wM cI q σ) sz [.ref (q 0)] (wM cI q) post := by
  refine mo_i (cc := cX6_quarrel) (maxL := 1) (ret := (some .int)) (by decide) rfl (Nat.le_of_ble_eq_true rfl) ?_
  intro p e s m below meth c hx hb hr hml hts hown hlocks hK A hA hC ls hl
  have hown : s.vm.findClass RX6 = some m.cls := hown
  have hl : lv_has ls 1 [(0, .ref (q 0))] := hl
  have u1 : (Cond.fieldLink RX6 74 "PictureHeapModel" "thrown" "I").before [.ref (q 0)].toArray s = true := hts _ (List.mem_of_getElem? (i := 1) rfl)
  have u2 : (Cond.fieldLink RX6 13 "PictureHeapModel" "quarrel" "I").before [.ref (q 0)].toArray s = true := hts _ (List.mem_of_getElem? (i := 2) rfl)
  have iX6 : ∀ w ∈ wsX60, w ∈ wsX6_quarrel := fun _ h => List.mem_cons_of_mem _ (List.mem_append_right _ h)
  refine lv_aload_n hx hb dX6_quarrel_0 rfl (lv_at hl 0 rfl) ?_
  refine lv_iconst (v := 0) hx hb dX6_quarrel_1 (by decide) ?_
  refine cx_put (v := .int 0) hx hb hts iX6 tyX6 tyX6_ok nmX6 hown hK hC 0 rfl rfl 0 (by decide) u1 rfl rfl (tyX6_ok 0 (by decide)) rfl rfl (Nat.le_of_ble_eq_true rfl) dX6_quarrel_2 (ws' := (wM cI q ((va_up σ.1 0 0), σ.2))) (wM_i0 cI q _ _) (fun H locs hC => ?_)
  refine lv_aload_n hx hb dX6_quarrel_5 rfl (lv_at hl 0 rfl) ?_
  refine cx_get (v := .int (σ.1 8)) hx hb hts iX6 hown hK hC 0 rfl rfl 8 (by decide) u2 rfl rfl dX6_quarrel_6 ?_
  exact cx_ret_i (u := ((va_up σ.1 0 0), σ.2)) hx hb hr hlocks hK hC hw dX6_quarrel_9

/-! PictureHeapModel.tieAt(I)I (X6_tieAt) -/
set_option maxHeartbeats 1000000 in
set_option maxRecDepth 100000 in
theorem c_X6_tieAt (l : Launch) (D : va_G) (cI : ClassId) (q : Nat → Nat) (sz : Nat) (σ : St) (x1 : Int32) (post : Int32 → St → Prop) (hw : w_X6_tieAt σ x1 post) : Ci l yX6_tieAt wsX6_tieAt 0 0 D cI (wM cI q σ) sz [.ref (q 0), .int x1] (wM cI q) post := by
  refine mo_i (cc := cX6_tieAt) (maxL := 3) (ret := (some .int)) (by decide) rfl (Nat.le_of_ble_eq_true rfl) ?_
  intro p e s m below meth c hx hb hr hml hts hown hlocks hK A hA hC ls hl
  have hown : s.vm.findClass RX6 = some m.cls := hown
  have hl : lv_has ls 3 [(0, .ref (q 0)), (1, .int x1)] := hl
  have u1 : (Cond.fieldLink RX6 132 "PictureHeapModel" "ties" "I").before [.ref (q 0), .int x1].toArray s = true := hts _ (List.mem_of_getElem? (i := 1) rfl)
  have u2 : (Cond.fieldLink RX6 32 "PictureHeapModel" "tieNumber" "[I").before [.ref (q 0), .int x1].toArray s = true := hts _ (List.mem_of_getElem? (i := 2) rfl)
  have iX6 : ∀ w ∈ wsX60, w ∈ wsX6_tieAt := fun _ h => List.mem_cons_of_mem _ (List.mem_append_right _ h)
  have L2 : ∀ (x1_1 : Int32) (K : Int32 → St → Prop) (hKK : ∀ (x2_2 : Int32) (s_3 : St) (H : Heap) (locs : List Loc) (ls : Array Slot), K x2_2 s_3 → Cx D A s.heap (wM cI q s_3) H locs → lv_has ls 3 [(0, .ref (q 0)), (1, .int x1_1), (2, .int x2_2)] → W p l e (Rm 0 0) s m [.ref (q 0), .int x1].toArray below meth c H locs 0 0 (QI below D cI A (wM cI q) post [.ref (q 0), .int x1].toArray s) (F0 m 26 ls [])) (n : Nat), ∀ (x2_2 : Int32) (s_3 : St) (H : Heap) (locs : List Loc) (ls : Array Slot), w_X6_tieAt_L2 x1_1 post K n x2_2 s_3 → Cx D A s.heap (wM cI q s_3) H locs → lv_has ls 3 [(0, .ref (q 0)), (1, .int x1_1), (2, .int x2_2)] → W p l e (Rm 0 0) s m [.ref (q 0), .int x1].toArray below meth c H locs 0 0 (QI below D cI A (wM cI q) post [.ref (q 0), .int x1].toArray s) (F0 m 2 ls []) := by
    intro x1_1 K hKK n
    induction n with
    | zero => intro x2_2 s_3 H locs ls hw; exact hw.elim
    | succ n ih =>
      intro x2_2 s_3 H locs ls hw hC hl
      refine lv_iload_n hx hb dX6_tieAt_2 rfl (lv_at hl 2 rfl) ?_
      refine lv_aload_n hx hb dX6_tieAt_3 rfl (lv_at hl 0 rfl) ?_
      refine cx_get (v := .int (s_3.1 5)) hx hb hts iX6 hown hK hC 0 rfl rfl 5 (by decide) u1 rfl rfl dX6_tieAt_4 ?_
      refine lv_icmp_ge (tgt := 26) hx hb dX6_tieAt_7 (by decide) (fun c_4 => ?_) (fun c_4 => ?_)
      · have hw := hw.1 c_4
        exact hKK x2_2 s_3 _ _ _ hw hC (lv_sub hl [0, 1, 2] rfl)
      · have hw := hw.2 c_4
        refine lv_aload_n hx hb dX6_tieAt_10 rfl (lv_at hl 0 rfl) ?_
        refine cx_get (v := .ref (q 6)) hx hb hts iX6 hown hK hC 0 rfl rfl 14 (by decide) u2 rfl rfl dX6_tieAt_11 ?_
        refine lv_iload_n hx hb dX6_tieAt_14 rfl (lv_at hl 2 rfl) ?_
        refine cx_iald (f := s_3.2 5) hx hb hK hC 6 rfl hw.1 dX6_tieAt_15 ?_
        have hw := hw.2
        refine lv_iload_n hx hb dX6_tieAt_16 rfl (lv_at hl 1 rfl) ?_
        refine lv_icmp_eq (tgt := 26) hx hb dX6_tieAt_17 (by decide) (fun c_5 => ?_) (fun c_5 => ?_)
        · have hw := hw.1 c_5
          exact hKK x2_2 s_3 _ _ _ hw hC (lv_sub hl [0, 1, 2] rfl)
        · have hw := hw.2 c_5
          refine lv_iinc (v := (x2_2 + 1)) (lv' := [(2, .int (x2_2 + 1)), (0, .ref (q 0)), (1, .int x1_1)]) hx hb dX6_tieAt_20 hl (k := 2) rfl rfl (by decide) rfl (fun ls hl => ?_)
          refine lv_goto (tgt := 2) hx hb dX6_tieAt_23 (by decide) ?_
          exact ih (x2_2 + 1) s_3 _ _ _ hw hC (lv_sub hl [1, 2, 0] rfl)
  have J26 : ∀ (x2_8 : Int32) (s_9 : St) (H : Heap) (locs : List Loc) (ls : Array Slot), w_X6_tieAt_J26 post x2_8 s_9 → Cx D A s.heap (wM cI q s_9) H locs → lv_has ls 3 [(0, .ref (q 0)), (2, .int x2_8)] → W p l e (Rm 0 0) s m [.ref (q 0), .int x1].toArray below meth c H locs 0 0 (QI below D cI A (wM cI q) post [.ref (q 0), .int x1].toArray s) (F0 m 26 ls []) := by
    intro x2_8 s_9  H locs ls hw hC hl
    refine lv_iload_n hx hb dX6_tieAt_26 rfl (lv_at hl 1 rfl) ?_
    refine lv_aload_n hx hb dX6_tieAt_27 rfl (lv_at hl 0 rfl) ?_
    refine cx_get (v := .int (s_9.1 5)) hx hb hts iX6 hown hK hC 0 rfl rfl 5 (by decide) u1 rfl rfl dX6_tieAt_28 ?_
    refine lv_icmp_ge (tgt := 38) hx hb dX6_tieAt_31 (by decide) (fun c_10 => ?_) (fun c_10 => ?_)
    · have hw := hw.1 c_10
      refine lv_iconst (v := (-1)) hx hb dX6_tieAt_38 (by decide) ?_
      exact cx_ret_i (u := s_9) hx hb hr hlocks hK hC hw dX6_tieAt_39
    · have hw := hw.2 c_10
      refine lv_iload_n hx hb dX6_tieAt_34 rfl (lv_at hl 1 rfl) ?_
      refine lv_goto (tgt := 39) hx hb dX6_tieAt_35 (by decide) ?_
      exact cx_ret_i (u := s_9) hx hb hr hlocks hK hC hw dX6_tieAt_39
  refine lv_iconst (v := 0) hx hb dX6_tieAt_0 (by decide) ?_
  refine lv_istore_n (lv' := [(2, .int 0), (0, .ref (q 0)), (1, .int x1)]) hx hb dX6_tieAt_1 rfl hl (by decide) rfl (fun ls hl => ?_)
  obtain ⟨n, hw⟩ := hw
  refine L2 x1 _ (fun x2_6 s_7 H locs ls hw hC hl => ?_) n 0 σ _ _ _ hw hC (lv_sub hl [1, 2, 0] rfl)
  exact J26 x2_6 s_7   _ _ _ hw hC (lv_sub hl [0, 2] rfl)

/-! PictureHeapModel.untie(I)Z (X6_untie) -/
set_option maxHeartbeats 1000000 in
set_option maxRecDepth 100000 in
theorem c_X6_untie (l : Launch) (D : va_G) (cI : ClassId) (q : Nat → Nat) (sz : Nat) (σ : St) (x1 : Int32) (post : Int32 → St → Prop) (hw : w_X6_untie σ x1 post) : Ci l yX6_untie wsX6_untie 1 22 D cI (wM cI q σ) sz [.ref (q 0), .int x1] (wM cI q) post := by
  refine mo_i (cc := cX6_untie) (maxL := 3) (ret := (some .boolean)) (by decide) rfl (Nat.le_of_ble_eq_true rfl) ?_
  intro p e s m below meth c hx hb hr hml hts hown hlocks hK A hA hC ls hl
  have hown : s.vm.findClass RX6 = some m.cls := hown
  have hl : lv_has ls 3 [(0, .ref (q 0)), (1, .int x1)] := hl
  have u1 : (Cond.fieldLink RX6 74 "PictureHeapModel" "thrown" "I").before [.ref (q 0), .int x1].toArray s = true := hts _ (List.mem_of_getElem? (i := 1) rfl)
  have u2 : (Cond.fieldLink RX6 132 "PictureHeapModel" "ties" "I").before [.ref (q 0), .int x1].toArray s = true := hts _ (List.mem_of_getElem? (i := 2) rfl)
  have u3 : (Cond.fieldLink RX6 32 "PictureHeapModel" "tieNumber" "[I").before [.ref (q 0), .int x1].toArray s = true := hts _ (List.mem_of_getElem? (i := 3) rfl)
  have u4 : (Cond.fieldLink RX6 35 "PictureHeapModel" "tieKind" "[I").before [.ref (q 0), .int x1].toArray s = true := hts _ (List.mem_of_getElem? (i := 4) rfl)
  have u5 : (Cond.fieldLink RX6 38 "PictureHeapModel" "one" "[I").before [.ref (q 0), .int x1].toArray s = true := hts _ (List.mem_of_getElem? (i := 5) rfl)
  have u6 : (Cond.fieldLink RX6 41 "PictureHeapModel" "two" "[I").before [.ref (q 0), .int x1].toArray s = true := hts _ (List.mem_of_getElem? (i := 6) rfl)
  have u7 : (Cond.fieldLink RX6 44 "PictureHeapModel" "three" "[I").before [.ref (q 0), .int x1].toArray s = true := hts _ (List.mem_of_getElem? (i := 7) rfl)
  have iX6 : ∀ w ∈ wsX60, w ∈ wsX6_untie := fun _ h => List.mem_cons_of_mem _ (List.mem_append_right _ h)
  have L32 : ∀ (K : Int32 → St → Prop) (hKK : ∀ (x2_4 : Int32) (s_5 : St) (H : Heap) (locs : List Loc) (ls : Array Slot), K x2_4 s_5 → Cx D A s.heap (wM cI q s_5) H locs → lv_has ls 3 [(0, .ref (q 0)), (2, .int x2_4)] → W p l e (Rm 1 22) s m [.ref (q 0), .int x1].toArray below meth c H locs 0 0 (QI below D cI A (wM cI q) post [.ref (q 0), .int x1].toArray s) (F0 m 116 ls [])) (n : Nat), ∀ (x2_4 : Int32) (s_5 : St) (H : Heap) (locs : List Loc) (ls : Array Slot), w_X6_untie_L32 post K n x2_4 s_5 → Cx D A s.heap (wM cI q s_5) H locs → lv_has ls 3 [(0, .ref (q 0)), (2, .int x2_4)] → W p l e (Rm 1 22) s m [.ref (q 0), .int x1].toArray below meth c H locs 0 0 (QI below D cI A (wM cI q) post [.ref (q 0), .int x1].toArray s) (F0 m 32 ls []) := by
    intro  K hKK n
    induction n with
    | zero => intro x2_4 s_5 H locs ls hw; exact hw.elim
    | succ n ih =>
      intro x2_4 s_5 H locs ls hw hC hl
      refine lv_iload_n hx hb dX6_untie_32 rfl (lv_at hl 1 rfl) ?_
      refine lv_aload_n hx hb dX6_untie_33 rfl (lv_at hl 0 rfl) ?_
      refine cx_get (v := .int (s_5.1 5)) hx hb hts iX6 hown hK hC 0 rfl rfl 5 (by decide) u2 rfl rfl dX6_untie_34 ?_
      refine lv_icmp_ge (tgt := 116) hx hb dX6_untie_37 (by decide) (fun c_6 => ?_) (fun c_6 => ?_)
      · have hw := hw.1 c_6
        exact hKK x2_4 s_5 _ _ _ hw hC (lv_sub hl [0, 1] rfl)
      · have hw := hw.2 c_6
        refine lv_aload_n hx hb dX6_untie_40 rfl (lv_at hl 0 rfl) ?_
        refine cx_get (v := .ref (q 6)) hx hb hts iX6 hown hK hC 0 rfl rfl 14 (by decide) u3 rfl rfl dX6_untie_41 ?_
        refine lv_iload_n hx hb dX6_untie_44 rfl (lv_at hl 1 rfl) ?_
        refine lv_aload_n hx hb dX6_untie_45 rfl (lv_at hl 0 rfl) ?_
        refine cx_get (v := .ref (q 6)) hx hb hts iX6 hown hK hC 0 rfl rfl 14 (by decide) u3 rfl rfl dX6_untie_46 ?_
        refine lv_iload_n hx hb dX6_untie_49 rfl (lv_at hl 1 rfl) ?_
        refine lv_iconst (v := 1) hx hb dX6_untie_50 (by decide) ?_
        refine lv_iadd hx hb dX6_untie_51 ?_
        refine cx_iald (f := s_5.2 5) hx hb hK hC 6 rfl hw.1 dX6_untie_52 ?_
        have hw := hw.2
        refine cx_iast (f := s_5.2 5) hx hb hK hC 6 rfl hw.1 dX6_untie_53 (ws' := (wM cI q (s_5.1, (va_up s_5.2 5 (upd (s_5.2 5) (Int32.toNatClampNeg x2_4) (s_5.2 5 (Int32.toNatClampNeg (x2_4 + 1)))))))) (wM_a5 cI q _ _) (fun H locs hC => ?_)
        have hw := hw.2
        refine lv_aload_n hx hb dX6_untie_54 rfl (lv_at hl 0 rfl) ?_
        refine cx_get (v := .ref (q 7)) hx hb hts iX6 hown hK hC 0 rfl rfl 15 (by decide) u4 rfl rfl dX6_untie_55 ?_
        refine lv_iload_n hx hb dX6_untie_58 rfl (lv_at hl 1 rfl) ?_
        refine lv_aload_n hx hb dX6_untie_59 rfl (lv_at hl 0 rfl) ?_
        refine cx_get (v := .ref (q 7)) hx hb hts iX6 hown hK hC 0 rfl rfl 15 (by decide) u4 rfl rfl dX6_untie_60 ?_
        refine lv_iload_n hx hb dX6_untie_63 rfl (lv_at hl 1 rfl) ?_
        refine lv_iconst (v := 1) hx hb dX6_untie_64 (by decide) ?_
        refine lv_iadd hx hb dX6_untie_65 ?_
        refine cx_iald (f := s_5.2 6) hx hb hK hC 7 rfl hw.1 dX6_untie_66 ?_
        have hw := hw.2
        refine cx_iast (f := s_5.2 6) hx hb hK hC 7 rfl hw.1 dX6_untie_67 (ws' := (wM cI q (s_5.1, (va_up (va_up s_5.2 5 (upd (s_5.2 5) (Int32.toNatClampNeg x2_4) (s_5.2 5 (Int32.toNatClampNeg (x2_4 + 1))))) 6 (upd (s_5.2 6) (Int32.toNatClampNeg x2_4) (s_5.2 6 (Int32.toNatClampNeg (x2_4 + 1)))))))) (wM_a6 cI q _ _) (fun H locs hC => ?_)
        have hw := hw.2
        refine lv_aload_n hx hb dX6_untie_68 rfl (lv_at hl 0 rfl) ?_
        refine cx_get (v := .ref (q 8)) hx hb hts iX6 hown hK hC 0 rfl rfl 16 (by decide) u5 rfl rfl dX6_untie_69 ?_
        refine lv_iload_n hx hb dX6_untie_72 rfl (lv_at hl 1 rfl) ?_
        refine lv_aload_n hx hb dX6_untie_73 rfl (lv_at hl 0 rfl) ?_
        refine cx_get (v := .ref (q 8)) hx hb hts iX6 hown hK hC 0 rfl rfl 16 (by decide) u5 rfl rfl dX6_untie_74 ?_
        refine lv_iload_n hx hb dX6_untie_77 rfl (lv_at hl 1 rfl) ?_
        refine lv_iconst (v := 1) hx hb dX6_untie_78 (by decide) ?_
        refine lv_iadd hx hb dX6_untie_79 ?_
        refine cx_iald (f := s_5.2 7) hx hb hK hC 8 rfl hw.1 dX6_untie_80 ?_
        have hw := hw.2
        refine cx_iast (f := s_5.2 7) hx hb hK hC 8 rfl hw.1 dX6_untie_81 (ws' := (wM cI q (s_5.1, (va_up (va_up (va_up s_5.2 5 (upd (s_5.2 5) (Int32.toNatClampNeg x2_4) (s_5.2 5 (Int32.toNatClampNeg (x2_4 + 1))))) 6 (upd (s_5.2 6) (Int32.toNatClampNeg x2_4) (s_5.2 6 (Int32.toNatClampNeg (x2_4 + 1))))) 7 (upd (s_5.2 7) (Int32.toNatClampNeg x2_4) (s_5.2 7 (Int32.toNatClampNeg (x2_4 + 1)))))))) (wM_a7 cI q _ _) (fun H locs hC => ?_)
        have hw := hw.2
        refine lv_aload_n hx hb dX6_untie_82 rfl (lv_at hl 0 rfl) ?_
        refine cx_get (v := .ref (q 9)) hx hb hts iX6 hown hK hC 0 rfl rfl 17 (by decide) u6 rfl rfl dX6_untie_83 ?_
        refine lv_iload_n hx hb dX6_untie_86 rfl (lv_at hl 1 rfl) ?_
        refine lv_aload_n hx hb dX6_untie_87 rfl (lv_at hl 0 rfl) ?_
        refine cx_get (v := .ref (q 9)) hx hb hts iX6 hown hK hC 0 rfl rfl 17 (by decide) u6 rfl rfl dX6_untie_88 ?_
        refine lv_iload_n hx hb dX6_untie_91 rfl (lv_at hl 1 rfl) ?_
        refine lv_iconst (v := 1) hx hb dX6_untie_92 (by decide) ?_
        refine lv_iadd hx hb dX6_untie_93 ?_
        refine cx_iald (f := s_5.2 8) hx hb hK hC 9 rfl hw.1 dX6_untie_94 ?_
        have hw := hw.2
        refine cx_iast (f := s_5.2 8) hx hb hK hC 9 rfl hw.1 dX6_untie_95 (ws' := (wM cI q (s_5.1, (va_up (va_up (va_up (va_up s_5.2 5 (upd (s_5.2 5) (Int32.toNatClampNeg x2_4) (s_5.2 5 (Int32.toNatClampNeg (x2_4 + 1))))) 6 (upd (s_5.2 6) (Int32.toNatClampNeg x2_4) (s_5.2 6 (Int32.toNatClampNeg (x2_4 + 1))))) 7 (upd (s_5.2 7) (Int32.toNatClampNeg x2_4) (s_5.2 7 (Int32.toNatClampNeg (x2_4 + 1))))) 8 (upd (s_5.2 8) (Int32.toNatClampNeg x2_4) (s_5.2 8 (Int32.toNatClampNeg (x2_4 + 1)))))))) (wM_a8 cI q _ _) (fun H locs hC => ?_)
        have hw := hw.2
        refine lv_aload_n hx hb dX6_untie_96 rfl (lv_at hl 0 rfl) ?_
        refine cx_get (v := .ref (q 10)) hx hb hts iX6 hown hK hC 0 rfl rfl 18 (by decide) u7 rfl rfl dX6_untie_97 ?_
        refine lv_iload_n hx hb dX6_untie_100 rfl (lv_at hl 1 rfl) ?_
        refine lv_aload_n hx hb dX6_untie_101 rfl (lv_at hl 0 rfl) ?_
        refine cx_get (v := .ref (q 10)) hx hb hts iX6 hown hK hC 0 rfl rfl 18 (by decide) u7 rfl rfl dX6_untie_102 ?_
        refine lv_iload_n hx hb dX6_untie_105 rfl (lv_at hl 1 rfl) ?_
        refine lv_iconst (v := 1) hx hb dX6_untie_106 (by decide) ?_
        refine lv_iadd hx hb dX6_untie_107 ?_
        refine cx_iald (f := s_5.2 9) hx hb hK hC 10 rfl hw.1 dX6_untie_108 ?_
        have hw := hw.2
        refine cx_iast (f := s_5.2 9) hx hb hK hC 10 rfl hw.1 dX6_untie_109 (ws' := (wM cI q (s_5.1, (va_up (va_up (va_up (va_up (va_up s_5.2 5 (upd (s_5.2 5) (Int32.toNatClampNeg x2_4) (s_5.2 5 (Int32.toNatClampNeg (x2_4 + 1))))) 6 (upd (s_5.2 6) (Int32.toNatClampNeg x2_4) (s_5.2 6 (Int32.toNatClampNeg (x2_4 + 1))))) 7 (upd (s_5.2 7) (Int32.toNatClampNeg x2_4) (s_5.2 7 (Int32.toNatClampNeg (x2_4 + 1))))) 8 (upd (s_5.2 8) (Int32.toNatClampNeg x2_4) (s_5.2 8 (Int32.toNatClampNeg (x2_4 + 1))))) 9 (upd (s_5.2 9) (Int32.toNatClampNeg x2_4) (s_5.2 9 (Int32.toNatClampNeg (x2_4 + 1)))))))) (wM_a9 cI q _ _) (fun H locs hC => ?_)
        have hw := hw.2
        refine lv_iinc (v := (x2_4 + 1)) (lv' := [(2, .int (x2_4 + 1)), (0, .ref (q 0))]) hx hb dX6_untie_110 hl (k := 1) rfl rfl (by decide) rfl (fun ls hl => ?_)
        refine lv_goto (tgt := 32) hx hb dX6_untie_113 (by decide) ?_
        exact ih (x2_4 + 1) (s_5.1, (va_up (va_up (va_up (va_up (va_up s_5.2 5 (upd (s_5.2 5) (Int32.toNatClampNeg x2_4) (s_5.2 5 (Int32.toNatClampNeg (x2_4 + 1))))) 6 (upd (s_5.2 6) (Int32.toNatClampNeg x2_4) (s_5.2 6 (Int32.toNatClampNeg (x2_4 + 1))))) 7 (upd (s_5.2 7) (Int32.toNatClampNeg x2_4) (s_5.2 7 (Int32.toNatClampNeg (x2_4 + 1))))) 8 (upd (s_5.2 8) (Int32.toNatClampNeg x2_4) (s_5.2 8 (Int32.toNatClampNeg (x2_4 + 1))))) 9 (upd (s_5.2 9) (Int32.toNatClampNeg x2_4) (s_5.2 9 (Int32.toNatClampNeg (x2_4 + 1)))))) _ _ _ hw hC (lv_sub hl [1, 0] rfl)
  refine lv_aload_n hx hb dX6_untie_0 rfl (lv_at hl 0 rfl) ?_
  refine lv_iconst (v := 0) hx hb dX6_untie_1 (by decide) ?_
  refine cx_put (v := .int 0) hx hb hts iX6 tyX6 tyX6_ok nmX6 hown hK hC 0 rfl rfl 0 (by decide) u1 rfl rfl (tyX6_ok 0 (by decide)) rfl rfl (Nat.le_of_ble_eq_true rfl) dX6_untie_2 (ws' := (wM cI q ((va_up σ.1 0 0), σ.2))) (wM_i0 cI q _ _) (fun H locs hC => ?_)
  refine lv_aload_n hx hb dX6_untie_5 rfl (lv_at hl 0 rfl) ?_
  refine lv_iload_n hx hb dX6_untie_6 rfl (lv_at hl 1 rfl) ?_
  refine cx_callVi0 (As := [.int x1]) (rest := []) ⟨hx, hb, hml, hown, hts⟩ (c_X6_tieAt l D cI q _ ((va_up σ.1 0 0), σ.2) x1 _ hw) (cwV 1 hts gX6_untie_X6_tieAt rfl rfl rfl (by decide +kernel) ⟨Nat.le_of_ble_eq_true rfl, Nat.le_of_ble_eq_true rfl⟩) hK hC hA 0 rfl rfl rfl rfl hl.1 rfl (Nat.le_of_ble_eq_true rfl) dX6_untie_7 ⟨Nat.zero_le _, Nat.zero_le _⟩ (fun r_1 u_2 H locs hw hC => ?_)
  refine lv_istore_n (lv' := [(2, .int r_1), (0, .ref (q 0)), (1, .int x1)]) hx hb dX6_untie_10 rfl hl (by decide) rfl (fun ls hl => ?_)
  refine lv_iload_n hx hb dX6_untie_11 rfl (lv_at hl 0 rfl) ?_
  refine lv_iconst (v := (-1)) hx hb dX6_untie_12 (by decide) ?_
  refine lv_icmp_ne (tgt := 22) hx hb dX6_untie_13 (by decide) (fun c_3 => ?_) (fun c_3 => ?_)
  · have hw := hw.1 c_3
    refine lv_aload_n hx hb dX6_untie_22 rfl (lv_at hl 1 rfl) ?_
    refine lv_dup hx hb dX6_untie_23 rfl ?_
    refine cx_get (v := .int (u_2.1 5)) hx hb hts iX6 hown hK hC 0 rfl rfl 5 (by decide) u2 rfl rfl dX6_untie_24 ?_
    refine lv_iconst (v := 1) hx hb dX6_untie_27 (by decide) ?_
    refine lv_isub hx hb dX6_untie_28 ?_
    refine cx_put (v := .int ((u_2.1 5) - 1)) hx hb hts iX6 tyX6 tyX6_ok nmX6 hown hK hC 0 rfl rfl 5 (by decide) u2 rfl rfl (tyX6_ok 5 (by decide)) rfl rfl (Nat.le_of_ble_eq_true rfl) dX6_untie_29 (ws' := (wM cI q ((va_up u_2.1 5 ((u_2.1 5) - 1)), u_2.2))) (wM_i5 cI q _ _) (fun H locs hC => ?_)
    obtain ⟨n, hw⟩ := hw
    refine L32  _ (fun x2_7 s_8 H locs ls hw hC hl => ?_) n r_1 ((va_up u_2.1 5 ((u_2.1 5) - 1)), u_2.2) _ _ _ hw hC (lv_sub hl [1, 0] rfl)
    refine lv_aload_n hx hb dX6_untie_116 rfl (lv_at hl 0 rfl) ?_
    refine cx_callVi0 (As := []) (rest := []) ⟨hx, hb, hml, hown, hts⟩ (c_X6_granted l D cI q _ s_8  _ hw) (cwV 0 hts gX6_untie_X6_granted rfl rfl rfl (by decide +kernel) ⟨Nat.le_of_ble_eq_true rfl, Nat.le_of_ble_eq_true rfl⟩) hK hC hA 0 rfl rfl rfl rfl hl.1 rfl (Nat.le_of_ble_eq_true rfl) dX6_untie_117 ⟨Nat.zero_le _, Nat.zero_le _⟩ (fun r_9 u_10 H locs hw hC => ?_)
    exact cx_ret_z (u := u_10) hx hb hr hlocks hK hC hw.1 hw.2 dX6_untie_120
  · have hw := hw.2 c_3
    refine lv_aload_n hx hb dX6_untie_16 rfl (lv_at hl 1 rfl) ?_
    refine lv_iconst (v := 1) hx hb dX6_untie_17 (by decide) ?_
    refine cx_callVi0 (As := [.int 1]) (rest := []) ⟨hx, hb, hml, hown, hts⟩ (c_X6_denied l D cI q _ u_2 1 _ hw) (cwV 1 hts gX6_untie_X6_denied rfl rfl rfl (by decide +kernel) ⟨Nat.le_of_ble_eq_true rfl, Nat.le_of_ble_eq_true rfl⟩) hK hC hA 0 rfl rfl rfl rfl hl.1 rfl (Nat.le_of_ble_eq_true rfl) dX6_untie_18 ⟨Nat.zero_le _, Nat.zero_le _⟩ (fun r_12 u_13 H locs hw hC => ?_)
    exact cx_ret_z (u := u_13) hx hb hr hlocks hK hC hw.1 hw.2 dX6_untie_21

/-! PictureHeapModel.hasPicture(I)Z (X6_hasPicture) -/
set_option maxHeartbeats 1000000 in
set_option maxRecDepth 100000 in
theorem c_X6_hasPicture (l : Launch) (D : va_G) (cI : ClassId) (q : Nat → Nat) (sz : Nat) (σ : St) (x1 : Int32) (post : Int32 → St → Prop) (hw : w_X6_hasPicture σ x1 post) : Ci l yX6_hasPicture wsX6_hasPicture 0 0 D cI (wM cI q σ) sz [.ref (q 0), .int x1] (wM cI q) post := by
  refine mo_i (cc := cX6_hasPicture) (maxL := 4) (ret := (some .boolean)) (by decide) rfl (Nat.le_of_ble_eq_true rfl) ?_
  intro p e s m below meth c hx hb hr hml hts hown hlocks hK A hA hC ls hl
  have hown : s.vm.findClass RX6 = some m.cls := hown
  have hl : lv_has ls 4 [(0, .ref (q 0)), (1, .int x1)] := hl
  have u1 : (Cond.fieldLink RX6 93 "PictureHeapModel" "pictures" "I").before [.ref (q 0), .int x1].toArray s = true := hts _ (List.mem_of_getElem? (i := 1) rfl)
  have u2 : (Cond.fieldLink RX6 20 "PictureHeapModel" "camera" "[I").before [.ref (q 0), .int x1].toArray s = true := hts _ (List.mem_of_getElem? (i := 2) rfl)
  have iX6 : ∀ w ∈ wsX60, w ∈ wsX6_hasPicture := fun _ h => List.mem_cons_of_mem _ (List.mem_append_right _ h)
  have L4 : ∀ (x1_1 : Int32) (K : Int32 → Int32 → St → Prop) (hKK : ∀ (x2_2 : Int32) (x3_3 : Int32) (s_4 : St) (H : Heap) (locs : List Loc) (ls : Array Slot), K x2_2 x3_3 s_4 → Cx D A s.heap (wM cI q s_4) H locs → lv_has ls 4 [(0, .ref (q 0)), (1, .int x1_1), (2, .int x2_2), (3, .int x3_3)] → W p l e (Rm 0 0) s m [.ref (q 0), .int x1].toArray below meth c H locs 0 0 (QI below D cI A (wM cI q) post [.ref (q 0), .int x1].toArray s) (F0 m 38 ls [])) (n : Nat), ∀ (x2_2 : Int32) (x3_3 : Int32) (s_4 : St) (H : Heap) (locs : List Loc) (ls : Array Slot), w_X6_hasPicture_L4 x1_1 post K n x2_2 x3_3 s_4 → Cx D A s.heap (wM cI q s_4) H locs → lv_has ls 4 [(0, .ref (q 0)), (1, .int x1_1), (2, .int x2_2), (3, .int x3_3)] → W p l e (Rm 0 0) s m [.ref (q 0), .int x1].toArray below meth c H locs 0 0 (QI below D cI A (wM cI q) post [.ref (q 0), .int x1].toArray s) (F0 m 4 ls []) := by
    intro x1_1 K hKK n
    induction n with
    | zero => intro x2_2 x3_3 s_4 H locs ls hw; exact hw.elim
    | succ n ih =>
      intro x2_2 x3_3 s_4 H locs ls hw hC hl
      refine lv_iload_n hx hb dX6_hasPicture_4 rfl (lv_at hl 3 rfl) ?_
      refine lv_aload_n hx hb dX6_hasPicture_5 rfl (lv_at hl 0 rfl) ?_
      refine cx_get (v := .int (s_4.1 4)) hx hb hts iX6 hown hK hC 0 rfl rfl 4 (by decide) u1 rfl rfl dX6_hasPicture_6 ?_
      refine lv_icmp_ge (tgt := 38) hx hb dX6_hasPicture_9 (by decide) (fun c_5 => ?_) (fun c_5 => ?_)
      · have hw := hw.1 c_5
        exact hKK x2_2 x3_3 s_4 _ _ _ hw hC (lv_sub hl [0, 1, 2, 3] rfl)
      · have hw := hw.2 c_5
        refine lv_iload_n hx hb dX6_hasPicture_12 rfl (lv_at hl 2 rfl) ?_
        refine lv_if_ne (tgt := 26) hx hb dX6_hasPicture_13 (by decide) (fun c_6 => ?_) (fun c_6 => ?_)
        · have hw := hw.1 c_6
          refine lv_iconst (v := 1) hx hb dX6_hasPicture_26 (by decide) ?_
          refine lv_goto (tgt := 31) hx hb dX6_hasPicture_27 (by decide) ?_
          refine lv_istore_n (lv' := [(2, .int 1), (0, .ref (q 0)), (1, .int x1_1), (3, .int x3_3)]) hx hb dX6_hasPicture_31 rfl hl (by decide) rfl (fun ls hl => ?_)
          refine lv_iinc (v := (x3_3 + 1)) (lv' := [(3, .int (x3_3 + 1)), (2, .int 1), (0, .ref (q 0)), (1, .int x1_1)]) hx hb dX6_hasPicture_32 hl (k := 3) rfl rfl (by decide) rfl (fun ls hl => ?_)
          refine lv_goto (tgt := 4) hx hb dX6_hasPicture_35 (by decide) ?_
          exact ih 1 (x3_3 + 1) s_4 _ _ _ hw hC (lv_sub hl [2, 3, 1, 0] rfl)
        · have hw := hw.2 c_6
          refine lv_aload_n hx hb dX6_hasPicture_16 rfl (lv_at hl 0 rfl) ?_
          refine cx_get (v := .ref (q 2)) hx hb hts iX6 hown hK hC 0 rfl rfl 10 (by decide) u2 rfl rfl dX6_hasPicture_17 ?_
          refine lv_iload_n hx hb dX6_hasPicture_20 rfl (lv_at hl 3 rfl) ?_
          refine cx_iald (f := s_4.2 1) hx hb hK hC 2 rfl hw.1 dX6_hasPicture_21 ?_
          have hw := hw.2
          refine lv_iload_n hx hb dX6_hasPicture_22 rfl (lv_at hl 1 rfl) ?_
          refine lv_icmp_ne (tgt := 30) hx hb dX6_hasPicture_23 (by decide) (fun c_7 => ?_) (fun c_7 => ?_)
          · have hw := hw.1 c_7
            refine lv_iconst (v := 0) hx hb dX6_hasPicture_30 (by decide) ?_
            refine lv_istore_n (lv' := [(2, .int 0), (0, .ref (q 0)), (1, .int x1_1), (3, .int x3_3)]) hx hb dX6_hasPicture_31 rfl hl (by decide) rfl (fun ls hl => ?_)
            refine lv_iinc (v := (x3_3 + 1)) (lv' := [(3, .int (x3_3 + 1)), (2, .int 0), (0, .ref (q 0)), (1, .int x1_1)]) hx hb dX6_hasPicture_32 hl (k := 3) rfl rfl (by decide) rfl (fun ls hl => ?_)
            refine lv_goto (tgt := 4) hx hb dX6_hasPicture_35 (by decide) ?_
            exact ih 0 (x3_3 + 1) s_4 _ _ _ hw hC (lv_sub hl [2, 3, 1, 0] rfl)
          · have hw := hw.2 c_7
            refine lv_iconst (v := 1) hx hb dX6_hasPicture_26 (by decide) ?_
            refine lv_goto (tgt := 31) hx hb dX6_hasPicture_27 (by decide) ?_
            refine lv_istore_n (lv' := [(2, .int 1), (0, .ref (q 0)), (1, .int x1_1), (3, .int x3_3)]) hx hb dX6_hasPicture_31 rfl hl (by decide) rfl (fun ls hl => ?_)
            refine lv_iinc (v := (x3_3 + 1)) (lv' := [(3, .int (x3_3 + 1)), (2, .int 1), (0, .ref (q 0)), (1, .int x1_1)]) hx hb dX6_hasPicture_32 hl (k := 3) rfl rfl (by decide) rfl (fun ls hl => ?_)
            refine lv_goto (tgt := 4) hx hb dX6_hasPicture_35 (by decide) ?_
            exact ih 1 (x3_3 + 1) s_4 _ _ _ hw hC (lv_sub hl [2, 3, 1, 0] rfl)
  refine lv_iconst (v := 0) hx hb dX6_hasPicture_0 (by decide) ?_
  refine lv_istore_n (lv' := [(2, .int 0), (0, .ref (q 0)), (1, .int x1)]) hx hb dX6_hasPicture_1 rfl hl (by decide) rfl (fun ls hl => ?_)
  refine lv_iconst (v := 0) hx hb dX6_hasPicture_2 (by decide) ?_
  refine lv_istore_n (lv' := [(3, .int 0), (2, .int 0), (0, .ref (q 0)), (1, .int x1)]) hx hb dX6_hasPicture_3 rfl hl (by decide) rfl (fun ls hl => ?_)
  obtain ⟨n, hw⟩ := hw
  refine L4 x1 _ (fun x2_8 x3_9 s_10 H locs ls hw hC hl => ?_) n 0 0 σ _ _ _ hw hC (lv_sub hl [2, 3, 1, 0] rfl)
  refine lv_iload_n hx hb dX6_hasPicture_38 rfl (lv_at hl 2 rfl) ?_
  exact cx_ret_z (u := s_10) hx hb hr hlocks hK hC hw.1 hw.2 dX6_hasPicture_39

/-! PictureHeapModel.first([I)V (X6_first_a11) -/
set_option maxHeartbeats 1000000 in
set_option maxRecDepth 100000 in
theorem c_X6_first_a11 (l : Launch) (D : va_G) (cI : ClassId) (q : Nat → Nat) (sz : Nat) (σ : St) (post : St → Prop) (hw : w_X6_first_a11 σ post) : Cv l yX6_first wsX6_first 0 0 D cI (wM cI q σ) sz [.ref (q 0), .ref (q 12)] (wM cI q) post := by
  refine mo_v (cc := cX6_first) (maxL := 4) (ret := none) (by decide) rfl (Nat.le_of_ble_eq_true rfl) ?_
  intro p e s m below meth c hx hb hr hml hts hown hlocks hK A hA hC ls hl
  have hown : s.vm.findClass RX6 = some m.cls := hown
  have hl : lv_has ls 4 [(0, .ref (q 0)), (1, .ref (q 12))] := hl
  have u1 : (Cond.constant RX6 126 (200000)).before [.ref (q 0), .ref (q 12)].toArray s = true := hts _ (List.mem_of_getElem? (i := 1) rfl)
  have u2 : (Cond.constant RX6 127 (400000)).before [.ref (q 0), .ref (q 12)].toArray s = true := hts _ (List.mem_of_getElem? (i := 2) rfl)
  have L10 : ∀ (x2_4 : Int32) (K : Int32 → St → Prop) (hKK : ∀ (x3_5 : Int32) (s_6 : St) (H : Heap) (locs : List Loc) (ls : Array Slot), K x3_5 s_6 → Cx D A s.heap (wM cI q s_6) H locs → lv_has ls 4 [(1, .ref (q 12)), (2, .int x2_4), (3, .int x3_5)] → W p l e (Rm 0 0) s m [.ref (q 0), .ref (q 12)].toArray below meth c H locs 0 0 (QV below D cI A (wM cI q) post [.ref (q 0), .ref (q 12)].toArray s) (F0 m 54 ls [])) (n : Nat), ∀ (x3_5 : Int32) (s_6 : St) (H : Heap) (locs : List Loc) (ls : Array Slot), w_X6_first_a11_L10 x2_4 post K n x3_5 s_6 → Cx D A s.heap (wM cI q s_6) H locs → lv_has ls 4 [(1, .ref (q 12)), (2, .int x2_4), (3, .int x3_5)] → W p l e (Rm 0 0) s m [.ref (q 0), .ref (q 12)].toArray below meth c H locs 0 0 (QV below D cI A (wM cI q) post [.ref (q 0), .ref (q 12)].toArray s) (F0 m 10 ls []) := by
    intro x2_4 K hKK n
    induction n with
    | zero => intro x3_5 s_6 H locs ls hw; exact hw.elim
    | succ n ih =>
      intro x3_5 s_6 H locs ls hw hC hl
      refine lv_iload_n hx hb dX6_first_10 rfl (lv_at hl 2 rfl) ?_
      refine lv_bipush (v := 8) hx hb dX6_first_11 (by decide) ?_
      refine lv_icmp_ge (tgt := 54) hx hb dX6_first_13 (by decide) (fun c_7 => ?_) (fun c_7 => ?_)
      · have hw := hw.1 c_7
        exact hKK x3_5 s_6 _ _ _ hw hC (lv_sub hl [0, 1, 2] rfl)
      · have hw := hw.2 c_7
        refine lv_aload_n hx hb dX6_first_16 rfl (lv_at hl 0 rfl) ?_
        refine lv_bipush (v := 8) hx hb dX6_first_17 (by decide) ?_
        refine lv_iload_n hx hb dX6_first_19 rfl (lv_at hl 1 rfl) ?_
        refine lv_imul hx hb dX6_first_20 ?_
        refine lv_iload_n hx hb dX6_first_21 rfl (lv_at hl 2 rfl) ?_
        refine lv_iadd hx hb dX6_first_22 ?_
        refine lv_iload_n hx hb dX6_first_23 rfl (lv_at hl 1 rfl) ?_
        refine lv_iload_n hx hb dX6_first_24 rfl (lv_at hl 2 rfl) ?_
        refine lv_icmp_ne (tgt := 32) hx hb dX6_first_25 (by decide) (fun c_8 => ?_) (fun c_8 => ?_)
        · have hw := hw.1 c_8
          refine lv_iload_n hx hb dX6_first_32 rfl (lv_at hl 1 rfl) ?_
          refine lv_if_eq (tgt := 40) hx hb dX6_first_33 (by decide) (fun c_9 => ?_) (fun c_9 => ?_)
          · have hw := hw.1 c_9
            refine lv_ldc (v := 200000) hx hb hown u1 dX6_first_40 ?_
            refine lv_goto (tgt := 47) hx hb dX6_first_42 (by decide) ?_
            refine cx_iast (f := s_6.2 11) hx hb hK hC 12 rfl hw.1 dX6_first_47 (ws' := (wM cI q (s_6.1, (va_up s_6.2 11 (upd (s_6.2 11) (Int32.toNatClampNeg ((8 * x2_4) + x3_5)) 200000))))) (wM_a11 cI q _ _) (fun H locs hC => ?_)
            have hw := hw.2
            refine lv_iinc (v := (x3_5 + 1)) (lv' := [(3, .int (x3_5 + 1)), (1, .ref (q 12)), (2, .int x2_4)]) hx hb dX6_first_48 hl (k := 2) rfl rfl (by decide) rfl (fun ls hl => ?_)
            refine lv_goto (tgt := 10) hx hb dX6_first_51 (by decide) ?_
            exact ih (x3_5 + 1) (s_6.1, (va_up s_6.2 11 (upd (s_6.2 11) (Int32.toNatClampNeg ((8 * x2_4) + x3_5)) 200000))) _ _ _ hw hC (lv_sub hl [1, 2, 0] rfl)
          · have hw := hw.2 c_9
            refine lv_iload_n hx hb dX6_first_36 rfl (lv_at hl 2 rfl) ?_
            refine lv_if_ne (tgt := 45) hx hb dX6_first_37 (by decide) (fun c_10 => ?_) (fun c_10 => ?_)
            · have hw := hw.1 c_10
              refine lv_ldc (v := 400000) hx hb hown u2 dX6_first_45 ?_
              refine cx_iast (f := s_6.2 11) hx hb hK hC 12 rfl hw.1 dX6_first_47 (ws' := (wM cI q (s_6.1, (va_up s_6.2 11 (upd (s_6.2 11) (Int32.toNatClampNeg ((8 * x2_4) + x3_5)) 400000))))) (wM_a11 cI q _ _) (fun H locs hC => ?_)
              have hw := hw.2
              refine lv_iinc (v := (x3_5 + 1)) (lv' := [(3, .int (x3_5 + 1)), (1, .ref (q 12)), (2, .int x2_4)]) hx hb dX6_first_48 hl (k := 2) rfl rfl (by decide) rfl (fun ls hl => ?_)
              refine lv_goto (tgt := 10) hx hb dX6_first_51 (by decide) ?_
              exact ih (x3_5 + 1) (s_6.1, (va_up s_6.2 11 (upd (s_6.2 11) (Int32.toNatClampNeg ((8 * x2_4) + x3_5)) 400000))) _ _ _ hw hC (lv_sub hl [1, 2, 0] rfl)
            · have hw := hw.2 c_10
              refine lv_ldc (v := 200000) hx hb hown u1 dX6_first_40 ?_
              refine lv_goto (tgt := 47) hx hb dX6_first_42 (by decide) ?_
              refine cx_iast (f := s_6.2 11) hx hb hK hC 12 rfl hw.1 dX6_first_47 (ws' := (wM cI q (s_6.1, (va_up s_6.2 11 (upd (s_6.2 11) (Int32.toNatClampNeg ((8 * x2_4) + x3_5)) 200000))))) (wM_a11 cI q _ _) (fun H locs hC => ?_)
              have hw := hw.2
              refine lv_iinc (v := (x3_5 + 1)) (lv' := [(3, .int (x3_5 + 1)), (1, .ref (q 12)), (2, .int x2_4)]) hx hb dX6_first_48 hl (k := 2) rfl rfl (by decide) rfl (fun ls hl => ?_)
              refine lv_goto (tgt := 10) hx hb dX6_first_51 (by decide) ?_
              exact ih (x3_5 + 1) (s_6.1, (va_up s_6.2 11 (upd (s_6.2 11) (Int32.toNatClampNeg ((8 * x2_4) + x3_5)) 200000))) _ _ _ hw hC (lv_sub hl [1, 2, 0] rfl)
        · have hw := hw.2 c_8
          refine lv_iconst (v := 0) hx hb dX6_first_28 (by decide) ?_
          refine lv_goto (tgt := 47) hx hb dX6_first_29 (by decide) ?_
          refine cx_iast (f := s_6.2 11) hx hb hK hC 12 rfl hw.1 dX6_first_47 (ws' := (wM cI q (s_6.1, (va_up s_6.2 11 (upd (s_6.2 11) (Int32.toNatClampNeg ((8 * x2_4) + x3_5)) 0))))) (wM_a11 cI q _ _) (fun H locs hC => ?_)
          have hw := hw.2
          refine lv_iinc (v := (x3_5 + 1)) (lv' := [(3, .int (x3_5 + 1)), (1, .ref (q 12)), (2, .int x2_4)]) hx hb dX6_first_48 hl (k := 2) rfl rfl (by decide) rfl (fun ls hl => ?_)
          refine lv_goto (tgt := 10) hx hb dX6_first_51 (by decide) ?_
          exact ih (x3_5 + 1) (s_6.1, (va_up s_6.2 11 (upd (s_6.2 11) (Int32.toNatClampNeg ((8 * x2_4) + x3_5)) 0))) _ _ _ hw hC (lv_sub hl [1, 2, 0] rfl)
  have L2 : ∀ (K : Int32 → St → Prop) (hKK : ∀ (x2_1 : Int32) (s_2 : St) (H : Heap) (locs : List Loc) (ls : Array Slot), K x2_1 s_2 → Cx D A s.heap (wM cI q s_2) H locs → lv_has ls 4 [(1, .ref (q 12)), (2, .int x2_1)] → W p l e (Rm 0 0) s m [.ref (q 0), .ref (q 12)].toArray below meth c H locs 0 0 (QV below D cI A (wM cI q) post [.ref (q 0), .ref (q 12)].toArray s) (F0 m 60 ls [])) (n : Nat), ∀ (x2_1 : Int32) (s_2 : St) (H : Heap) (locs : List Loc) (ls : Array Slot), w_X6_first_a11_L2 post K n x2_1 s_2 → Cx D A s.heap (wM cI q s_2) H locs → lv_has ls 4 [(1, .ref (q 12)), (2, .int x2_1)] → W p l e (Rm 0 0) s m [.ref (q 0), .ref (q 12)].toArray below meth c H locs 0 0 (QV below D cI A (wM cI q) post [.ref (q 0), .ref (q 12)].toArray s) (F0 m 2 ls []) := by
    intro  K hKK n
    induction n with
    | zero => intro x2_1 s_2 H locs ls hw; exact hw.elim
    | succ n ih =>
      intro x2_1 s_2 H locs ls hw hC hl
      refine lv_iload_n hx hb dX6_first_2 rfl (lv_at hl 1 rfl) ?_
      refine lv_bipush (v := 8) hx hb dX6_first_3 (by decide) ?_
      refine lv_icmp_ge (tgt := 60) hx hb dX6_first_5 (by decide) (fun c_3 => ?_) (fun c_3 => ?_)
      · have hw := hw.1 c_3
        exact hKK x2_1 s_2 _ _ _ hw hC (lv_sub hl [0, 1] rfl)
      · have hw := hw.2 c_3
        refine lv_iconst (v := 0) hx hb dX6_first_8 (by decide) ?_
        refine lv_istore_n (lv' := [(3, .int 0), (1, .ref (q 12)), (2, .int x2_1)]) hx hb dX6_first_9 rfl hl (by decide) rfl (fun ls hl => ?_)
        obtain ⟨n, hw⟩ := hw
        refine L10 x2_1 _ (fun x3_11 s_12 H locs ls hw hC hl => ?_) n 0 s_2 _ _ _ hw hC (lv_sub hl [1, 2, 0] rfl)
        refine lv_iinc (v := (x2_1 + 1)) (lv' := [(2, .int (x2_1 + 1)), (1, .ref (q 12)), (3, .int x3_11)]) hx hb dX6_first_54 hl (k := 1) rfl rfl (by decide) rfl (fun ls hl => ?_)
        refine lv_goto (tgt := 2) hx hb dX6_first_57 (by decide) ?_
        exact ih (x2_1 + 1) s_12 _ _ _ hw hC (lv_sub hl [1, 0] rfl)
  refine lv_iconst (v := 0) hx hb dX6_first_0 (by decide) ?_
  refine lv_istore_n (lv' := [(2, .int 0), (0, .ref (q 0)), (1, .ref (q 12))]) hx hb dX6_first_1 rfl hl (by decide) rfl (fun ls hl => ?_)
  obtain ⟨n, hw⟩ := hw
  refine L2  _ (fun x2_14 s_15 H locs ls hw hC hl => ?_) n 0 σ _ _ _ hw hC (lv_sub hl [2, 0] rfl)
  exact cx_ret_v (u := s_15) hx hb hr hlocks hK hC hw dX6_first_60

/-! PictureHeapModel.bounds([II)V (X6_bounds_a11) -/
set_option maxHeartbeats 1000000 in
set_option maxRecDepth 100000 in
theorem c_X6_bounds_a11 (l : Launch) (D : va_G) (cI : ClassId) (q : Nat → Nat) (sz : Nat) (σ : St) (x2 : Int32) (post : St → Prop) (hw : w_X6_bounds_a11 σ x2 post) : Cv l yX6_bounds wsX6_bounds 2 44 D cI (wM cI q σ) sz [.ref (q 0), .ref (q 12), .int x2] (wM cI q) post := by
  refine mo_v (cc := cX6_bounds) (maxL := 6) (ret := none) (by decide) rfl (Nat.le_of_ble_eq_true rfl) ?_
  intro p e s m below meth c hx hb hr hml hts hown hlocks hK A hA hC ls hl
  have hown : s.vm.findClass RX6 = some m.cls := hown
  have hl : lv_has ls 6 [(0, .ref (q 0)), (1, .ref (q 12)), (2, .int x2)] := hl
  have u1 : (Cond.fieldLink RX6 35 "PictureHeapModel" "tieKind" "[I").before [.ref (q 0), .ref (q 12), .int x2].toArray s = true := hts _ (List.mem_of_getElem? (i := 1) rfl)
  have u2 : (Cond.fieldLink RX6 20 "PictureHeapModel" "camera" "[I").before [.ref (q 0), .ref (q 12), .int x2].toArray s = true := hts _ (List.mem_of_getElem? (i := 2) rfl)
  have u3 : (Cond.fieldLink RX6 38 "PictureHeapModel" "one" "[I").before [.ref (q 0), .ref (q 12), .int x2].toArray s = true := hts _ (List.mem_of_getElem? (i := 3) rfl)
  have u4 : (Cond.fieldLink RX6 41 "PictureHeapModel" "two" "[I").before [.ref (q 0), .ref (q 12), .int x2].toArray s = true := hts _ (List.mem_of_getElem? (i := 4) rfl)
  have u5 : (Cond.fieldLink RX6 23 "PictureHeapModel" "clock" "[I").before [.ref (q 0), .ref (q 12), .int x2].toArray s = true := hts _ (List.mem_of_getElem? (i := 5) rfl)
  have u6 : (Cond.fieldLink RX6 44 "PictureHeapModel" "three" "[I").before [.ref (q 0), .ref (q 12), .int x2].toArray s = true := hts _ (List.mem_of_getElem? (i := 6) rfl)
  have iX6 : ∀ w ∈ wsX60, w ∈ wsX6_bounds := fun _ h => List.mem_cons_of_mem _ (List.mem_append_right _ h)
  refine lv_aload_n hx hb dX6_bounds_0 rfl (lv_at hl 0 rfl) ?_
  refine cx_get (v := .ref (q 7)) hx hb hts iX6 hown hK hC 0 rfl rfl 15 (by decide) u1 rfl rfl dX6_bounds_1 ?_
  refine lv_iload_n hx hb dX6_bounds_4 rfl (lv_at hl 2 rfl) ?_
  refine cx_iald (f := σ.2 6) hx hb hK hC 7 rfl hw.1 dX6_bounds_5 ?_
  have hw := hw.2
  rcases sw_l (σ.2 6 (Int32.toNatClampNeg x2)) with c0 | c0 | c0
  · refine lv_lookup (off := 26) (tgt := 32) hx hb dX6_bounds_6 (by decide) (by rw [c0]; rfl) (by decide) ?_
    have hw := hw.1 c0
    refine lv_aload_n hx hb dX6_bounds_32 rfl (lv_at hl 0 rfl) ?_
    refine cx_get (v := .ref (q 2)) hx hb hts iX6 hown hK hC 0 rfl rfl 10 (by decide) u2 rfl rfl dX6_bounds_33 ?_
    refine lv_aload_n hx hb dX6_bounds_36 rfl (lv_at hl 0 rfl) ?_
    refine cx_get (v := .ref (q 8)) hx hb hts iX6 hown hK hC 0 rfl rfl 16 (by decide) u3 rfl rfl dX6_bounds_37 ?_
    refine lv_iload_n hx hb dX6_bounds_40 rfl (lv_at hl 2 rfl) ?_
    refine cx_iald (f := σ.2 7) hx hb hK hC 8 rfl hw.1 dX6_bounds_41 ?_
    have hw := hw.2
    refine cx_iald (f := σ.2 1) hx hb hK hC 2 rfl hw.1 dX6_bounds_42 ?_
    have hw := hw.2
    refine lv_istore_n (lv' := [(3, .int (σ.2 1 (Int32.toNatClampNeg (σ.2 7 (Int32.toNatClampNeg x2))))), (0, .ref (q 0)), (1, .ref (q 12)), (2, .int x2)]) hx hb dX6_bounds_43 rfl hl (by decide) rfl (fun ls hl => ?_)
    refine lv_aload_n hx hb dX6_bounds_44 rfl (lv_at hl 1 rfl) ?_
    refine cx_get (v := .ref (q 2)) hx hb hts iX6 hown hK hC 0 rfl rfl 10 (by decide) u2 rfl rfl dX6_bounds_45 ?_
    refine lv_aload_n hx hb dX6_bounds_48 rfl (lv_at hl 1 rfl) ?_
    refine cx_get (v := .ref (q 9)) hx hb hts iX6 hown hK hC 0 rfl rfl 17 (by decide) u4 rfl rfl dX6_bounds_49 ?_
    refine lv_iload_n hx hb dX6_bounds_52 rfl (lv_at hl 3 rfl) ?_
    refine cx_iald (f := σ.2 8) hx hb hK hC 9 rfl hw.1 dX6_bounds_53 ?_
    have hw := hw.2
    refine cx_iald (f := σ.2 1) hx hb hK hC 2 rfl hw.1 dX6_bounds_54 ?_
    have hw := hw.2
    refine lv_istore (lv' := [(4, .int (σ.2 1 (Int32.toNatClampNeg (σ.2 8 (Int32.toNatClampNeg x2))))), (3, .int (σ.2 1 (Int32.toNatClampNeg (σ.2 7 (Int32.toNatClampNeg x2))))), (0, .ref (q 0)), (1, .ref (q 12)), (2, .int x2)]) hx hb dX6_bounds_55 hl (by decide) rfl (fun ls hl => ?_)
    refine lv_aload_n hx hb dX6_bounds_57 rfl (lv_at hl 2 rfl) ?_
    refine cx_get (v := .ref (q 3)) hx hb hts iX6 hown hK hC 0 rfl rfl 11 (by decide) u5 rfl rfl dX6_bounds_58 ?_
    refine lv_aload_n hx hb dX6_bounds_61 rfl (lv_at hl 2 rfl) ?_
    refine cx_get (v := .ref (q 9)) hx hb hts iX6 hown hK hC 0 rfl rfl 17 (by decide) u4 rfl rfl dX6_bounds_62 ?_
    refine lv_iload_n hx hb dX6_bounds_65 rfl (lv_at hl 4 rfl) ?_
    refine cx_iald (f := σ.2 8) hx hb hK hC 9 rfl hw.1 dX6_bounds_66 ?_
    have hw := hw.2
    refine cx_iald (f := σ.2 2) hx hb hK hC 3 rfl hw.1 dX6_bounds_67 ?_
    have hw := hw.2
    refine lv_aload_n hx hb dX6_bounds_68 rfl (lv_at hl 2 rfl) ?_
    refine cx_get (v := .ref (q 3)) hx hb hts iX6 hown hK hC 0 rfl rfl 11 (by decide) u5 rfl rfl dX6_bounds_69 ?_
    refine lv_aload_n hx hb dX6_bounds_72 rfl (lv_at hl 2 rfl) ?_
    refine cx_get (v := .ref (q 8)) hx hb hts iX6 hown hK hC 0 rfl rfl 16 (by decide) u3 rfl rfl dX6_bounds_73 ?_
    refine lv_iload_n hx hb dX6_bounds_76 rfl (lv_at hl 4 rfl) ?_
    refine cx_iald (f := σ.2 7) hx hb hK hC 8 rfl hw.1 dX6_bounds_77 ?_
    have hw := hw.2
    refine cx_iald (f := σ.2 2) hx hb hK hC 3 rfl hw.1 dX6_bounds_78 ?_
    have hw := hw.2
    refine lv_isub hx hb dX6_bounds_79 ?_
    refine lv_istore (lv' := [(5, .int ((σ.2 2 (Int32.toNatClampNeg (σ.2 8 (Int32.toNatClampNeg x2)))) - (σ.2 2 (Int32.toNatClampNeg (σ.2 7 (Int32.toNatClampNeg x2)))))), (4, .int (σ.2 1 (Int32.toNatClampNeg (σ.2 8 (Int32.toNatClampNeg x2))))), (3, .int (σ.2 1 (Int32.toNatClampNeg (σ.2 7 (Int32.toNatClampNeg x2))))), (0, .ref (q 0)), (1, .ref (q 12)), (2, .int x2)]) hx hb dX6_bounds_80 hl (by decide) rfl (fun ls hl => ?_)
    refine lv_aload_n hx hb dX6_bounds_82 rfl (lv_at hl 4 rfl) ?_
    refine lv_iload_n hx hb dX6_bounds_83 rfl (lv_at hl 2 rfl) ?_
    refine lv_iload hx hb dX6_bounds_84 (lv_at hl 1 rfl) ?_
    refine lv_aload_n hx hb dX6_bounds_86 rfl (lv_at hl 3 rfl) ?_
    refine cx_get (v := .ref (q 10)) hx hb hts iX6 hown hK hC 0 rfl rfl 18 (by decide) u6 rfl rfl dX6_bounds_87 ?_
    refine lv_iload_n hx hb dX6_bounds_90 rfl (lv_at hl 5 rfl) ?_
    refine cx_iald (f := σ.2 9) hx hb hK hC 10 rfl hw.1 dX6_bounds_91 ?_
    have hw := hw.2
    refine lv_iload hx hb dX6_bounds_92 (lv_at hl 0 rfl) ?_
    refine lv_iadd hx hb dX6_bounds_94 ?_
    refine cx_callSv (As := [.ref (q 12), .int (σ.2 1 (Int32.toNatClampNeg (σ.2 7 (Int32.toNatClampNeg x2)))), .int (σ.2 1 (Int32.toNatClampNeg (σ.2 8 (Int32.toNatClampNeg x2)))), .int ((σ.2 9 (Int32.toNatClampNeg x2)) + ((σ.2 2 (Int32.toNatClampNeg (σ.2 8 (Int32.toNatClampNeg x2)))) - (σ.2 2 (Int32.toNatClampNeg (σ.2 7 (Int32.toNatClampNeg x2))))))]) (rest := []) (ws' := fun u_2 => (wM cI q (σ.1, (va_up σ.2 11 u_2)))) ⟨hx, hb, hml, hown, hts⟩ (c_X6_least l D cI (q 12) _ (σ.2 11) (σ.2 1 (Int32.toNatClampNeg (σ.2 7 (Int32.toNatClampNeg x2)))) (σ.2 1 (Int32.toNatClampNeg (σ.2 8 (Int32.toNatClampNeg x2)))) ((σ.2 9 (Int32.toNatClampNeg x2)) + ((σ.2 2 (Int32.toNatClampNeg (σ.2 8 (Int32.toNatClampNeg x2)))) - (σ.2 2 (Int32.toNatClampNeg (σ.2 7 (Int32.toNatClampNeg x2)))))) _ hw) (va_cwS 4 hts gX6_bounds_X6_least rfl rfl rfl (by decide +kernel) ⟨Nat.le_of_ble_eq_true rfl, Nat.le_of_ble_eq_true rfl⟩) hK hC hA [12] [0, 1, 2, 3, 4, 5, 6, 7, 8, 9, 10, 11, 13, 14, 15, 16, 17, 18] (by decide) rfl (wr := [_, _, _, _, _, _, _, _, _, _, _, _, _, _, _, _, _, _]) rfl (by decide) (by decide) rfl hl.1 rfl (Nat.le_of_ble_eq_true rfl) dX6_bounds_95 ⟨Nat.zero_le _, Nat.zero_le _⟩ [0, 1, 2, 3, 4, 5, 6, 7, 8, 9, 10, 11, 18, 12, 13, 14, 15, 16, 17] (by decide) (fun _ => rfl) (fun u_2 H locs hw hC => ?_)
    refine lv_aload_n hx hb dX6_bounds_98 rfl (lv_at hl 4 rfl) ?_
    refine lv_iload hx hb dX6_bounds_99 (lv_at hl 1 rfl) ?_
    refine lv_iload_n hx hb dX6_bounds_101 rfl (lv_at hl 2 rfl) ?_
    refine lv_aload_n hx hb dX6_bounds_102 rfl (lv_at hl 3 rfl) ?_
    refine cx_get (v := .ref (q 10)) hx hb hts iX6 hown hK hC 0 rfl rfl 18 (by decide) u6 rfl rfl dX6_bounds_103 ?_
    refine lv_iload_n hx hb dX6_bounds_106 rfl (lv_at hl 5 rfl) ?_
    refine cx_iald (f := σ.2 9) hx hb hK hC 10 rfl hw.1 dX6_bounds_107 ?_
    have hw := hw.2
    refine lv_iload hx hb dX6_bounds_108 (lv_at hl 0 rfl) ?_
    refine lv_isub hx hb dX6_bounds_110 ?_
    refine cx_callSv (As := [.ref (q 12), .int (σ.2 1 (Int32.toNatClampNeg (σ.2 8 (Int32.toNatClampNeg x2)))), .int (σ.2 1 (Int32.toNatClampNeg (σ.2 7 (Int32.toNatClampNeg x2)))), .int ((σ.2 9 (Int32.toNatClampNeg x2)) - ((σ.2 2 (Int32.toNatClampNeg (σ.2 8 (Int32.toNatClampNeg x2)))) - (σ.2 2 (Int32.toNatClampNeg (σ.2 7 (Int32.toNatClampNeg x2))))))]) (rest := []) (ws' := fun u_4 => (wM cI q (σ.1, (va_up (va_up σ.2 11 u_2) 11 u_4)))) ⟨hx, hb, hml, hown, hts⟩ (c_X6_least l D cI (q 12) _ (u_2) (σ.2 1 (Int32.toNatClampNeg (σ.2 8 (Int32.toNatClampNeg x2)))) (σ.2 1 (Int32.toNatClampNeg (σ.2 7 (Int32.toNatClampNeg x2)))) ((σ.2 9 (Int32.toNatClampNeg x2)) - ((σ.2 2 (Int32.toNatClampNeg (σ.2 8 (Int32.toNatClampNeg x2)))) - (σ.2 2 (Int32.toNatClampNeg (σ.2 7 (Int32.toNatClampNeg x2)))))) _ hw) (va_cwS 4 hts gX6_bounds_X6_least rfl rfl rfl (by decide +kernel) ⟨Nat.le_of_ble_eq_true rfl, Nat.le_of_ble_eq_true rfl⟩) hK hC hA [12] [0, 1, 2, 3, 4, 5, 6, 7, 8, 9, 10, 11, 13, 14, 15, 16, 17, 18] (by decide) rfl (wr := [_, _, _, _, _, _, _, _, _, _, _, _, _, _, _, _, _, _]) rfl (by decide) (by decide) rfl hl.1 rfl (Nat.le_of_ble_eq_true rfl) dX6_bounds_111 ⟨Nat.zero_le _, Nat.zero_le _⟩ [0, 1, 2, 3, 4, 5, 6, 7, 8, 9, 10, 11, 18, 12, 13, 14, 15, 16, 17] (by decide) (fun _ => rfl) (fun u_4 H locs hw hC => ?_)
    refine lv_goto (tgt := 206) hx hb dX6_bounds_114 (by decide) ?_
    exact cx_ret_v (u := (σ.1, (va_up (va_up σ.2 11 u_2) 11 u_4))) hx hb hr hlocks hK hC hw dX6_bounds_206
  · refine lv_lookup (off := 111) (tgt := 117) hx hb dX6_bounds_6 (by decide) (by rw [c0]; rfl) (by decide) ?_
    have hw := hw.2.1 c0
    refine lv_aload_n hx hb dX6_bounds_117 rfl (lv_at hl 1 rfl) ?_
    refine lv_aload_n hx hb dX6_bounds_118 rfl (lv_at hl 0 rfl) ?_
    refine cx_get (v := .ref (q 2)) hx hb hts iX6 hown hK hC 0 rfl rfl 10 (by decide) u2 rfl rfl dX6_bounds_119 ?_
    refine lv_aload_n hx hb dX6_bounds_122 rfl (lv_at hl 0 rfl) ?_
    refine cx_get (v := .ref (q 8)) hx hb hts iX6 hown hK hC 0 rfl rfl 16 (by decide) u3 rfl rfl dX6_bounds_123 ?_
    refine lv_iload_n hx hb dX6_bounds_126 rfl (lv_at hl 2 rfl) ?_
    refine cx_iald (f := σ.2 7) hx hb hK hC 8 rfl hw.1 dX6_bounds_127 ?_
    have hw := hw.2
    refine cx_iald (f := σ.2 1) hx hb hK hC 2 rfl hw.1 dX6_bounds_128 ?_
    have hw := hw.2
    refine lv_aload_n hx hb dX6_bounds_129 rfl (lv_at hl 0 rfl) ?_
    refine cx_get (v := .ref (q 2)) hx hb hts iX6 hown hK hC 0 rfl rfl 10 (by decide) u2 rfl rfl dX6_bounds_130 ?_
    refine lv_aload_n hx hb dX6_bounds_133 rfl (lv_at hl 0 rfl) ?_
    refine cx_get (v := .ref (q 9)) hx hb hts iX6 hown hK hC 0 rfl rfl 17 (by decide) u4 rfl rfl dX6_bounds_134 ?_
    refine lv_iload_n hx hb dX6_bounds_137 rfl (lv_at hl 2 rfl) ?_
    refine cx_iald (f := σ.2 8) hx hb hK hC 9 rfl hw.1 dX6_bounds_138 ?_
    have hw := hw.2
    refine cx_iald (f := σ.2 1) hx hb hK hC 2 rfl hw.1 dX6_bounds_139 ?_
    have hw := hw.2
    refine lv_aload_n hx hb dX6_bounds_140 rfl (lv_at hl 0 rfl) ?_
    refine cx_get (v := .ref (q 3)) hx hb hts iX6 hown hK hC 0 rfl rfl 11 (by decide) u5 rfl rfl dX6_bounds_141 ?_
    refine lv_aload_n hx hb dX6_bounds_144 rfl (lv_at hl 0 rfl) ?_
    refine cx_get (v := .ref (q 9)) hx hb hts iX6 hown hK hC 0 rfl rfl 17 (by decide) u4 rfl rfl dX6_bounds_145 ?_
    refine lv_iload_n hx hb dX6_bounds_148 rfl (lv_at hl 2 rfl) ?_
    refine cx_iald (f := σ.2 8) hx hb hK hC 9 rfl hw.1 dX6_bounds_149 ?_
    have hw := hw.2
    refine cx_iald (f := σ.2 2) hx hb hK hC 3 rfl hw.1 dX6_bounds_150 ?_
    have hw := hw.2
    refine lv_aload_n hx hb dX6_bounds_151 rfl (lv_at hl 0 rfl) ?_
    refine cx_get (v := .ref (q 3)) hx hb hts iX6 hown hK hC 0 rfl rfl 11 (by decide) u5 rfl rfl dX6_bounds_152 ?_
    refine lv_aload_n hx hb dX6_bounds_155 rfl (lv_at hl 0 rfl) ?_
    refine cx_get (v := .ref (q 8)) hx hb hts iX6 hown hK hC 0 rfl rfl 16 (by decide) u3 rfl rfl dX6_bounds_156 ?_
    refine lv_iload_n hx hb dX6_bounds_159 rfl (lv_at hl 2 rfl) ?_
    refine cx_iald (f := σ.2 7) hx hb hK hC 8 rfl hw.1 dX6_bounds_160 ?_
    have hw := hw.2
    refine cx_iald (f := σ.2 2) hx hb hK hC 3 rfl hw.1 dX6_bounds_161 ?_
    have hw := hw.2
    refine lv_isub hx hb dX6_bounds_162 ?_
    refine lv_iconst (v := 1) hx hb dX6_bounds_163 (by decide) ?_
    refine lv_isub hx hb dX6_bounds_164 ?_
    refine cx_callSv (As := [.ref (q 12), .int (σ.2 1 (Int32.toNatClampNeg (σ.2 7 (Int32.toNatClampNeg x2)))), .int (σ.2 1 (Int32.toNatClampNeg (σ.2 8 (Int32.toNatClampNeg x2)))), .int (((σ.2 2 (Int32.toNatClampNeg (σ.2 8 (Int32.toNatClampNeg x2)))) - (σ.2 2 (Int32.toNatClampNeg (σ.2 7 (Int32.toNatClampNeg x2))))) - 1)]) (rest := []) (ws' := fun u_6 => (wM cI q (σ.1, (va_up σ.2 11 u_6)))) ⟨hx, hb, hml, hown, hts⟩ (c_X6_least l D cI (q 12) _ (σ.2 11) (σ.2 1 (Int32.toNatClampNeg (σ.2 7 (Int32.toNatClampNeg x2)))) (σ.2 1 (Int32.toNatClampNeg (σ.2 8 (Int32.toNatClampNeg x2)))) (((σ.2 2 (Int32.toNatClampNeg (σ.2 8 (Int32.toNatClampNeg x2)))) - (σ.2 2 (Int32.toNatClampNeg (σ.2 7 (Int32.toNatClampNeg x2))))) - 1) _ hw) (va_cwS 4 hts gX6_bounds_X6_least rfl rfl rfl (by decide +kernel) ⟨Nat.le_of_ble_eq_true rfl, Nat.le_of_ble_eq_true rfl⟩) hK hC hA [12] [0, 1, 2, 3, 4, 5, 6, 7, 8, 9, 10, 11, 13, 14, 15, 16, 17, 18] (by decide) rfl (wr := [_, _, _, _, _, _, _, _, _, _, _, _, _, _, _, _, _, _]) rfl (by decide) (by decide) rfl hl.1 rfl (Nat.le_of_ble_eq_true rfl) dX6_bounds_165 ⟨Nat.zero_le _, Nat.zero_le _⟩ [0, 1, 2, 3, 4, 5, 6, 7, 8, 9, 10, 11, 18, 12, 13, 14, 15, 16, 17] (by decide) (fun _ => rfl) (fun u_6 H locs hw hC => ?_)
    refine lv_goto (tgt := 206) hx hb dX6_bounds_168 (by decide) ?_
    exact cx_ret_v (u := (σ.1, (va_up σ.2 11 u_6))) hx hb hr hlocks hK hC hw dX6_bounds_206
  · refine lv_lookup (off := 165) (tgt := 171) hx hb dX6_bounds_6 (by decide) (sw_lo c0) (by decide) ?_
    have hw := hw.2.2 c0
    refine lv_aload_n hx hb dX6_bounds_171 rfl (lv_at hl 1 rfl) ?_
    refine lv_aload_n hx hb dX6_bounds_172 rfl (lv_at hl 0 rfl) ?_
    refine cx_get (v := .ref (q 8)) hx hb hts iX6 hown hK hC 0 rfl rfl 16 (by decide) u3 rfl rfl dX6_bounds_173 ?_
    refine lv_iload_n hx hb dX6_bounds_176 rfl (lv_at hl 2 rfl) ?_
    refine cx_iald (f := σ.2 7) hx hb hK hC 8 rfl hw.1 dX6_bounds_177 ?_
    have hw := hw.2
    refine lv_iconst (v := 0) hx hb dX6_bounds_178 (by decide) ?_
    refine lv_aload_n hx hb dX6_bounds_179 rfl (lv_at hl 0 rfl) ?_
    refine cx_get (v := .ref (q 10)) hx hb hts iX6 hown hK hC 0 rfl rfl 18 (by decide) u6 rfl rfl dX6_bounds_180 ?_
    refine lv_iload_n hx hb dX6_bounds_183 rfl (lv_at hl 2 rfl) ?_
    refine cx_iald (f := σ.2 9) hx hb hK hC 10 rfl hw.1 dX6_bounds_184 ?_
    have hw := hw.2
    refine cx_callSv (As := [.ref (q 12), .int (σ.2 7 (Int32.toNatClampNeg x2)), .int 0, .int (σ.2 9 (Int32.toNatClampNeg x2))]) (rest := []) (ws' := fun u_8 => (wM cI q (σ.1, (va_up σ.2 11 u_8)))) ⟨hx, hb, hml, hown, hts⟩ (c_X6_least l D cI (q 12) _ (σ.2 11) (σ.2 7 (Int32.toNatClampNeg x2)) 0 (σ.2 9 (Int32.toNatClampNeg x2)) _ hw) (va_cwS 4 hts gX6_bounds_X6_least rfl rfl rfl (by decide +kernel) ⟨Nat.le_of_ble_eq_true rfl, Nat.le_of_ble_eq_true rfl⟩) hK hC hA [12] [0, 1, 2, 3, 4, 5, 6, 7, 8, 9, 10, 11, 13, 14, 15, 16, 17, 18] (by decide) rfl (wr := [_, _, _, _, _, _, _, _, _, _, _, _, _, _, _, _, _, _]) rfl (by decide) (by decide) rfl hl.1 rfl (Nat.le_of_ble_eq_true rfl) dX6_bounds_185 ⟨Nat.zero_le _, Nat.zero_le _⟩ [0, 1, 2, 3, 4, 5, 6, 7, 8, 9, 10, 11, 18, 12, 13, 14, 15, 16, 17] (by decide) (fun _ => rfl) (fun u_8 H locs hw hC => ?_)
    refine lv_aload_n hx hb dX6_bounds_188 rfl (lv_at hl 1 rfl) ?_
    refine lv_iconst (v := 0) hx hb dX6_bounds_189 (by decide) ?_
    refine lv_aload_n hx hb dX6_bounds_190 rfl (lv_at hl 0 rfl) ?_
    refine cx_get (v := .ref (q 8)) hx hb hts iX6 hown hK hC 0 rfl rfl 16 (by decide) u3 rfl rfl dX6_bounds_191 ?_
    refine lv_iload_n hx hb dX6_bounds_194 rfl (lv_at hl 2 rfl) ?_
    refine cx_iald (f := σ.2 7) hx hb hK hC 8 rfl hw.1 dX6_bounds_195 ?_
    have hw := hw.2
    refine lv_aload_n hx hb dX6_bounds_196 rfl (lv_at hl 0 rfl) ?_
    refine cx_get (v := .ref (q 9)) hx hb hts iX6 hown hK hC 0 rfl rfl 17 (by decide) u4 rfl rfl dX6_bounds_197 ?_
    refine lv_iload_n hx hb dX6_bounds_200 rfl (lv_at hl 2 rfl) ?_
    refine cx_iald (f := σ.2 8) hx hb hK hC 9 rfl hw.1 dX6_bounds_201 ?_
    have hw := hw.2
    refine lv_ineg hx hb dX6_bounds_202 ?_
    refine cx_callSv (As := [.ref (q 12), .int 0, .int (σ.2 7 (Int32.toNatClampNeg x2)), .int (-(σ.2 8 (Int32.toNatClampNeg x2)))]) (rest := []) (ws' := fun u_10 => (wM cI q (σ.1, (va_up (va_up σ.2 11 u_8) 11 u_10)))) ⟨hx, hb, hml, hown, hts⟩ (c_X6_least l D cI (q 12) _ (u_8) 0 (σ.2 7 (Int32.toNatClampNeg x2)) (-(σ.2 8 (Int32.toNatClampNeg x2))) _ hw) (va_cwS 4 hts gX6_bounds_X6_least rfl rfl rfl (by decide +kernel) ⟨Nat.le_of_ble_eq_true rfl, Nat.le_of_ble_eq_true rfl⟩) hK hC hA [12] [0, 1, 2, 3, 4, 5, 6, 7, 8, 9, 10, 11, 13, 14, 15, 16, 17, 18] (by decide) rfl (wr := [_, _, _, _, _, _, _, _, _, _, _, _, _, _, _, _, _, _]) rfl (by decide) (by decide) rfl hl.1 rfl (Nat.le_of_ble_eq_true rfl) dX6_bounds_203 ⟨Nat.zero_le _, Nat.zero_le _⟩ [0, 1, 2, 3, 4, 5, 6, 7, 8, 9, 10, 11, 18, 12, 13, 14, 15, 16, 17] (by decide) (fun _ => rfl) (fun u_10 H locs hw hC => ?_)
    exact cx_ret_v (u := (σ.1, (va_up (va_up σ.2 11 u_8) 11 u_10))) hx hb hr hlocks hK hC hw dX6_bounds_206

/-! PictureHeapModel.closed([II)Z (X6_closed_a11) -/
set_option maxHeartbeats 1000000 in
set_option maxRecDepth 100000 in
theorem c_X6_closed_a11 (l : Launch) (D : va_G) (cI : ClassId) (q : Nat → Nat) (sz : Nat) (σ : St) (x2 : Int32) (post : Int32 → St → Prop) (hw : w_X6_closed_a11 σ x2 post) : Ci l yX6_closed wsX6_closed 3 69 D cI (wM cI q σ) sz [.ref (q 0), .ref (q 12), .int x2] (wM cI q) post := by
  refine mo_i (cc := cX6_closed) (maxL := 4) (ret := (some .boolean)) (by decide) rfl (Nat.le_of_ble_eq_true rfl) ?_
  intro p e s m below meth c hx hb hr hml hts hown hlocks hK A hA hC ls hl
  have hown : s.vm.findClass RX6 = some m.cls := hown
  have hl : lv_has ls 4 [(0, .ref (q 0)), (1, .ref (q 12)), (2, .int x2)] := hl
  have u1 : (Cond.fieldLink RX6 132 "PictureHeapModel" "ties" "I").before [.ref (q 0), .ref (q 12), .int x2].toArray s = true := hts _ (List.mem_of_getElem? (i := 1) rfl)
  have iX6 : ∀ w ∈ wsX60, w ∈ wsX6_closed := fun _ h => List.mem_cons_of_mem _ (List.mem_append_right _ h)
  have L7 : ∀ (x2_3 : Int32) (K : Int32 → St → Prop) (hKK : ∀ (x3_4 : Int32) (s_5 : St) (H : Heap) (locs : List Loc) (ls : Array Slot), K x3_4 s_5 → Cx D A s.heap (wM cI q s_5) H locs → lv_has ls 4 [(0, .ref (q 0)), (1, .ref (q 12)), (2, .int x2_3), (3, .int x3_4)] → W p l e (Rm 3 69) s m [.ref (q 0), .ref (q 12), .int x2].toArray below meth c H locs 0 0 (QI below D cI A (wM cI q) post [.ref (q 0), .ref (q 12), .int x2].toArray s) (F0 m 32 ls [])) (n : Nat), ∀ (x3_4 : Int32) (s_5 : St) (H : Heap) (locs : List Loc) (ls : Array Slot), w_X6_closed_a11_L7 x2_3 post K n x3_4 s_5 → Cx D A s.heap (wM cI q s_5) H locs → lv_has ls 4 [(0, .ref (q 0)), (1, .ref (q 12)), (2, .int x2_3), (3, .int x3_4)] → W p l e (Rm 3 69) s m [.ref (q 0), .ref (q 12), .int x2].toArray below meth c H locs 0 0 (QI below D cI A (wM cI q) post [.ref (q 0), .ref (q 12), .int x2].toArray s) (F0 m 7 ls []) := by
    intro x2_3 K hKK n
    induction n with
    | zero => intro x3_4 s_5 H locs ls hw; exact hw.elim
    | succ n ih =>
      intro x3_4 s_5 H locs ls hw hC hl
      refine lv_iload_n hx hb dX6_closed_7 rfl (lv_at hl 3 rfl) ?_
      refine lv_aload_n hx hb dX6_closed_8 rfl (lv_at hl 0 rfl) ?_
      refine cx_get (v := .int (s_5.1 5)) hx hb hts iX6 hown hK hC 0 rfl rfl 5 (by decide) u1 rfl rfl dX6_closed_9 ?_
      refine lv_icmp_ge (tgt := 32) hx hb dX6_closed_12 (by decide) (fun c_6 => ?_) (fun c_6 => ?_)
      · have hw := hw.1 c_6
        exact hKK x3_4 s_5 _ _ _ hw hC (lv_sub hl [0, 1, 2, 3] rfl)
      · have hw := hw.2 c_6
        refine lv_iload_n hx hb dX6_closed_15 rfl (lv_at hl 3 rfl) ?_
        refine lv_iload_n hx hb dX6_closed_16 rfl (lv_at hl 2 rfl) ?_
        refine lv_icmp_eq (tgt := 26) hx hb dX6_closed_17 (by decide) (fun c_7 => ?_) (fun c_7 => ?_)
        · have hw := hw.1 c_7
          refine lv_iinc (v := (x3_4 + 1)) (lv' := [(3, .int (x3_4 + 1)), (0, .ref (q 0)), (1, .ref (q 12)), (2, .int x2_3)]) hx hb dX6_closed_26 hl (k := 3) rfl rfl (by decide) rfl (fun ls hl => ?_)
          refine lv_goto (tgt := 7) hx hb dX6_closed_29 (by decide) ?_
          exact ih (x3_4 + 1) s_5 _ _ _ hw hC (lv_sub hl [1, 2, 3, 0] rfl)
        · have hw := hw.2 c_7
          refine lv_aload_n hx hb dX6_closed_20 rfl (lv_at hl 0 rfl) ?_
          refine lv_aload_n hx hb dX6_closed_21 rfl (lv_at hl 1 rfl) ?_
          refine lv_iload_n hx hb dX6_closed_22 rfl (lv_at hl 3 rfl) ?_
          refine cx_callVv0 (As := [.ref (q 12), .int x3_4]) (rest := []) ⟨hx, hb, hml, hown, hts⟩ (c_X6_bounds_a11 l D cI q _ s_5 x3_4 _ hw) (cwV 2 hts gX6_closed_X6_bounds rfl rfl rfl (by decide +kernel) ⟨Nat.le_of_ble_eq_true rfl, Nat.le_of_ble_eq_true rfl⟩) hK hC hA 0 rfl rfl rfl rfl hl.1 rfl (Nat.le_of_ble_eq_true rfl) dX6_closed_23 ⟨Nat.zero_le _, Nat.zero_le _⟩ (fun u_9 H locs hw hC => ?_)
          refine lv_iinc (v := (x3_4 + 1)) (lv' := [(3, .int (x3_4 + 1)), (0, .ref (q 0)), (1, .ref (q 12)), (2, .int x2_3)]) hx hb dX6_closed_26 hl (k := 3) rfl rfl (by decide) rfl (fun ls hl => ?_)
          refine lv_goto (tgt := 7) hx hb dX6_closed_29 (by decide) ?_
          exact ih (x3_4 + 1) u_9 _ _ _ hw hC (lv_sub hl [1, 2, 3, 0] rfl)
  refine lv_aload_n hx hb dX6_closed_0 rfl (lv_at hl 0 rfl) ?_
  refine lv_aload_n hx hb dX6_closed_1 rfl (lv_at hl 1 rfl) ?_
  refine cx_callVv0 (As := [.ref (q 12)]) (rest := []) ⟨hx, hb, hml, hown, hts⟩ (c_X6_first_a11 l D cI q _ σ  _ hw) (cwV 1 hts gX6_closed_X6_first rfl rfl rfl (by decide +kernel) ⟨Nat.le_of_ble_eq_true rfl, Nat.le_of_ble_eq_true rfl⟩) hK hC hA 0 rfl rfl rfl rfl hl.1 rfl (Nat.le_of_ble_eq_true rfl) dX6_closed_2 ⟨Nat.zero_le _, Nat.zero_le _⟩ (fun u_2 H locs hw hC => ?_)
  refine lv_iconst (v := 0) hx hb dX6_closed_5 (by decide) ?_
  refine lv_istore_n (lv' := [(3, .int 0), (0, .ref (q 0)), (1, .ref (q 12)), (2, .int x2)]) hx hb dX6_closed_6 rfl hl (by decide) rfl (fun ls hl => ?_)
  obtain ⟨n, hw⟩ := hw
  refine L7 x2 _ (fun x3_10 s_11 H locs ls hw hC hl => ?_) n 0 u_2 _ _ _ hw hC (lv_sub hl [1, 2, 3, 0] rfl)
  refine lv_aload_n hx hb dX6_closed_32 rfl (lv_at hl 1 rfl) ?_
  refine cx_callSi (As := [.ref (q 12)]) (rest := []) (ws' := fun u_13 => (wM cI q (s_11.1, (va_up s_11.2 11 u_13)))) ⟨hx, hb, hml, hown, hts⟩ (c_X6_closes l D cI (q 12) _ (s_11.2 11)  _ hw) (va_cwS 1 hts gX6_closed_X6_closes rfl rfl rfl (by decide +kernel) ⟨Nat.le_of_ble_eq_true rfl, Nat.le_of_ble_eq_true rfl⟩) hK hC hA [12] [0, 1, 2, 3, 4, 5, 6, 7, 8, 9, 10, 11, 13, 14, 15, 16, 17, 18] (by decide) rfl (wr := [_, _, _, _, _, _, _, _, _, _, _, _, _, _, _, _, _, _]) rfl (by decide) (by decide) rfl hl.1 rfl (Nat.le_of_ble_eq_true rfl) dX6_closed_33 ⟨Nat.zero_le _, Nat.zero_le _⟩ [0, 1, 2, 3, 4, 5, 6, 7, 8, 9, 10, 11, 18, 12, 13, 14, 15, 16, 17] (by decide) (fun _ => rfl) (fun r_12 u_13 H locs hw hC => ?_)
  exact cx_ret_z (u := (s_11.1, (va_up s_11.2 11 u_13))) hx hb hr hlocks hK hC hw.1 hw.2 dX6_closed_36

/-! PictureHeapModel.idle(I)I (X6_idle) -/
set_option maxHeartbeats 1000000 in
set_option maxRecDepth 100000 in
theorem c_X6_idle (l : Launch) (D : va_G) (cI : ClassId) (q : Nat → Nat) (sz : Nat) (σ : St) (x1 : Int32) (post : Int32 → St → Prop) (hw : w_X6_idle σ x1 post) : Ci l yX6_idle wsX6_idle 4 92 D cI (wM cI q σ) sz [.ref (q 0), .int x1] (wM cI q) post := by
  refine mo_i (cc := cX6_idle) (maxL := 7) (ret := (some .int)) (by decide) rfl (Nat.le_of_ble_eq_true rfl) ?_
  intro p e s m below meth c hx hb hr hml hts hown hlocks hK A hA hC ls hl
  have hown : s.vm.findClass RX6 = some m.cls := hown
  have hl : lv_has ls 7 [(0, .ref (q 0)), (1, .int x1)] := hl
  have u1 : (Cond.fieldLink RX6 74 "PictureHeapModel" "thrown" "I").before [.ref (q 0), .int x1].toArray s = true := hts _ (List.mem_of_getElem? (i := 1) rfl)
  have u2 : (Cond.fieldLink RX6 47 "PictureHeapModel" "bound" "[I").before [.ref (q 0), .int x1].toArray s = true := hts _ (List.mem_of_getElem? (i := 2) rfl)
  have u4 : (Cond.fieldLink RX6 80 "PictureHeapModel" "cameras" "I").before [.ref (q 0), .int x1].toArray s = true := hts _ (List.mem_of_getElem? (i := 4) rfl)
  have u3 : (Cond.fieldLink RX6 50 "PictureHeapModel" "other" "[I").before [.ref (q 0), .int x1].toArray s = true := hts _ (List.mem_of_getElem? (i := 3) rfl)
  have iX6 : ∀ w ∈ wsX60, w ∈ wsX6_idle := fun _ h => List.mem_cons_of_mem _ (List.mem_append_right _ h)
  have J110 : ∀ (x4_18 : Int32) (x5_19 : Int32) (x6_20 : Int32) (s_21 : St) (K70 : Int32 → Int32 → St → Prop) (hK70 : ∀ (x4 : Int32) (x6 : Int32) (u : St) (H : Heap) (locs : List Loc) (ls : Array Slot), K70 x4 x6 u → Cx D A s.heap (wM cI q u) H locs → lv_has ls 7 [(0, .ref (q 0)), (4, .int x4), (5, .int x5_19), (6, .int x6)] → W p l e (Rm 4 92) s m [.ref (q 0), .int x1].toArray below meth c H locs 0 0 (QI below D cI A (wM cI q) post [.ref (q 0), .int x1].toArray s) (F0 m 70 ls [])) (H : Heap) (locs : List Loc) (ls : Array Slot), w_X6_idle_J110 post K70 x4_18 x5_19 x6_20 s_21 → Cx D A s.heap (wM cI q s_21) H locs → lv_has ls 7 [(0, .ref (q 0)), (4, .int x4_18), (5, .int x5_19), (6, .int x6_20)] → W p l e (Rm 4 92) s m [.ref (q 0), .int x1].toArray below meth c H locs 0 0 (QI below D cI A (wM cI q) post [.ref (q 0), .int x1].toArray s) (F0 m 110 ls []) := by
    intro x4_18 x5_19 x6_20 s_21 K70 hK70 H locs ls hw hC hl
    refine lv_iload hx hb dX6_idle_110 (lv_at hl 1 rfl) ?_
    refine lv_if_eq (tgt := 148) hx hb dX6_idle_112 (by decide) (fun c_22 => ?_) (fun c_22 => ?_)
    · have hw := hw.1 c_22
      refine lv_iconst (v := 0) hx hb dX6_idle_148 (by decide) ?_
      refine lv_istore (lv' := [(4, .int 0), (0, .ref (q 0)), (5, .int x5_19), (6, .int x6_20)]) hx hb dX6_idle_149 hl (by decide) rfl (fun ls hl => ?_)
      refine lv_iinc (v := (x6_20 + 1)) (lv' := [(6, .int (x6_20 + 1)), (4, .int 0), (0, .ref (q 0)), (5, .int x5_19)]) hx hb dX6_idle_151 hl (k := 3) rfl rfl (by decide) rfl (fun ls hl => ?_)
      refine lv_goto (tgt := 70) hx hb dX6_idle_154 (by decide) ?_
      exact hK70 0 (x6_20 + 1) s_21 _ _ _ hw hC (lv_sub hl [2, 1, 3, 0] rfl)
    · have hw := hw.2 c_22
      refine lv_aload_n hx hb dX6_idle_115 rfl (lv_at hl 0 rfl) ?_
      refine cx_get (v := .ref (q 11)) hx hb hts iX6 hown hK hC 0 rfl rfl 19 (by decide) u2 rfl rfl dX6_idle_116 ?_
      refine lv_bipush (v := 8) hx hb dX6_idle_119 (by decide) ?_
      refine lv_iload hx hb dX6_idle_121 (lv_at hl 2 rfl) ?_
      refine lv_imul hx hb dX6_idle_123 ?_
      refine lv_iload hx hb dX6_idle_124 (lv_at hl 3 rfl) ?_
      refine lv_iadd hx hb dX6_idle_126 ?_
      refine cx_iald (f := s_21.2 10) hx hb hK hC 11 rfl hw.1 dX6_idle_127 ?_
      have hw := hw.2
      refine lv_aload_n hx hb dX6_idle_128 rfl (lv_at hl 0 rfl) ?_
      refine cx_get (v := .ref (q 12)) hx hb hts iX6 hown hK hC 0 rfl rfl 20 (by decide) u3 rfl rfl dX6_idle_129 ?_
      refine lv_bipush (v := 8) hx hb dX6_idle_132 (by decide) ?_
      refine lv_iload hx hb dX6_idle_134 (lv_at hl 2 rfl) ?_
      refine lv_imul hx hb dX6_idle_136 ?_
      refine lv_iload hx hb dX6_idle_137 (lv_at hl 3 rfl) ?_
      refine lv_iadd hx hb dX6_idle_139 ?_
      refine cx_iald (f := s_21.2 11) hx hb hK hC 12 rfl hw.1 dX6_idle_140 ?_
      have hw := hw.2
      refine lv_icmp_ne (tgt := 148) hx hb dX6_idle_141 (by decide) (fun c_23 => ?_) (fun c_23 => ?_)
      · have hw := hw.1 c_23
        refine lv_iconst (v := 0) hx hb dX6_idle_148 (by decide) ?_
        refine lv_istore (lv' := [(4, .int 0), (0, .ref (q 0)), (5, .int x5_19), (6, .int x6_20)]) hx hb dX6_idle_149 hl (by decide) rfl (fun ls hl => ?_)
        refine lv_iinc (v := (x6_20 + 1)) (lv' := [(6, .int (x6_20 + 1)), (4, .int 0), (0, .ref (q 0)), (5, .int x5_19)]) hx hb dX6_idle_151 hl (k := 3) rfl rfl (by decide) rfl (fun ls hl => ?_)
        refine lv_goto (tgt := 70) hx hb dX6_idle_154 (by decide) ?_
        exact hK70 0 (x6_20 + 1) s_21 _ _ _ hw hC (lv_sub hl [2, 1, 3, 0] rfl)
      · have hw := hw.2 c_23
        refine lv_iconst (v := 1) hx hb dX6_idle_144 (by decide) ?_
        refine lv_goto (tgt := 149) hx hb dX6_idle_145 (by decide) ?_
        refine lv_istore (lv' := [(4, .int 1), (0, .ref (q 0)), (5, .int x5_19), (6, .int x6_20)]) hx hb dX6_idle_149 hl (by decide) rfl (fun ls hl => ?_)
        refine lv_iinc (v := (x6_20 + 1)) (lv' := [(6, .int (x6_20 + 1)), (4, .int 1), (0, .ref (q 0)), (5, .int x5_19)]) hx hb dX6_idle_151 hl (k := 3) rfl rfl (by decide) rfl (fun ls hl => ?_)
        refine lv_goto (tgt := 70) hx hb dX6_idle_154 (by decide) ?_
        exact hK70 1 (x6_20 + 1) s_21 _ _ _ hw hC (lv_sub hl [2, 1, 3, 0] rfl)
  have L70 : ∀ (x5_12 : Int32) (K : Int32 → Int32 → St → Prop) (hKK : ∀ (x4_13 : Int32) (x6_14 : Int32) (s_15 : St) (H : Heap) (locs : List Loc) (ls : Array Slot), K x4_13 x6_14 s_15 → Cx D A s.heap (wM cI q s_15) H locs → lv_has ls 7 [(0, .ref (q 0)), (4, .int x4_13), (5, .int x5_12), (6, .int x6_14)] → W p l e (Rm 4 92) s m [.ref (q 0), .int x1].toArray below meth c H locs 0 0 (QI below D cI A (wM cI q) post [.ref (q 0), .int x1].toArray s) (F0 m 157 ls [])) (n : Nat), ∀ (x4_13 : Int32) (x6_14 : Int32) (s_15 : St) (H : Heap) (locs : List Loc) (ls : Array Slot), w_X6_idle_L70 x5_12 post K n x4_13 x6_14 s_15 → Cx D A s.heap (wM cI q s_15) H locs → lv_has ls 7 [(0, .ref (q 0)), (4, .int x4_13), (5, .int x5_12), (6, .int x6_14)] → W p l e (Rm 4 92) s m [.ref (q 0), .int x1].toArray below meth c H locs 0 0 (QI below D cI A (wM cI q) post [.ref (q 0), .int x1].toArray s) (F0 m 70 ls []) := by
    intro x5_12 K hKK n
    induction n with
    | zero => intro x4_13 x6_14 s_15 H locs ls hw; exact hw.elim
    | succ n ih =>
      intro x4_13 x6_14 s_15 H locs ls hw hC hl
      refine lv_iload hx hb dX6_idle_70 (lv_at hl 3 rfl) ?_
      refine lv_aload_n hx hb dX6_idle_72 rfl (lv_at hl 0 rfl) ?_
      refine cx_get (v := .int (s_15.1 2)) hx hb hts iX6 hown hK hC 0 rfl rfl 2 (by decide) u4 rfl rfl dX6_idle_73 ?_
      refine lv_icmp_ge (tgt := 157) hx hb dX6_idle_76 (by decide) (fun c_16 => ?_) (fun c_16 => ?_)
      · have hw := hw.1 c_16
        exact hKK x4_13 x6_14 s_15 _ _ _ hw hC (lv_sub hl [0, 1, 2, 3] rfl)
      · have hw := hw.2 c_16
        refine lv_iload hx hb dX6_idle_79 (lv_at hl 2 rfl) ?_
        refine lv_if_eq (tgt := 110) hx hb dX6_idle_81 (by decide) (fun c_17 => ?_) (fun c_17 => ?_)
        · have hw := hw.1 c_17
          exact J110 x4_13 x5_12 x6_14 s_15 _ (fun x4_24 x6_25 u_26 H locs ls hw hC hl => by exact ih x4_24 x6_25 u_26 _ _ _ hw hC (lv_sub hl [0, 1, 2, 3] rfl)) _ _ _ hw hC (lv_sub hl [0, 1, 2, 3] rfl)
        · have hw := hw.2 c_17
          refine lv_iload hx hb dX6_idle_84 (lv_at hl 3 rfl) ?_
          refine lv_if_eq (tgt := 110) hx hb dX6_idle_86 (by decide) (fun c_27 => ?_) (fun c_27 => ?_)
          · have hw := hw.1 c_27
            exact J110 x4_13 x5_12 x6_14 s_15 _ (fun x4_28 x6_29 u_30 H locs ls hw hC hl => by exact ih x4_28 x6_29 u_30 _ _ _ hw hC (lv_sub hl [0, 1, 2, 3] rfl)) _ _ _ hw hC (lv_sub hl [0, 1, 2, 3] rfl)
          · have hw := hw.2 c_27
            refine lv_aload_n hx hb dX6_idle_89 rfl (lv_at hl 0 rfl) ?_
            refine lv_iload hx hb dX6_idle_90 (lv_at hl 2 rfl) ?_
            refine cx_callVi0 (As := [.int x5_12]) (rest := []) ⟨hx, hb, hml, hown, hts⟩ (c_X6_hasPicture l D cI q _ s_15 x5_12 _ hw) (cwV 1 hts gX6_idle_X6_hasPicture rfl rfl rfl (by decide +kernel) ⟨Nat.le_of_ble_eq_true rfl, Nat.le_of_ble_eq_true rfl⟩) hK hC hA 0 rfl rfl rfl rfl hl.1 rfl (Nat.le_of_ble_eq_true rfl) dX6_idle_92 ⟨Nat.zero_le _, Nat.zero_le _⟩ (fun r_31 u_32 H locs hw hC => ?_)
            refine lv_if_eq (tgt := 151) hx hb dX6_idle_95 (by decide) (fun c_33 => ?_) (fun c_33 => ?_)
            · have hw := hw.1 c_33
              refine lv_iinc (v := (x6_14 + 1)) (lv' := [(6, .int (x6_14 + 1)), (0, .ref (q 0)), (4, .int x4_13), (5, .int x5_12)]) hx hb dX6_idle_151 hl (k := 3) rfl rfl (by decide) rfl (fun ls hl => ?_)
              refine lv_goto (tgt := 70) hx hb dX6_idle_154 (by decide) ?_
              exact ih x4_13 (x6_14 + 1) u_32 _ _ _ hw hC (lv_sub hl [1, 2, 3, 0] rfl)
            · have hw := hw.2 c_33
              refine lv_aload_n hx hb dX6_idle_98 rfl (lv_at hl 0 rfl) ?_
              refine lv_iload hx hb dX6_idle_99 (lv_at hl 3 rfl) ?_
              refine cx_callVi0 (As := [.int x6_14]) (rest := []) ⟨hx, hb, hml, hown, hts⟩ (c_X6_hasPicture l D cI q _ u_32 x6_14 _ hw) (cwV 1 hts gX6_idle_X6_hasPicture rfl rfl rfl (by decide +kernel) ⟨Nat.le_of_ble_eq_true rfl, Nat.le_of_ble_eq_true rfl⟩) hK hC hA 0 rfl rfl rfl rfl hl.1 rfl (Nat.le_of_ble_eq_true rfl) dX6_idle_101 ⟨Nat.zero_le _, Nat.zero_le _⟩ (fun r_34 u_35 H locs hw hC => ?_)
              refine lv_if_ne (tgt := 110) hx hb dX6_idle_104 (by decide) (fun c_36 => ?_) (fun c_36 => ?_)
              · have hw := hw.1 c_36
                exact J110 x4_13 x5_12 x6_14 u_35 _ (fun x4_37 x6_38 u_39 H locs ls hw hC hl => by exact ih x4_37 x6_38 u_39 _ _ _ hw hC (lv_sub hl [0, 1, 2, 3] rfl)) _ _ _ hw hC (lv_sub hl [0, 1, 2, 3] rfl)
              · have hw := hw.2 c_36
                refine lv_goto (tgt := 151) hx hb dX6_idle_107 (by decide) ?_
                refine lv_iinc (v := (x6_14 + 1)) (lv' := [(6, .int (x6_14 + 1)), (0, .ref (q 0)), (4, .int x4_13), (5, .int x5_12)]) hx hb dX6_idle_151 hl (k := 3) rfl rfl (by decide) rfl (fun ls hl => ?_)
                refine lv_goto (tgt := 70) hx hb dX6_idle_154 (by decide) ?_
                exact ih x4_13 (x6_14 + 1) u_35 _ _ _ hw hC (lv_sub hl [1, 2, 3, 0] rfl)
  have L58 : ∀ (K : Int32 → Int32 → St → Prop) (hKK : ∀ (x4_8 : Int32) (x5_9 : Int32) (s_10 : St) (H : Heap) (locs : List Loc) (ls : Array Slot), K x4_8 x5_9 s_10 → Cx D A s.heap (wM cI q s_10) H locs → lv_has ls 7 [(0, .ref (q 0)), (4, .int x4_8), (5, .int x5_9)] → W p l e (Rm 4 92) s m [.ref (q 0), .int x1].toArray below meth c H locs 0 0 (QI below D cI A (wM cI q) post [.ref (q 0), .int x1].toArray s) (F0 m 163 ls [])) (n : Nat), ∀ (x4_8 : Int32) (x5_9 : Int32) (s_10 : St) (H : Heap) (locs : List Loc) (ls : Array Slot), w_X6_idle_L58 post K n x4_8 x5_9 s_10 → Cx D A s.heap (wM cI q s_10) H locs → lv_has ls 7 [(0, .ref (q 0)), (4, .int x4_8), (5, .int x5_9)] → W p l e (Rm 4 92) s m [.ref (q 0), .int x1].toArray below meth c H locs 0 0 (QI below D cI A (wM cI q) post [.ref (q 0), .int x1].toArray s) (F0 m 58 ls []) := by
    intro  K hKK n
    induction n with
    | zero => intro x4_8 x5_9 s_10 H locs ls hw; exact hw.elim
    | succ n ih =>
      intro x4_8 x5_9 s_10 H locs ls hw hC hl
      refine lv_iload hx hb dX6_idle_58 (lv_at hl 2 rfl) ?_
      refine lv_aload_n hx hb dX6_idle_60 rfl (lv_at hl 0 rfl) ?_
      refine cx_get (v := .int (s_10.1 2)) hx hb hts iX6 hown hK hC 0 rfl rfl 2 (by decide) u4 rfl rfl dX6_idle_61 ?_
      refine lv_icmp_ge (tgt := 163) hx hb dX6_idle_64 (by decide) (fun c_11 => ?_) (fun c_11 => ?_)
      · have hw := hw.1 c_11
        exact hKK x4_8 x5_9 s_10 _ _ _ hw hC (lv_sub hl [0, 1, 2] rfl)
      · have hw := hw.2 c_11
        refine lv_iconst (v := 0) hx hb dX6_idle_67 (by decide) ?_
        refine lv_istore (lv' := [(6, .int 0), (0, .ref (q 0)), (4, .int x4_8), (5, .int x5_9)]) hx hb dX6_idle_68 hl (by decide) rfl (fun ls hl => ?_)
        obtain ⟨n, hw⟩ := hw
        refine L70 x5_9 _ (fun x4_40 x6_41 s_42 H locs ls hw hC hl => ?_) n x4_8 0 s_10 _ _ _ hw hC (lv_sub hl [1, 2, 3, 0] rfl)
        refine lv_iinc (v := (x5_9 + 1)) (lv' := [(5, .int (x5_9 + 1)), (0, .ref (q 0)), (4, .int x4_40), (6, .int x6_41)]) hx hb dX6_idle_157 hl (k := 2) rfl rfl (by decide) rfl (fun ls hl => ?_)
        refine lv_goto (tgt := 58) hx hb dX6_idle_160 (by decide) ?_
        exact ih x4_40 (x5_9 + 1) s_42 _ _ _ hw hC (lv_sub hl [1, 2, 0] rfl)
  have J50 : ∀ (s_7 : St) (H : Heap) (locs : List Loc) (ls : Array Slot), w_X6_idle_J50 post s_7 → Cx D A s.heap (wM cI q s_7) H locs → lv_has ls 7 [(0, .ref (q 0))] → W p l e (Rm 4 92) s m [.ref (q 0), .int x1].toArray below meth c H locs 0 0 (QI below D cI A (wM cI q) post [.ref (q 0), .int x1].toArray s) (F0 m 50 ls []) := by
    intro s_7  H locs ls hw hC hl
    refine lv_iconst (v := 0) hx hb dX6_idle_50 (by decide) ?_
    refine lv_istore_n (lv' := [(3, .int 0), (0, .ref (q 0))]) hx hb dX6_idle_51 rfl hl (by decide) rfl (fun ls hl => ?_)
    refine lv_iconst (v := 1) hx hb dX6_idle_52 (by decide) ?_
    refine lv_istore (lv' := [(4, .int 1), (3, .int 0), (0, .ref (q 0))]) hx hb dX6_idle_53 hl (by decide) rfl (fun ls hl => ?_)
    refine lv_iconst (v := 0) hx hb dX6_idle_55 (by decide) ?_
    refine lv_istore (lv' := [(5, .int 0), (4, .int 1), (3, .int 0), (0, .ref (q 0))]) hx hb dX6_idle_56 hl (by decide) rfl (fun ls hl => ?_)
    obtain ⟨n, hw⟩ := hw
    refine L58  _ (fun x4_44 x5_45 s_46 H locs ls hw hC hl => ?_) n 1 0 s_7 _ _ _ hw hC (lv_sub hl [3, 1, 0] rfl)
    refine lv_aload_n hx hb dX6_idle_163 rfl (lv_at hl 0 rfl) ?_
    refine lv_iload hx hb dX6_idle_164 (lv_at hl 1 rfl) ?_
    refine lv_if_eq (tgt := 173) hx hb dX6_idle_166 (by decide) (fun c_47 => ?_) (fun c_47 => ?_)
    · have hw := hw.1 c_47
      refine lv_iconst (v := 0) hx hb dX6_idle_173 (by decide) ?_
      refine cx_callVi0 (As := [.int 0]) (rest := []) ⟨hx, hb, hml, hown, hts⟩ (c_X6_done l D cI q _ s_46 0 _ hw) (cwV 1 hts gX6_idle_X6_done rfl rfl rfl (by decide +kernel) ⟨Nat.le_of_ble_eq_true rfl, Nat.le_of_ble_eq_true rfl⟩) hK hC hA 0 rfl rfl rfl rfl hl.1 rfl (Nat.le_of_ble_eq_true rfl) dX6_idle_174 ⟨Nat.zero_le _, Nat.zero_le _⟩ (fun r_48 u_49 H locs hw hC => ?_)
      exact cx_ret_i (u := u_49) hx hb hr hlocks hK hC hw dX6_idle_177
    · have hw := hw.2 c_47
      refine lv_iconst (v := 1) hx hb dX6_idle_169 (by decide) ?_
      refine lv_goto (tgt := 174) hx hb dX6_idle_170 (by decide) ?_
      refine cx_callVi0 (As := [.int 1]) (rest := []) ⟨hx, hb, hml, hown, hts⟩ (c_X6_done l D cI q _ s_46 1 _ hw) (cwV 1 hts gX6_idle_X6_done rfl rfl rfl (by decide +kernel) ⟨Nat.le_of_ble_eq_true rfl, Nat.le_of_ble_eq_true rfl⟩) hK hC hA 0 rfl rfl rfl rfl hl.1 rfl (Nat.le_of_ble_eq_true rfl) dX6_idle_174 ⟨Nat.zero_le _, Nat.zero_le _⟩ (fun r_50 u_51 H locs hw hC => ?_)
      exact cx_ret_i (u := u_51) hx hb hr hlocks hK hC hw dX6_idle_177
  refine lv_aload_n hx hb dX6_idle_0 rfl (lv_at hl 0 rfl) ?_
  refine lv_iconst (v := 0) hx hb dX6_idle_1 (by decide) ?_
  refine cx_put (v := .int 0) hx hb hts iX6 tyX6 tyX6_ok nmX6 hown hK hC 0 rfl rfl 0 (by decide) u1 rfl rfl (tyX6_ok 0 (by decide)) rfl rfl (Nat.le_of_ble_eq_true rfl) dX6_idle_2 (ws' := (wM cI q ((va_up σ.1 0 0), σ.2))) (wM_i0 cI q _ _) (fun H locs hC => ?_)
  refine lv_aload_n hx hb dX6_idle_5 rfl (lv_at hl 0 rfl) ?_
  refine lv_iload_n hx hb dX6_idle_6 rfl (lv_at hl 1 rfl) ?_
  refine cx_callVi0 (As := [.int x1]) (rest := []) ⟨hx, hb, hml, hown, hts⟩ (c_X6_tieAt l D cI q _ ((va_up σ.1 0 0), σ.2) x1 _ hw) (cwV 1 hts gX6_idle_X6_tieAt rfl rfl rfl (by decide +kernel) ⟨Nat.le_of_ble_eq_true rfl, Nat.le_of_ble_eq_true rfl⟩) hK hC hA 0 rfl rfl rfl rfl hl.1 rfl (Nat.le_of_ble_eq_true rfl) dX6_idle_7 ⟨Nat.zero_le _, Nat.zero_le _⟩ (fun r_1 u_2 H locs hw hC => ?_)
  refine lv_istore_n (lv' := [(2, .int r_1), (0, .ref (q 0)), (1, .int x1)]) hx hb dX6_idle_10 rfl hl (by decide) rfl (fun ls hl => ?_)
  refine lv_iload_n hx hb dX6_idle_11 rfl (lv_at hl 0 rfl) ?_
  refine lv_iconst (v := (-1)) hx hb dX6_idle_12 (by decide) ?_
  refine lv_icmp_ne (tgt := 22) hx hb dX6_idle_13 (by decide) (fun c_3 => ?_) (fun c_3 => ?_)
  · have hw := hw.1 c_3
    refine lv_aload_n hx hb dX6_idle_22 rfl (lv_at hl 1 rfl) ?_
    refine lv_aload_n hx hb dX6_idle_23 rfl (lv_at hl 1 rfl) ?_
    refine cx_get (v := .ref (q 11)) hx hb hts iX6 hown hK hC 0 rfl rfl 19 (by decide) u2 rfl rfl dX6_idle_24 ?_
    refine lv_iconst (v := (-1)) hx hb dX6_idle_27 (by decide) ?_
    refine cx_callVi0 (As := [.ref (q 11), .int (-1)]) (rest := []) ⟨hx, hb, hml, hown, hts⟩ (c_X6_closed_a10 l D cI q _ u_2 (-1) _ hw) (cwV 2 hts gX6_idle_X6_closed rfl rfl rfl (by decide +kernel) ⟨Nat.le_of_ble_eq_true rfl, Nat.le_of_ble_eq_true rfl⟩) hK hC hA 0 rfl rfl rfl rfl hl.1 rfl (Nat.le_of_ble_eq_true rfl) dX6_idle_28 ⟨Nat.zero_le _, Nat.zero_le _⟩ (fun r_4 u_5 H locs hw hC => ?_)
    refine lv_if_eq (tgt := 50) hx hb dX6_idle_31 (by decide) (fun c_6 => ?_) (fun c_6 => ?_)
    · have hw := hw.1 c_6
      exact J50 u_5   _ _ _ hw hC (lv_sub hl [1] rfl)
    · have hw := hw.2 c_6
      refine lv_aload_n hx hb dX6_idle_34 rfl (lv_at hl 1 rfl) ?_
      refine lv_aload_n hx hb dX6_idle_35 rfl (lv_at hl 1 rfl) ?_
      refine cx_get (v := .ref (q 12)) hx hb hts iX6 hown hK hC 0 rfl rfl 20 (by decide) u3 rfl rfl dX6_idle_36 ?_
      refine lv_iload_n hx hb dX6_idle_39 rfl (lv_at hl 0 rfl) ?_
      refine cx_callVi0 (As := [.ref (q 12), .int r_1]) (rest := []) ⟨hx, hb, hml, hown, hts⟩ (c_X6_closed_a11 l D cI q _ u_5 r_1 _ hw) (cwV 2 hts gX6_idle_X6_closed rfl rfl rfl (by decide +kernel) ⟨Nat.le_of_ble_eq_true rfl, Nat.le_of_ble_eq_true rfl⟩) hK hC hA 0 rfl rfl rfl rfl hl.1 rfl (Nat.le_of_ble_eq_true rfl) dX6_idle_40 ⟨Nat.zero_le _, Nat.zero_le _⟩ (fun r_53 u_54 H locs hw hC => ?_)
      refine lv_if_eq (tgt := 50) hx hb dX6_idle_43 (by decide) (fun c_55 => ?_) (fun c_55 => ?_)
      · have hw := hw.1 c_55
        exact J50 u_54   _ _ _ hw hC (lv_sub hl [1] rfl)
      · have hw := hw.2 c_55
        refine lv_iconst (v := 1) hx hb dX6_idle_46 (by decide) ?_
        refine lv_goto (tgt := 51) hx hb dX6_idle_47 (by decide) ?_
        refine lv_istore_n (lv' := [(3, .int 1), (2, .int r_1), (0, .ref (q 0)), (1, .int x1)]) hx hb dX6_idle_51 rfl hl (by decide) rfl (fun ls hl => ?_)
        refine lv_iconst (v := 1) hx hb dX6_idle_52 (by decide) ?_
        refine lv_istore (lv' := [(4, .int 1), (3, .int 1), (2, .int r_1), (0, .ref (q 0)), (1, .int x1)]) hx hb dX6_idle_53 hl (by decide) rfl (fun ls hl => ?_)
        refine lv_iconst (v := 0) hx hb dX6_idle_55 (by decide) ?_
        refine lv_istore (lv' := [(5, .int 0), (4, .int 1), (3, .int 1), (2, .int r_1), (0, .ref (q 0)), (1, .int x1)]) hx hb dX6_idle_56 hl (by decide) rfl (fun ls hl => ?_)
        obtain ⟨n, hw⟩ := hw
        refine L58  _ (fun x4_56 x5_57 s_58 H locs ls hw hC hl => ?_) n 1 0 u_54 _ _ _ hw hC (lv_sub hl [4, 1, 0] rfl)
        refine lv_aload_n hx hb dX6_idle_163 rfl (lv_at hl 0 rfl) ?_
        refine lv_iload hx hb dX6_idle_164 (lv_at hl 1 rfl) ?_
        refine lv_if_eq (tgt := 173) hx hb dX6_idle_166 (by decide) (fun c_59 => ?_) (fun c_59 => ?_)
        · have hw := hw.1 c_59
          refine lv_iconst (v := 0) hx hb dX6_idle_173 (by decide) ?_
          refine cx_callVi0 (As := [.int 0]) (rest := []) ⟨hx, hb, hml, hown, hts⟩ (c_X6_done l D cI q _ s_58 0 _ hw) (cwV 1 hts gX6_idle_X6_done rfl rfl rfl (by decide +kernel) ⟨Nat.le_of_ble_eq_true rfl, Nat.le_of_ble_eq_true rfl⟩) hK hC hA 0 rfl rfl rfl rfl hl.1 rfl (Nat.le_of_ble_eq_true rfl) dX6_idle_174 ⟨Nat.zero_le _, Nat.zero_le _⟩ (fun r_60 u_61 H locs hw hC => ?_)
          exact cx_ret_i (u := u_61) hx hb hr hlocks hK hC hw dX6_idle_177
        · have hw := hw.2 c_59
          refine lv_iconst (v := 1) hx hb dX6_idle_169 (by decide) ?_
          refine lv_goto (tgt := 174) hx hb dX6_idle_170 (by decide) ?_
          refine cx_callVi0 (As := [.int 1]) (rest := []) ⟨hx, hb, hml, hown, hts⟩ (c_X6_done l D cI q _ s_58 1 _ hw) (cwV 1 hts gX6_idle_X6_done rfl rfl rfl (by decide +kernel) ⟨Nat.le_of_ble_eq_true rfl, Nat.le_of_ble_eq_true rfl⟩) hK hC hA 0 rfl rfl rfl rfl hl.1 rfl (Nat.le_of_ble_eq_true rfl) dX6_idle_174 ⟨Nat.zero_le _, Nat.zero_le _⟩ (fun r_62 u_63 H locs hw hC => ?_)
          exact cx_ret_i (u := u_63) hx hb hr hlocks hK hC hw dX6_idle_177
  · have hw := hw.2 c_3
    refine lv_aload_n hx hb dX6_idle_16 rfl (lv_at hl 1 rfl) ?_
    refine lv_iconst (v := 1) hx hb dX6_idle_17 (by decide) ?_
    refine cx_callVi0 (As := [.int 1]) (rest := []) ⟨hx, hb, hml, hown, hts⟩ (c_X6_refused l D cI q _ u_2 1 _ hw) (cwV 1 hts gX6_idle_X6_refused rfl rfl rfl (by decide +kernel) ⟨Nat.le_of_ble_eq_true rfl, Nat.le_of_ble_eq_true rfl⟩) hK hC hA 0 rfl rfl rfl rfl hl.1 rfl (Nat.le_of_ble_eq_true rfl) dX6_idle_18 ⟨Nat.zero_le _, Nat.zero_le _⟩ (fun r_65 u_66 H locs hw hC => ?_)
    exact cx_ret_i (u := u_66) hx hb hr hlocks hK hC hw dX6_idle_21

/-! PictureHeapModel.range(IZ)I (X6_range) -/
set_option maxHeartbeats 1000000 in
set_option maxRecDepth 100000 in
theorem c_X6_range (l : Launch) (D : va_G) (cI : ClassId) (q : Nat → Nat) (sz : Nat) (σ : St) (x1 : Int32) (x2 : Int32) (post : Int32 → St → Prop) (hw : w_X6_range σ x1 x2 post) : Ci l yX6_range wsX6_range 4 92 D cI (wM cI q σ) sz [.ref (q 0), .int x1, .int x2] (wM cI q) post := by
  refine mo_i (cc := cX6_range) (maxL := 4) (ret := (some .int)) (by decide) rfl (Nat.le_of_ble_eq_true rfl) ?_
  intro p e s m below meth c hx hb hr hml hts hown hlocks hK A hA hC ls hl
  have hown : s.vm.findClass RX6 = some m.cls := hown
  have hl : lv_has ls 4 [(0, .ref (q 0)), (1, .int x1), (2, .int x2)] := hl
  have u1 : (Cond.fieldLink RX6 74 "PictureHeapModel" "thrown" "I").before [.ref (q 0), .int x1, .int x2].toArray s = true := hts _ (List.mem_of_getElem? (i := 1) rfl)
  have u3 : (Cond.fieldLink RX6 47 "PictureHeapModel" "bound" "[I").before [.ref (q 0), .int x1, .int x2].toArray s = true := hts _ (List.mem_of_getElem? (i := 3) rfl)
  have u2 : (Cond.constant RX6 172 (-1000000)).before [.ref (q 0), .int x1, .int x2].toArray s = true := hts _ (List.mem_of_getElem? (i := 2) rfl)
  have iX6 : ∀ w ∈ wsX60, w ∈ wsX6_range := fun _ h => List.mem_cons_of_mem _ (List.mem_append_right _ h)
  refine lv_aload_n hx hb dX6_range_0 rfl (lv_at hl 0 rfl) ?_
  refine lv_iconst (v := 0) hx hb dX6_range_1 (by decide) ?_
  refine cx_put (v := .int 0) hx hb hts iX6 tyX6 tyX6_ok nmX6 hown hK hC 0 rfl rfl 0 (by decide) u1 rfl rfl (tyX6_ok 0 (by decide)) rfl rfl (Nat.le_of_ble_eq_true rfl) dX6_range_2 (ws' := (wM cI q ((va_up σ.1 0 0), σ.2))) (wM_i0 cI q _ _) (fun H locs hC => ?_)
  refine lv_aload_n hx hb dX6_range_5 rfl (lv_at hl 0 rfl) ?_
  refine lv_iload_n hx hb dX6_range_6 rfl (lv_at hl 1 rfl) ?_
  refine cx_callVi0 (As := [.int x1]) (rest := []) ⟨hx, hb, hml, hown, hts⟩ (c_X6_isCamera l D cI q _ ((va_up σ.1 0 0), σ.2) x1 _ hw) (cwV 1 hts gX6_range_X6_isCamera rfl rfl rfl (by decide +kernel) ⟨Nat.le_of_ble_eq_true rfl, Nat.le_of_ble_eq_true rfl⟩) hK hC hA 0 rfl rfl rfl rfl hl.1 rfl (Nat.le_of_ble_eq_true rfl) dX6_range_7 ⟨Nat.zero_le _, Nat.zero_le _⟩ (fun r_1 u_2 H locs hw hC => ?_)
  refine lv_if_ne (tgt := 16) hx hb dX6_range_10 (by decide) (fun c_3 => ?_) (fun c_3 => ?_)
  · have hw := hw.1 c_3
    refine lv_aload_n hx hb dX6_range_16 rfl (lv_at hl 0 rfl) ?_
    refine lv_aload_n hx hb dX6_range_17 rfl (lv_at hl 0 rfl) ?_
    refine cx_get (v := .ref (q 11)) hx hb hts iX6 hown hK hC 0 rfl rfl 19 (by decide) u3 rfl rfl dX6_range_18 ?_
    refine lv_iconst (v := (-1)) hx hb dX6_range_21 (by decide) ?_
    refine cx_callVi0 (As := [.ref (q 11), .int (-1)]) (rest := []) ⟨hx, hb, hml, hown, hts⟩ (c_X6_closed_a10 l D cI q _ u_2 (-1) _ hw) (cwV 2 hts gX6_range_X6_closed rfl rfl rfl (by decide +kernel) ⟨Nat.le_of_ble_eq_true rfl, Nat.le_of_ble_eq_true rfl⟩) hK hC hA 0 rfl rfl rfl rfl hl.1 rfl (Nat.le_of_ble_eq_true rfl) dX6_range_22 ⟨Nat.zero_le _, Nat.zero_le _⟩ (fun r_4 u_5 H locs hw hC => ?_)
    refine lv_istore_n (lv' := [(3, .int r_4), (0, .ref (q 0)), (1, .int x1), (2, .int x2)]) hx hb dX6_range_25 rfl hl (by decide) rfl (fun ls hl => ?_)
    refine lv_iload_n hx hb dX6_range_26 rfl (lv_at hl 3 rfl) ?_
    refine lv_if_eq (tgt := 42) hx hb dX6_range_27 (by decide) (fun c_6 => ?_) (fun c_6 => ?_)
    · have hw := hw.1 c_6
      refine lv_aload_n hx hb dX6_range_42 rfl (lv_at hl 1 rfl) ?_
      refine cx_get (v := .ref (q 11)) hx hb hts iX6 hown hK hC 0 rfl rfl 19 (by decide) u3 rfl rfl dX6_range_43 ?_
      refine lv_iload_n hx hb dX6_range_46 rfl (lv_at hl 2 rfl) ?_
      refine cx_iald (f := u_5.2 10) hx hb hK hC 11 rfl hw.1 dX6_range_47 ?_
      have hw := hw.2
      refine lv_ineg hx hb dX6_range_48 ?_
      exact cx_ret_i (u := u_5) hx hb hr hlocks hK hC hw dX6_range_49
    · have hw := hw.2 c_6
      refine lv_aload_n hx hb dX6_range_30 rfl (lv_at hl 1 rfl) ?_
      refine cx_get (v := .ref (q 11)) hx hb hts iX6 hown hK hC 0 rfl rfl 19 (by decide) u3 rfl rfl dX6_range_31 ?_
      refine lv_bipush (v := 8) hx hb dX6_range_34 (by decide) ?_
      refine lv_iload_n hx hb dX6_range_36 rfl (lv_at hl 2 rfl) ?_
      refine lv_imul hx hb dX6_range_37 ?_
      refine cx_iald (f := u_5.2 10) hx hb hK hC 11 rfl hw.1 dX6_range_38 ?_
      have hw := hw.2
      refine lv_goto (tgt := 49) hx hb dX6_range_39 (by decide) ?_
      exact cx_ret_i (u := u_5) hx hb hr hlocks hK hC hw dX6_range_49
  · have hw := hw.2 c_3
    refine lv_ldc (v := (-1000000)) hx hb hown u2 dX6_range_13 ?_
    exact cx_ret_i (u := u_2) hx hb hr hlocks hK hC hw dX6_range_15

/-! PictureHeapModel.mostOf(II)I (X6_mostOf) -/
set_option maxHeartbeats 1000000 in
set_option maxRecDepth 100000 in
theorem c_X6_mostOf (l : Launch) (D : va_G) (cI : ClassId) (q : Nat → Nat) (sz : Nat) (σ : St) (x1 : Int32) (x2 : Int32) (post : Int32 → St → Prop) (hw : w_X6_mostOf σ x1 x2 post) : Ci l yX6_mostOf wsX6_mostOf 0 0 D cI (wM cI q σ) sz [.ref (q 0), .int x1, .int x2] (wM cI q) post := by
  refine mo_i (cc := cX6_mostOf) (maxL := 3) (ret := (some .int)) (by decide) rfl (Nat.le_of_ble_eq_true rfl) ?_
  intro p e s m below meth c hx hb hr hml hts hown hlocks hK A hA hC ls hl
  have hown : s.vm.findClass RX6 = some m.cls := hown
  have hl : lv_has ls 3 [(0, .ref (q 0)), (1, .int x1), (2, .int x2)] := hl
  have u1 : (Cond.fieldLink RX6 23 "PictureHeapModel" "clock" "[I").before [.ref (q 0), .int x1, .int x2].toArray s = true := hts _ (List.mem_of_getElem? (i := 1) rfl)
  have u2 : (Cond.fieldLink RX6 47 "PictureHeapModel" "bound" "[I").before [.ref (q 0), .int x1, .int x2].toArray s = true := hts _ (List.mem_of_getElem? (i := 2) rfl)
  have u3 : (Cond.fieldLink RX6 20 "PictureHeapModel" "camera" "[I").before [.ref (q 0), .int x1, .int x2].toArray s = true := hts _ (List.mem_of_getElem? (i := 3) rfl)
  have iX6 : ∀ w ∈ wsX60, w ∈ wsX6_mostOf := fun _ h => List.mem_cons_of_mem _ (List.mem_append_right _ h)
  refine lv_aload_n hx hb dX6_mostOf_0 rfl (lv_at hl 0 rfl) ?_
  refine cx_get (v := .ref (q 3)) hx hb hts iX6 hown hK hC 0 rfl rfl 11 (by decide) u1 rfl rfl dX6_mostOf_1 ?_
  refine lv_iload_n hx hb dX6_mostOf_4 rfl (lv_at hl 2 rfl) ?_
  refine cx_iald (f := σ.2 2) hx hb hK hC 3 rfl hw.1 dX6_mostOf_5 ?_
  have hw := hw.2
  refine lv_aload_n hx hb dX6_mostOf_6 rfl (lv_at hl 0 rfl) ?_
  refine cx_get (v := .ref (q 3)) hx hb hts iX6 hown hK hC 0 rfl rfl 11 (by decide) u1 rfl rfl dX6_mostOf_7 ?_
  refine lv_iload_n hx hb dX6_mostOf_10 rfl (lv_at hl 1 rfl) ?_
  refine cx_iald (f := σ.2 2) hx hb hK hC 3 rfl hw.1 dX6_mostOf_11 ?_
  have hw := hw.2
  refine lv_isub hx hb dX6_mostOf_12 ?_
  refine lv_aload_n hx hb dX6_mostOf_13 rfl (lv_at hl 0 rfl) ?_
  refine cx_get (v := .ref (q 11)) hx hb hts iX6 hown hK hC 0 rfl rfl 19 (by decide) u2 rfl rfl dX6_mostOf_14 ?_
  refine lv_bipush (v := 8) hx hb dX6_mostOf_17 (by decide) ?_
  refine lv_aload_n hx hb dX6_mostOf_19 rfl (lv_at hl 0 rfl) ?_
  refine cx_get (v := .ref (q 2)) hx hb hts iX6 hown hK hC 0 rfl rfl 10 (by decide) u3 rfl rfl dX6_mostOf_20 ?_
  refine lv_iload_n hx hb dX6_mostOf_23 rfl (lv_at hl 2 rfl) ?_
  refine cx_iald (f := σ.2 1) hx hb hK hC 2 rfl hw.1 dX6_mostOf_24 ?_
  have hw := hw.2
  refine lv_imul hx hb dX6_mostOf_25 ?_
  refine lv_aload_n hx hb dX6_mostOf_26 rfl (lv_at hl 0 rfl) ?_
  refine cx_get (v := .ref (q 2)) hx hb hts iX6 hown hK hC 0 rfl rfl 10 (by decide) u3 rfl rfl dX6_mostOf_27 ?_
  refine lv_iload_n hx hb dX6_mostOf_30 rfl (lv_at hl 1 rfl) ?_
  refine cx_iald (f := σ.2 1) hx hb hK hC 2 rfl hw.1 dX6_mostOf_31 ?_
  have hw := hw.2
  refine lv_iadd hx hb dX6_mostOf_32 ?_
  refine cx_iald (f := σ.2 10) hx hb hK hC 11 rfl hw.1 dX6_mostOf_33 ?_
  have hw := hw.2
  refine lv_iadd hx hb dX6_mostOf_34 ?_
  exact cx_ret_i (u := σ) hx hb hr hlocks hK hC hw dX6_mostOf_35

/-! PictureHeapModel.between(IIZ)I (X6_between) -/
set_option maxHeartbeats 1000000 in
set_option maxRecDepth 100000 in
theorem c_X6_between (l : Launch) (D : va_G) (cI : ClassId) (q : Nat → Nat) (sz : Nat) (σ : St) (x1 : Int32) (x2 : Int32) (x3 : Int32) (post : Int32 → St → Prop) (hw : w_X6_between σ x1 x2 x3 post) : Ci l yX6_between wsX6_between 4 92 D cI (wM cI q σ) sz [.ref (q 0), .int x1, .int x2, .int x3] (wM cI q) post := by
  refine mo_i (cc := cX6_between) (maxL := 5) (ret := (some .int)) (by decide) rfl (Nat.le_of_ble_eq_true rfl) ?_
  intro p e s m below meth c hx hb hr hml hts hown hlocks hK A hA hC ls hl
  have hown : s.vm.findClass RX6 = some m.cls := hown
  have hl : lv_has ls 5 [(0, .ref (q 0)), (1, .int x1), (2, .int x2), (3, .int x3)] := hl
  have u1 : (Cond.fieldLink RX6 74 "PictureHeapModel" "thrown" "I").before [.ref (q 0), .int x1, .int x2, .int x3].toArray s = true := hts _ (List.mem_of_getElem? (i := 1) rfl)
  have u2 : (Cond.constant RX6 172 (-1000000)).before [.ref (q 0), .int x1, .int x2, .int x3].toArray s = true := hts _ (List.mem_of_getElem? (i := 2) rfl)
  have u3 : (Cond.fieldLink RX6 47 "PictureHeapModel" "bound" "[I").before [.ref (q 0), .int x1, .int x2, .int x3].toArray s = true := hts _ (List.mem_of_getElem? (i := 3) rfl)
  have iX6 : ∀ w ∈ wsX60, w ∈ wsX6_between := fun _ h => List.mem_cons_of_mem _ (List.mem_append_right _ h)
  refine lv_aload_n hx hb dX6_between_0 rfl (lv_at hl 0 rfl) ?_
  refine lv_iconst (v := 0) hx hb dX6_between_1 (by decide) ?_
  refine cx_put (v := .int 0) hx hb hts iX6 tyX6 tyX6_ok nmX6 hown hK hC 0 rfl rfl 0 (by decide) u1 rfl rfl (tyX6_ok 0 (by decide)) rfl rfl (Nat.le_of_ble_eq_true rfl) dX6_between_2 (ws' := (wM cI q ((va_up σ.1 0 0), σ.2))) (wM_i0 cI q _ _) (fun H locs hC => ?_)
  refine lv_aload_n hx hb dX6_between_5 rfl (lv_at hl 0 rfl) ?_
  refine lv_iload_n hx hb dX6_between_6 rfl (lv_at hl 1 rfl) ?_
  refine cx_callVi0 (As := [.int x1]) (rest := []) ⟨hx, hb, hml, hown, hts⟩ (c_X6_isPicture l D cI q _ ((va_up σ.1 0 0), σ.2) x1 _ hw) (cwV 1 hts gX6_between_X6_isPicture rfl rfl rfl (by decide +kernel) ⟨Nat.le_of_ble_eq_true rfl, Nat.le_of_ble_eq_true rfl⟩) hK hC hA 0 rfl rfl rfl rfl hl.1 rfl (Nat.le_of_ble_eq_true rfl) dX6_between_7 ⟨Nat.zero_le _, Nat.zero_le _⟩ (fun r_1 u_2 H locs hw hC => ?_)
  refine lv_if_eq (tgt := 21) hx hb dX6_between_10 (by decide) (fun c_3 => ?_) (fun c_3 => ?_)
  · have hw := hw.1 c_3
    refine lv_ldc (v := (-1000000)) hx hb hown u2 dX6_between_21 ?_
    exact cx_ret_i (u := u_2) hx hb hr hlocks hK hC hw dX6_between_23
  · have hw := hw.2 c_3
    refine lv_aload_n hx hb dX6_between_13 rfl (lv_at hl 0 rfl) ?_
    refine lv_iload_n hx hb dX6_between_14 rfl (lv_at hl 2 rfl) ?_
    refine cx_callVi0 (As := [.int x2]) (rest := []) ⟨hx, hb, hml, hown, hts⟩ (c_X6_isPicture l D cI q _ u_2 x2 _ hw) (cwV 1 hts gX6_between_X6_isPicture rfl rfl rfl (by decide +kernel) ⟨Nat.le_of_ble_eq_true rfl, Nat.le_of_ble_eq_true rfl⟩) hK hC hA 0 rfl rfl rfl rfl hl.1 rfl (Nat.le_of_ble_eq_true rfl) dX6_between_15 ⟨Nat.zero_le _, Nat.zero_le _⟩ (fun r_4 u_5 H locs hw hC => ?_)
    refine lv_if_ne (tgt := 24) hx hb dX6_between_18 (by decide) (fun c_6 => ?_) (fun c_6 => ?_)
    · have hw := hw.1 c_6
      refine lv_aload_n hx hb dX6_between_24 rfl (lv_at hl 0 rfl) ?_
      refine lv_aload_n hx hb dX6_between_25 rfl (lv_at hl 0 rfl) ?_
      refine cx_get (v := .ref (q 11)) hx hb hts iX6 hown hK hC 0 rfl rfl 19 (by decide) u3 rfl rfl dX6_between_26 ?_
      refine lv_iconst (v := (-1)) hx hb dX6_between_29 (by decide) ?_
      refine cx_callVi0 (As := [.ref (q 11), .int (-1)]) (rest := []) ⟨hx, hb, hml, hown, hts⟩ (c_X6_closed_a10 l D cI q _ u_5 (-1) _ hw) (cwV 2 hts gX6_between_X6_closed rfl rfl rfl (by decide +kernel) ⟨Nat.le_of_ble_eq_true rfl, Nat.le_of_ble_eq_true rfl⟩) hK hC hA 0 rfl rfl rfl rfl hl.1 rfl (Nat.le_of_ble_eq_true rfl) dX6_between_30 ⟨Nat.zero_le _, Nat.zero_le _⟩ (fun r_7 u_8 H locs hw hC => ?_)
      refine lv_istore (lv' := [(4, .int r_7), (0, .ref (q 0)), (1, .int x1), (2, .int x2), (3, .int x3)]) hx hb dX6_between_33 hl (by decide) rfl (fun ls hl => ?_)
      refine lv_iload_n hx hb dX6_between_35 rfl (lv_at hl 4 rfl) ?_
      refine lv_if_eq (tgt := 48) hx hb dX6_between_36 (by decide) (fun c_9 => ?_) (fun c_9 => ?_)
      · have hw := hw.1 c_9
        refine lv_aload_n hx hb dX6_between_48 rfl (lv_at hl 1 rfl) ?_
        refine lv_iload_n hx hb dX6_between_49 rfl (lv_at hl 3 rfl) ?_
        refine lv_iload_n hx hb dX6_between_50 rfl (lv_at hl 2 rfl) ?_
        refine cx_callVi0 (As := [.int x2, .int x1]) (rest := []) ⟨hx, hb, hml, hown, hts⟩ (c_X6_mostOf l D cI q _ u_8 x2 x1 _ hw) (cwV 2 hts gX6_between_X6_mostOf rfl rfl rfl (by decide +kernel) ⟨Nat.le_of_ble_eq_true rfl, Nat.le_of_ble_eq_true rfl⟩) hK hC hA 0 rfl rfl rfl rfl hl.1 rfl (Nat.le_of_ble_eq_true rfl) dX6_between_51 ⟨Nat.zero_le _, Nat.zero_le _⟩ (fun r_10 u_11 H locs hw hC => ?_)
        refine lv_ineg hx hb dX6_between_54 ?_
        exact cx_ret_i (u := u_11) hx hb hr hlocks hK hC hw dX6_between_55
      · have hw := hw.2 c_9
        refine lv_aload_n hx hb dX6_between_39 rfl (lv_at hl 1 rfl) ?_
        refine lv_iload_n hx hb dX6_between_40 rfl (lv_at hl 2 rfl) ?_
        refine lv_iload_n hx hb dX6_between_41 rfl (lv_at hl 3 rfl) ?_
        refine cx_callVi0 (As := [.int x1, .int x2]) (rest := []) ⟨hx, hb, hml, hown, hts⟩ (c_X6_mostOf l D cI q _ u_8 x1 x2 _ hw) (cwV 2 hts gX6_between_X6_mostOf rfl rfl rfl (by decide +kernel) ⟨Nat.le_of_ble_eq_true rfl, Nat.le_of_ble_eq_true rfl⟩) hK hC hA 0 rfl rfl rfl rfl hl.1 rfl (Nat.le_of_ble_eq_true rfl) dX6_between_42 ⟨Nat.zero_le _, Nat.zero_le _⟩ (fun r_12 u_13 H locs hw hC => ?_)
        refine lv_goto (tgt := 55) hx hb dX6_between_45 (by decide) ?_
        exact cx_ret_i (u := u_13) hx hb hr hlocks hK hC hw dX6_between_55
    · have hw := hw.2 c_6
      refine lv_ldc (v := (-1000000)) hx hb hown u2 dX6_between_21 ?_
      exact cx_ret_i (u := u_5) hx hb hr hlocks hK hC hw dX6_between_23

/-! PictureHeapModel.orderOf(II)I (X6_orderOf) -/
set_option maxHeartbeats 1000000 in
set_option maxRecDepth 100000 in
theorem c_X6_orderOf (l : Launch) (D : va_G) (cI : ClassId) (q : Nat → Nat) (sz : Nat) (σ : St) (x1 : Int32) (x2 : Int32) (post : Int32 → St → Prop) (hw : w_X6_orderOf σ x1 x2 post) : Ci l yX6_orderOf wsX6_orderOf 1 22 D cI (wM cI q σ) sz [.ref (q 0), .int x1, .int x2] (wM cI q) post := by
  refine mo_i (cc := cX6_orderOf) (maxL := 5) (ret := (some .int)) (by decide) rfl (Nat.le_of_ble_eq_true rfl) ?_
  intro p e s m below meth c hx hb hr hml hts hown hlocks hK A hA hC ls hl
  have hown : s.vm.findClass RX6 = some m.cls := hown
  have hl : lv_has ls 5 [(0, .ref (q 0)), (1, .int x1), (2, .int x2)] := hl
  refine lv_aload_n hx hb dX6_orderOf_0 rfl (lv_at hl 0 rfl) ?_
  refine lv_iload_n hx hb dX6_orderOf_1 rfl (lv_at hl 1 rfl) ?_
  refine lv_iload_n hx hb dX6_orderOf_2 rfl (lv_at hl 2 rfl) ?_
  refine cx_callVi0 (As := [.int x1, .int x2]) (rest := []) ⟨hx, hb, hml, hown, hts⟩ (c_X6_mostOf l D cI q _ σ x1 x2 _ hw) (cwV 2 hts gX6_orderOf_X6_mostOf rfl rfl rfl (by decide +kernel) ⟨Nat.le_of_ble_eq_true rfl, Nat.le_of_ble_eq_true rfl⟩) hK hC hA 0 rfl rfl rfl rfl hl.1 rfl (Nat.le_of_ble_eq_true rfl) dX6_orderOf_3 ⟨Nat.zero_le _, Nat.zero_le _⟩ (fun r_1 u_2 H locs hw hC => ?_)
  refine lv_istore_n (lv' := [(3, .int r_1), (0, .ref (q 0)), (1, .int x1), (2, .int x2)]) hx hb dX6_orderOf_6 rfl hl (by decide) rfl (fun ls hl => ?_)
  refine lv_aload_n hx hb dX6_orderOf_7 rfl (lv_at hl 1 rfl) ?_
  refine lv_iload_n hx hb dX6_orderOf_8 rfl (lv_at hl 3 rfl) ?_
  refine lv_iload_n hx hb dX6_orderOf_9 rfl (lv_at hl 2 rfl) ?_
  refine cx_callVi0 (As := [.int x2, .int x1]) (rest := []) ⟨hx, hb, hml, hown, hts⟩ (c_X6_mostOf l D cI q _ u_2 x2 x1 _ hw) (cwV 2 hts gX6_orderOf_X6_mostOf rfl rfl rfl (by decide +kernel) ⟨Nat.le_of_ble_eq_true rfl, Nat.le_of_ble_eq_true rfl⟩) hK hC hA 0 rfl rfl rfl rfl hl.1 rfl (Nat.le_of_ble_eq_true rfl) dX6_orderOf_10 ⟨Nat.zero_le _, Nat.zero_le _⟩ (fun r_3 u_4 H locs hw hC => ?_)
  refine lv_ineg hx hb dX6_orderOf_13 ?_
  refine lv_istore (lv' := [(4, .int (-r_3)), (3, .int r_1), (0, .ref (q 0)), (1, .int x1), (2, .int x2)]) hx hb dX6_orderOf_14 hl (by decide) rfl (fun ls hl => ?_)
  refine lv_iload hx hb dX6_orderOf_16 (lv_at hl 0 rfl) ?_
  refine lv_if_le (tgt := 25) hx hb dX6_orderOf_18 (by decide) (fun c_5 => ?_) (fun c_5 => ?_)
  · have hw := hw.1 c_5
    refine lv_iload_n hx hb dX6_orderOf_25 rfl (lv_at hl 1 rfl) ?_
    refine lv_if_ge (tgt := 33) hx hb dX6_orderOf_26 (by decide) (fun c_6 => ?_) (fun c_6 => ?_)
    · have hw := hw.1 c_6
      refine lv_iload hx hb dX6_orderOf_33 (lv_at hl 0 rfl) ?_
      refine lv_if_ne (tgt := 46) hx hb dX6_orderOf_35 (by decide) (fun c_7 => ?_) (fun c_7 => ?_)
      · have hw := hw.1 c_7
        refine lv_iconst (v := 0) hx hb dX6_orderOf_46 (by decide) ?_
        exact cx_ret_i (u := u_4) hx hb hr hlocks hK hC hw dX6_orderOf_47
      · have hw := hw.2 c_7
        refine lv_iload_n hx hb dX6_orderOf_38 rfl (lv_at hl 1 rfl) ?_
        refine lv_if_ne (tgt := 46) hx hb dX6_orderOf_39 (by decide) (fun c_8 => ?_) (fun c_8 => ?_)
        · have hw := hw.1 c_8
          refine lv_iconst (v := 0) hx hb dX6_orderOf_46 (by decide) ?_
          exact cx_ret_i (u := u_4) hx hb hr hlocks hK hC hw dX6_orderOf_47
        · have hw := hw.2 c_8
          refine lv_iconst (v := 3) hx hb dX6_orderOf_42 (by decide) ?_
          refine lv_goto (tgt := 47) hx hb dX6_orderOf_43 (by decide) ?_
          exact cx_ret_i (u := u_4) hx hb hr hlocks hK hC hw dX6_orderOf_47
    · have hw := hw.2 c_6
      refine lv_iconst (v := 2) hx hb dX6_orderOf_29 (by decide) ?_
      refine lv_goto (tgt := 47) hx hb dX6_orderOf_30 (by decide) ?_
      exact cx_ret_i (u := u_4) hx hb hr hlocks hK hC hw dX6_orderOf_47
  · have hw := hw.2 c_5
    refine lv_iconst (v := 1) hx hb dX6_orderOf_21 (by decide) ?_
    refine lv_goto (tgt := 47) hx hb dX6_orderOf_22 (by decide) ?_
    exact cx_ret_i (u := u_4) hx hb hr hlocks hK hC hw dX6_orderOf_47

/-! PictureHeapModel.order(II)I (X6_order) -/
set_option maxHeartbeats 1000000 in
set_option maxRecDepth 100000 in
theorem c_X6_order (l : Launch) (D : va_G) (cI : ClassId) (q : Nat → Nat) (sz : Nat) (σ : St) (x1 : Int32) (x2 : Int32) (post : Int32 → St → Prop) (hw : w_X6_order σ x1 x2 post) : Ci l yX6_order wsX6_order 4 92 D cI (wM cI q σ) sz [.ref (q 0), .int x1, .int x2] (wM cI q) post := by
  refine mo_i (cc := cX6_order) (maxL := 4) (ret := (some .int)) (by decide) rfl (Nat.le_of_ble_eq_true rfl) ?_
  intro p e s m below meth c hx hb hr hml hts hown hlocks hK A hA hC ls hl
  have hown : s.vm.findClass RX6 = some m.cls := hown
  have hl : lv_has ls 4 [(0, .ref (q 0)), (1, .int x1), (2, .int x2)] := hl
  have u1 : (Cond.fieldLink RX6 74 "PictureHeapModel" "thrown" "I").before [.ref (q 0), .int x1, .int x2].toArray s = true := hts _ (List.mem_of_getElem? (i := 1) rfl)
  have u2 : (Cond.fieldLink RX6 47 "PictureHeapModel" "bound" "[I").before [.ref (q 0), .int x1, .int x2].toArray s = true := hts _ (List.mem_of_getElem? (i := 2) rfl)
  have iX6 : ∀ w ∈ wsX60, w ∈ wsX6_order := fun _ h => List.mem_cons_of_mem _ (List.mem_append_right _ h)
  refine lv_aload_n hx hb dX6_order_0 rfl (lv_at hl 0 rfl) ?_
  refine lv_iconst (v := 0) hx hb dX6_order_1 (by decide) ?_
  refine cx_put (v := .int 0) hx hb hts iX6 tyX6 tyX6_ok nmX6 hown hK hC 0 rfl rfl 0 (by decide) u1 rfl rfl (tyX6_ok 0 (by decide)) rfl rfl (Nat.le_of_ble_eq_true rfl) dX6_order_2 (ws' := (wM cI q ((va_up σ.1 0 0), σ.2))) (wM_i0 cI q _ _) (fun H locs hC => ?_)
  refine lv_aload_n hx hb dX6_order_5 rfl (lv_at hl 0 rfl) ?_
  refine lv_iload_n hx hb dX6_order_6 rfl (lv_at hl 1 rfl) ?_
  refine cx_callVi0 (As := [.int x1]) (rest := []) ⟨hx, hb, hml, hown, hts⟩ (c_X6_isPicture l D cI q _ ((va_up σ.1 0 0), σ.2) x1 _ hw) (cwV 1 hts gX6_order_X6_isPicture rfl rfl rfl (by decide +kernel) ⟨Nat.le_of_ble_eq_true rfl, Nat.le_of_ble_eq_true rfl⟩) hK hC hA 0 rfl rfl rfl rfl hl.1 rfl (Nat.le_of_ble_eq_true rfl) dX6_order_7 ⟨Nat.zero_le _, Nat.zero_le _⟩ (fun r_1 u_2 H locs hw hC => ?_)
  refine lv_if_eq (tgt := 21) hx hb dX6_order_10 (by decide) (fun c_3 => ?_) (fun c_3 => ?_)
  · have hw := hw.1 c_3
    refine lv_iconst (v := (-1)) hx hb dX6_order_21 (by decide) ?_
    exact cx_ret_i (u := u_2) hx hb hr hlocks hK hC hw dX6_order_22
  · have hw := hw.2 c_3
    refine lv_aload_n hx hb dX6_order_13 rfl (lv_at hl 0 rfl) ?_
    refine lv_iload_n hx hb dX6_order_14 rfl (lv_at hl 2 rfl) ?_
    refine cx_callVi0 (As := [.int x2]) (rest := []) ⟨hx, hb, hml, hown, hts⟩ (c_X6_isPicture l D cI q _ u_2 x2 _ hw) (cwV 1 hts gX6_order_X6_isPicture rfl rfl rfl (by decide +kernel) ⟨Nat.le_of_ble_eq_true rfl, Nat.le_of_ble_eq_true rfl⟩) hK hC hA 0 rfl rfl rfl rfl hl.1 rfl (Nat.le_of_ble_eq_true rfl) dX6_order_15 ⟨Nat.zero_le _, Nat.zero_le _⟩ (fun r_4 u_5 H locs hw hC => ?_)
    refine lv_if_ne (tgt := 23) hx hb dX6_order_18 (by decide) (fun c_6 => ?_) (fun c_6 => ?_)
    · have hw := hw.1 c_6
      refine lv_aload_n hx hb dX6_order_23 rfl (lv_at hl 0 rfl) ?_
      refine lv_aload_n hx hb dX6_order_24 rfl (lv_at hl 0 rfl) ?_
      refine cx_get (v := .ref (q 11)) hx hb hts iX6 hown hK hC 0 rfl rfl 19 (by decide) u2 rfl rfl dX6_order_25 ?_
      refine lv_iconst (v := (-1)) hx hb dX6_order_28 (by decide) ?_
      refine cx_callVi0 (As := [.ref (q 11), .int (-1)]) (rest := []) ⟨hx, hb, hml, hown, hts⟩ (c_X6_closed_a10 l D cI q _ u_5 (-1) _ hw) (cwV 2 hts gX6_order_X6_closed rfl rfl rfl (by decide +kernel) ⟨Nat.le_of_ble_eq_true rfl, Nat.le_of_ble_eq_true rfl⟩) hK hC hA 0 rfl rfl rfl rfl hl.1 rfl (Nat.le_of_ble_eq_true rfl) dX6_order_29 ⟨Nat.zero_le _, Nat.zero_le _⟩ (fun r_7 u_8 H locs hw hC => ?_)
      refine lv_istore_n (lv' := [(3, .int r_7), (0, .ref (q 0)), (1, .int x1), (2, .int x2)]) hx hb dX6_order_32 rfl hl (by decide) rfl (fun ls hl => ?_)
      refine lv_aload_n hx hb dX6_order_33 rfl (lv_at hl 1 rfl) ?_
      refine lv_iload_n hx hb dX6_order_34 rfl (lv_at hl 2 rfl) ?_
      refine lv_iload_n hx hb dX6_order_35 rfl (lv_at hl 3 rfl) ?_
      refine cx_callVi0 (As := [.int x1, .int x2]) (rest := []) ⟨hx, hb, hml, hown, hts⟩ (c_X6_orderOf l D cI q _ u_8 x1 x2 _ hw) (cwV 2 hts gX6_order_X6_orderOf rfl rfl rfl (by decide +kernel) ⟨Nat.le_of_ble_eq_true rfl, Nat.le_of_ble_eq_true rfl⟩) hK hC hA 0 rfl rfl rfl rfl hl.1 rfl (Nat.le_of_ble_eq_true rfl) dX6_order_36 ⟨Nat.zero_le _, Nat.zero_le _⟩ (fun r_9 u_10 H locs hw hC => ?_)
      exact cx_ret_i (u := u_10) hx hb hr hlocks hK hC hw dX6_order_39
    · have hw := hw.2 c_6
      refine lv_iconst (v := (-1)) hx hb dX6_order_21 (by decide) ?_
      exact cx_ret_i (u := u_5) hx hb hr hlocks hK hC hw dX6_order_22

/-! PictureHeapModel.unsure()I (X6_unsure) -/
set_option maxHeartbeats 1000000 in
set_option maxRecDepth 100000 in
theorem c_X6_unsure (l : Launch) (D : va_G) (cI : ClassId) (q : Nat → Nat) (sz : Nat) (σ : St) (post : Int32 → St → Prop) (hw : w_X6_unsure σ post) : Ci l yX6_unsure wsX6_unsure 4 92 D cI (wM cI q σ) sz [.ref (q 0)] (wM cI q) post := by
  refine mo_i (cc := cX6_unsure) (maxL := 5) (ret := (some .int)) (by decide) rfl (Nat.le_of_ble_eq_true rfl) ?_
  intro p e s m below meth c hx hb hr hml hts hown hlocks hK A hA hC ls hl
  have hown : s.vm.findClass RX6 = some m.cls := hown
  have hl : lv_has ls 5 [(0, .ref (q 0))] := hl
  have u1 : (Cond.fieldLink RX6 74 "PictureHeapModel" "thrown" "I").before [.ref (q 0)].toArray s = true := hts _ (List.mem_of_getElem? (i := 1) rfl)
  have u2 : (Cond.fieldLink RX6 47 "PictureHeapModel" "bound" "[I").before [.ref (q 0)].toArray s = true := hts _ (List.mem_of_getElem? (i := 2) rfl)
  have u3 : (Cond.fieldLink RX6 93 "PictureHeapModel" "pictures" "I").before [.ref (q 0)].toArray s = true := hts _ (List.mem_of_getElem? (i := 3) rfl)
  have iX6 : ∀ w ∈ wsX60, w ∈ wsX6_unsure := fun _ h => List.mem_cons_of_mem _ (List.mem_append_right _ h)
  have L30 : ∀ (x3_7 : Int32) (K : Int32 → Int32 → St → Prop) (hKK : ∀ (x2_8 : Int32) (x4_9 : Int32) (s_10 : St) (H : Heap) (locs : List Loc) (ls : Array Slot), K x2_8 x4_9 s_10 → Cx D A s.heap (wM cI q s_10) H locs → lv_has ls 5 [(0, .ref (q 0)), (2, .int x2_8), (3, .int x3_7), (4, .int x4_9)] → W p l e (Rm 4 92) s m [.ref (q 0)].toArray below meth c H locs 0 0 (QI below D cI A (wM cI q) post [.ref (q 0)].toArray s) (F0 m 60 ls [])) (n : Nat), ∀ (x2_8 : Int32) (x4_9 : Int32) (s_10 : St) (H : Heap) (locs : List Loc) (ls : Array Slot), w_X6_unsure_L30 x3_7 post K n x2_8 x4_9 s_10 → Cx D A s.heap (wM cI q s_10) H locs → lv_has ls 5 [(0, .ref (q 0)), (2, .int x2_8), (3, .int x3_7), (4, .int x4_9)] → W p l e (Rm 4 92) s m [.ref (q 0)].toArray below meth c H locs 0 0 (QI below D cI A (wM cI q) post [.ref (q 0)].toArray s) (F0 m 30 ls []) := by
    intro x3_7 K hKK n
    induction n with
    | zero => intro x2_8 x4_9 s_10 H locs ls hw; exact hw.elim
    | succ n ih =>
      intro x2_8 x4_9 s_10 H locs ls hw hC hl
      refine lv_iload hx hb dX6_unsure_30 (lv_at hl 3 rfl) ?_
      refine lv_iload_n hx hb dX6_unsure_32 rfl (lv_at hl 2 rfl) ?_
      refine lv_icmp_ge (tgt := 60) hx hb dX6_unsure_33 (by decide) (fun c_11 => ?_) (fun c_11 => ?_)
      · have hw := hw.1 c_11
        exact hKK x2_8 x4_9 s_10 _ _ _ hw hC (lv_sub hl [0, 1, 2, 3] rfl)
      · have hw := hw.2 c_11
        refine lv_iload_n hx hb dX6_unsure_36 rfl (lv_at hl 1 rfl) ?_
        refine lv_aload_n hx hb dX6_unsure_37 rfl (lv_at hl 0 rfl) ?_
        refine lv_iload_n hx hb dX6_unsure_38 rfl (lv_at hl 2 rfl) ?_
        refine lv_iload hx hb dX6_unsure_39 (lv_at hl 3 rfl) ?_
        refine cx_callVi0 (As := [.int x3_7, .int x4_9]) (rest := [.int x2_8]) ⟨hx, hb, hml, hown, hts⟩ (c_X6_orderOf l D cI q _ s_10 x3_7 x4_9 _ hw) (cwV 2 hts gX6_unsure_X6_orderOf rfl rfl rfl (by decide +kernel) ⟨Nat.le_of_ble_eq_true rfl, Nat.le_of_ble_eq_true rfl⟩) hK hC hA 0 rfl rfl rfl rfl hl.1 rfl (Nat.le_of_ble_eq_true rfl) dX6_unsure_41 ⟨Nat.zero_le _, Nat.zero_le _⟩ (fun r_12 u_13 H locs hw hC => ?_)
        refine lv_if_ne (tgt := 51) hx hb dX6_unsure_44 (by decide) (fun c_14 => ?_) (fun c_14 => ?_)
        · have hw := hw.1 c_14
          refine lv_iconst (v := 0) hx hb dX6_unsure_51 (by decide) ?_
          refine lv_iadd hx hb dX6_unsure_52 ?_
          refine lv_istore_n (lv' := [(2, .int (x2_8 + 0)), (0, .ref (q 0)), (3, .int x3_7), (4, .int x4_9)]) hx hb dX6_unsure_53 rfl hl (by decide) rfl (fun ls hl => ?_)
          refine lv_iinc (v := (x4_9 + 1)) (lv' := [(4, .int (x4_9 + 1)), (2, .int (x2_8 + 0)), (0, .ref (q 0)), (3, .int x3_7)]) hx hb dX6_unsure_54 hl (k := 3) rfl rfl (by decide) rfl (fun ls hl => ?_)
          refine lv_goto (tgt := 30) hx hb dX6_unsure_57 (by decide) ?_
          exact ih (x2_8 + 0) (x4_9 + 1) u_13 _ _ _ hw hC (lv_sub hl [2, 1, 3, 0] rfl)
        · have hw := hw.2 c_14
          refine lv_iconst (v := 1) hx hb dX6_unsure_47 (by decide) ?_
          refine lv_goto (tgt := 52) hx hb dX6_unsure_48 (by decide) ?_
          refine lv_iadd hx hb dX6_unsure_52 ?_
          refine lv_istore_n (lv' := [(2, .int (x2_8 + 1)), (0, .ref (q 0)), (3, .int x3_7), (4, .int x4_9)]) hx hb dX6_unsure_53 rfl hl (by decide) rfl (fun ls hl => ?_)
          refine lv_iinc (v := (x4_9 + 1)) (lv' := [(4, .int (x4_9 + 1)), (2, .int (x2_8 + 1)), (0, .ref (q 0)), (3, .int x3_7)]) hx hb dX6_unsure_54 hl (k := 3) rfl rfl (by decide) rfl (fun ls hl => ?_)
          refine lv_goto (tgt := 30) hx hb dX6_unsure_57 (by decide) ?_
          exact ih (x2_8 + 1) (x4_9 + 1) u_13 _ _ _ hw hC (lv_sub hl [2, 1, 3, 0] rfl)
  have L19 : ∀ (K : Int32 → Int32 → St → Prop) (hKK : ∀ (x2_3 : Int32) (x3_4 : Int32) (s_5 : St) (H : Heap) (locs : List Loc) (ls : Array Slot), K x2_3 x3_4 s_5 → Cx D A s.heap (wM cI q s_5) H locs → lv_has ls 5 [(0, .ref (q 0)), (2, .int x2_3), (3, .int x3_4)] → W p l e (Rm 4 92) s m [.ref (q 0)].toArray below meth c H locs 0 0 (QI below D cI A (wM cI q) post [.ref (q 0)].toArray s) (F0 m 66 ls [])) (n : Nat), ∀ (x2_3 : Int32) (x3_4 : Int32) (s_5 : St) (H : Heap) (locs : List Loc) (ls : Array Slot), w_X6_unsure_L19 post K n x2_3 x3_4 s_5 → Cx D A s.heap (wM cI q s_5) H locs → lv_has ls 5 [(0, .ref (q 0)), (2, .int x2_3), (3, .int x3_4)] → W p l e (Rm 4 92) s m [.ref (q 0)].toArray below meth c H locs 0 0 (QI below D cI A (wM cI q) post [.ref (q 0)].toArray s) (F0 m 19 ls []) := by
    intro  K hKK n
    induction n with
    | zero => intro x2_3 x3_4 s_5 H locs ls hw; exact hw.elim
    | succ n ih =>
      intro x2_3 x3_4 s_5 H locs ls hw hC hl
      refine lv_iload_n hx hb dX6_unsure_19 rfl (lv_at hl 2 rfl) ?_
      refine lv_aload_n hx hb dX6_unsure_20 rfl (lv_at hl 0 rfl) ?_
      refine cx_get (v := .int (s_5.1 4)) hx hb hts iX6 hown hK hC 0 rfl rfl 4 (by decide) u3 rfl rfl dX6_unsure_21 ?_
      refine lv_icmp_ge (tgt := 66) hx hb dX6_unsure_24 (by decide) (fun c_6 => ?_) (fun c_6 => ?_)
      · have hw := hw.1 c_6
        exact hKK x2_3 x3_4 s_5 _ _ _ hw hC (lv_sub hl [0, 1, 2] rfl)
      · have hw := hw.2 c_6
        refine lv_iconst (v := 0) hx hb dX6_unsure_27 (by decide) ?_
        refine lv_istore (lv' := [(4, .int 0), (0, .ref (q 0)), (2, .int x2_3), (3, .int x3_4)]) hx hb dX6_unsure_28 hl (by decide) rfl (fun ls hl => ?_)
        obtain ⟨n, hw⟩ := hw
        refine L30 x3_4 _ (fun x2_15 x4_16 s_17 H locs ls hw hC hl => ?_) n x2_3 0 s_5 _ _ _ hw hC (lv_sub hl [1, 2, 3, 0] rfl)
        refine lv_iinc (v := (x3_4 + 1)) (lv' := [(3, .int (x3_4 + 1)), (0, .ref (q 0)), (2, .int x2_15), (4, .int x4_16)]) hx hb dX6_unsure_60 hl (k := 2) rfl rfl (by decide) rfl (fun ls hl => ?_)
        refine lv_goto (tgt := 19) hx hb dX6_unsure_63 (by decide) ?_
        exact ih x2_15 (x3_4 + 1) s_17 _ _ _ hw hC (lv_sub hl [1, 2, 0] rfl)
  refine lv_aload_n hx hb dX6_unsure_0 rfl (lv_at hl 0 rfl) ?_
  refine lv_iconst (v := 0) hx hb dX6_unsure_1 (by decide) ?_
  refine cx_put (v := .int 0) hx hb hts iX6 tyX6 tyX6_ok nmX6 hown hK hC 0 rfl rfl 0 (by decide) u1 rfl rfl (tyX6_ok 0 (by decide)) rfl rfl (Nat.le_of_ble_eq_true rfl) dX6_unsure_2 (ws' := (wM cI q ((va_up σ.1 0 0), σ.2))) (wM_i0 cI q _ _) (fun H locs hC => ?_)
  refine lv_aload_n hx hb dX6_unsure_5 rfl (lv_at hl 0 rfl) ?_
  refine lv_aload_n hx hb dX6_unsure_6 rfl (lv_at hl 0 rfl) ?_
  refine cx_get (v := .ref (q 11)) hx hb hts iX6 hown hK hC 0 rfl rfl 19 (by decide) u2 rfl rfl dX6_unsure_7 ?_
  refine lv_iconst (v := (-1)) hx hb dX6_unsure_10 (by decide) ?_
  refine cx_callVi0 (As := [.ref (q 11), .int (-1)]) (rest := []) ⟨hx, hb, hml, hown, hts⟩ (c_X6_closed_a10 l D cI q _ ((va_up σ.1 0 0), σ.2) (-1) _ hw) (cwV 2 hts gX6_unsure_X6_closed rfl rfl rfl (by decide +kernel) ⟨Nat.le_of_ble_eq_true rfl, Nat.le_of_ble_eq_true rfl⟩) hK hC hA 0 rfl rfl rfl rfl hl.1 rfl (Nat.le_of_ble_eq_true rfl) dX6_unsure_11 ⟨Nat.zero_le _, Nat.zero_le _⟩ (fun r_1 u_2 H locs hw hC => ?_)
  refine lv_istore_n (lv' := [(1, .int r_1), (0, .ref (q 0))]) hx hb dX6_unsure_14 rfl hl (by decide) rfl (fun ls hl => ?_)
  refine lv_iconst (v := 0) hx hb dX6_unsure_15 (by decide) ?_
  refine lv_istore_n (lv' := [(2, .int 0), (1, .int r_1), (0, .ref (q 0))]) hx hb dX6_unsure_16 rfl hl (by decide) rfl (fun ls hl => ?_)
  refine lv_iconst (v := 0) hx hb dX6_unsure_17 (by decide) ?_
  refine lv_istore_n (lv' := [(3, .int 0), (2, .int 0), (1, .int r_1), (0, .ref (q 0))]) hx hb dX6_unsure_18 rfl hl (by decide) rfl (fun ls hl => ?_)
  obtain ⟨n, hw⟩ := hw
  refine L19  _ (fun x2_19 x3_20 s_21 H locs ls hw hC hl => ?_) n 0 0 u_2 _ _ _ hw hC (lv_sub hl [3, 1, 0] rfl)
  refine lv_iload_n hx hb dX6_unsure_66 rfl (lv_at hl 1 rfl) ?_
  exact cx_ret_i (u := s_21) hx hb hr hlocks hK hC hw dX6_unsure_67

/-! PictureHeapModel.known()I (X6_known) -/
set_option maxHeartbeats 1000000 in
set_option maxRecDepth 100000 in
theorem c_X6_known (l : Launch) (D : va_G) (cI : ClassId) (q : Nat → Nat) (sz : Nat) (σ : St) (post : Int32 → St → Prop) (hw : w_X6_known σ post) : Ci l yX6_known wsX6_known 4 92 D cI (wM cI q σ) sz [.ref (q 0)] (wM cI q) post := by
  refine mo_i (cc := cX6_known) (maxL := 4) (ret := (some .int)) (by decide) rfl (Nat.le_of_ble_eq_true rfl) ?_
  intro p e s m below meth c hx hb hr hml hts hown hlocks hK A hA hC ls hl
  have hown : s.vm.findClass RX6 = some m.cls := hown
  have hl : lv_has ls 4 [(0, .ref (q 0))] := hl
  have u1 : (Cond.fieldLink RX6 74 "PictureHeapModel" "thrown" "I").before [.ref (q 0)].toArray s = true := hts _ (List.mem_of_getElem? (i := 1) rfl)
  have u2 : (Cond.fieldLink RX6 47 "PictureHeapModel" "bound" "[I").before [.ref (q 0)].toArray s = true := hts _ (List.mem_of_getElem? (i := 2) rfl)
  have u3 : (Cond.fieldLink RX6 80 "PictureHeapModel" "cameras" "I").before [.ref (q 0)].toArray s = true := hts _ (List.mem_of_getElem? (i := 3) rfl)
  have iX6 : ∀ w ∈ wsX60, w ∈ wsX6_known := fun _ h => List.mem_cons_of_mem _ (List.mem_append_right _ h)
  have L19 : ∀ (K : Int32 → Int32 → St → Prop) (hKK : ∀ (x2_3 : Int32) (x3_4 : Int32) (s_5 : St) (H : Heap) (locs : List Loc) (ls : Array Slot), K x2_3 x3_4 s_5 → Cx D A s.heap (wM cI q s_5) H locs → lv_has ls 4 [(0, .ref (q 0)), (2, .int x2_3), (3, .int x3_4)] → W p l e (Rm 4 92) s m [.ref (q 0)].toArray below meth c H locs 0 0 (QI below D cI A (wM cI q) post [.ref (q 0)].toArray s) (F0 m 60 ls [])) (n : Nat), ∀ (x2_3 : Int32) (x3_4 : Int32) (s_5 : St) (H : Heap) (locs : List Loc) (ls : Array Slot), w_X6_known_L19 post K n x2_3 x3_4 s_5 → Cx D A s.heap (wM cI q s_5) H locs → lv_has ls 4 [(0, .ref (q 0)), (2, .int x2_3), (3, .int x3_4)] → W p l e (Rm 4 92) s m [.ref (q 0)].toArray below meth c H locs 0 0 (QI below D cI A (wM cI q) post [.ref (q 0)].toArray s) (F0 m 19 ls []) := by
    intro  K hKK n
    induction n with
    | zero => intro x2_3 x3_4 s_5 H locs ls hw; exact hw.elim
    | succ n ih =>
      intro x2_3 x3_4 s_5 H locs ls hw hC hl
      refine lv_iload_n hx hb dX6_known_19 rfl (lv_at hl 2 rfl) ?_
      refine lv_aload_n hx hb dX6_known_20 rfl (lv_at hl 0 rfl) ?_
      refine cx_get (v := .int (s_5.1 2)) hx hb hts iX6 hown hK hC 0 rfl rfl 2 (by decide) u3 rfl rfl dX6_known_21 ?_
      refine lv_icmp_ge (tgt := 60) hx hb dX6_known_24 (by decide) (fun c_6 => ?_) (fun c_6 => ?_)
      · have hw := hw.1 c_6
        exact hKK x2_3 x3_4 s_5 _ _ _ hw hC (lv_sub hl [0, 1, 2] rfl)
      · have hw := hw.2 c_6
        refine lv_iload_n hx hb dX6_known_27 rfl (lv_at hl 1 rfl) ?_
        refine lv_aload_n hx hb dX6_known_28 rfl (lv_at hl 0 rfl) ?_
        refine cx_get (v := .ref (q 11)) hx hb hts iX6 hown hK hC 0 rfl rfl 19 (by decide) u2 rfl rfl dX6_known_29 ?_
        refine lv_bipush (v := 8) hx hb dX6_known_32 (by decide) ?_
        refine lv_iload_n hx hb dX6_known_34 rfl (lv_at hl 2 rfl) ?_
        refine lv_imul hx hb dX6_known_35 ?_
        refine cx_iald (f := s_5.2 10) hx hb hK hC 11 rfl hw.1 dX6_known_36 ?_
        have hw := hw.2
        refine lv_aload_n hx hb dX6_known_37 rfl (lv_at hl 0 rfl) ?_
        refine cx_get (v := .ref (q 11)) hx hb hts iX6 hown hK hC 0 rfl rfl 19 (by decide) u2 rfl rfl dX6_known_38 ?_
        refine lv_iload_n hx hb dX6_known_41 rfl (lv_at hl 2 rfl) ?_
        refine cx_iald (f := s_5.2 10) hx hb hK hC 11 rfl hw.1 dX6_known_42 ?_
        have hw := hw.2
        refine lv_ineg hx hb dX6_known_43 ?_
        refine lv_icmp_ne (tgt := 51) hx hb dX6_known_44 (by decide) (fun c_7 => ?_) (fun c_7 => ?_)
        · have hw := hw.1 c_7
          refine lv_iconst (v := 0) hx hb dX6_known_51 (by decide) ?_
          refine lv_iadd hx hb dX6_known_52 ?_
          refine lv_istore_n (lv' := [(2, .int (x2_3 + 0)), (0, .ref (q 0)), (3, .int x3_4)]) hx hb dX6_known_53 rfl hl (by decide) rfl (fun ls hl => ?_)
          refine lv_iinc (v := (x3_4 + 1)) (lv' := [(3, .int (x3_4 + 1)), (2, .int (x2_3 + 0)), (0, .ref (q 0))]) hx hb dX6_known_54 hl (k := 2) rfl rfl (by decide) rfl (fun ls hl => ?_)
          refine lv_goto (tgt := 19) hx hb dX6_known_57 (by decide) ?_
          exact ih (x2_3 + 0) (x3_4 + 1) s_5 _ _ _ hw hC (lv_sub hl [2, 1, 0] rfl)
        · have hw := hw.2 c_7
          refine lv_iconst (v := 1) hx hb dX6_known_47 (by decide) ?_
          refine lv_goto (tgt := 52) hx hb dX6_known_48 (by decide) ?_
          refine lv_iadd hx hb dX6_known_52 ?_
          refine lv_istore_n (lv' := [(2, .int (x2_3 + 1)), (0, .ref (q 0)), (3, .int x3_4)]) hx hb dX6_known_53 rfl hl (by decide) rfl (fun ls hl => ?_)
          refine lv_iinc (v := (x3_4 + 1)) (lv' := [(3, .int (x3_4 + 1)), (2, .int (x2_3 + 1)), (0, .ref (q 0))]) hx hb dX6_known_54 hl (k := 2) rfl rfl (by decide) rfl (fun ls hl => ?_)
          refine lv_goto (tgt := 19) hx hb dX6_known_57 (by decide) ?_
          exact ih (x2_3 + 1) (x3_4 + 1) s_5 _ _ _ hw hC (lv_sub hl [2, 1, 0] rfl)
  refine lv_aload_n hx hb dX6_known_0 rfl (lv_at hl 0 rfl) ?_
  refine lv_iconst (v := 0) hx hb dX6_known_1 (by decide) ?_
  refine cx_put (v := .int 0) hx hb hts iX6 tyX6 tyX6_ok nmX6 hown hK hC 0 rfl rfl 0 (by decide) u1 rfl rfl (tyX6_ok 0 (by decide)) rfl rfl (Nat.le_of_ble_eq_true rfl) dX6_known_2 (ws' := (wM cI q ((va_up σ.1 0 0), σ.2))) (wM_i0 cI q _ _) (fun H locs hC => ?_)
  refine lv_aload_n hx hb dX6_known_5 rfl (lv_at hl 0 rfl) ?_
  refine lv_aload_n hx hb dX6_known_6 rfl (lv_at hl 0 rfl) ?_
  refine cx_get (v := .ref (q 11)) hx hb hts iX6 hown hK hC 0 rfl rfl 19 (by decide) u2 rfl rfl dX6_known_7 ?_
  refine lv_iconst (v := (-1)) hx hb dX6_known_10 (by decide) ?_
  refine cx_callVi0 (As := [.ref (q 11), .int (-1)]) (rest := []) ⟨hx, hb, hml, hown, hts⟩ (c_X6_closed_a10 l D cI q _ ((va_up σ.1 0 0), σ.2) (-1) _ hw) (cwV 2 hts gX6_known_X6_closed rfl rfl rfl (by decide +kernel) ⟨Nat.le_of_ble_eq_true rfl, Nat.le_of_ble_eq_true rfl⟩) hK hC hA 0 rfl rfl rfl rfl hl.1 rfl (Nat.le_of_ble_eq_true rfl) dX6_known_11 ⟨Nat.zero_le _, Nat.zero_le _⟩ (fun r_1 u_2 H locs hw hC => ?_)
  refine lv_istore_n (lv' := [(1, .int r_1), (0, .ref (q 0))]) hx hb dX6_known_14 rfl hl (by decide) rfl (fun ls hl => ?_)
  refine lv_iconst (v := 0) hx hb dX6_known_15 (by decide) ?_
  refine lv_istore_n (lv' := [(2, .int 0), (1, .int r_1), (0, .ref (q 0))]) hx hb dX6_known_16 rfl hl (by decide) rfl (fun ls hl => ?_)
  refine lv_iconst (v := 0) hx hb dX6_known_17 (by decide) ?_
  refine lv_istore_n (lv' := [(3, .int 0), (2, .int 0), (1, .int r_1), (0, .ref (q 0))]) hx hb dX6_known_18 rfl hl (by decide) rfl (fun ls hl => ?_)
  obtain ⟨n, hw⟩ := hw
  refine L19  _ (fun x2_8 x3_9 s_10 H locs ls hw hC hl => ?_) n 0 0 u_2 _ _ _ hw hC (lv_sub hl [3, 1, 0] rfl)
  refine lv_iload_n hx hb dX6_known_60 rfl (lv_at hl 1 rfl) ?_
  exact cx_ret_i (u := s_10) hx hb hr hlocks hK hC hw dX6_known_61

/-! PictureHeapModel.timeOf(I)I (X6_timeOf) -/
set_option maxHeartbeats 1000000 in
set_option maxRecDepth 100000 in
theorem c_X6_timeOf (l : Launch) (D : va_G) (cI : ClassId) (q : Nat → Nat) (sz : Nat) (σ : St) (x1 : Int32) (post : Int32 → St → Prop) (hw : w_X6_timeOf σ x1 post) : Ci l yX6_timeOf wsX6_timeOf 0 0 D cI (wM cI q σ) sz [.ref (q 0), .int x1] (wM cI q) post := by
  refine mo_i (cc := cX6_timeOf) (maxL := 2) (ret := (some .int)) (by decide) rfl (Nat.le_of_ble_eq_true rfl) ?_
  intro p e s m below meth c hx hb hr hml hts hown hlocks hK A hA hC ls hl
  have hown : s.vm.findClass RX6 = some m.cls := hown
  have hl : lv_has ls 2 [(0, .ref (q 0)), (1, .int x1)] := hl
  have u1 : (Cond.fieldLink RX6 23 "PictureHeapModel" "clock" "[I").before [.ref (q 0), .int x1].toArray s = true := hts _ (List.mem_of_getElem? (i := 1) rfl)
  have u2 : (Cond.fieldLink RX6 68 "PictureHeapModel" "offset" "[I").before [.ref (q 0), .int x1].toArray s = true := hts _ (List.mem_of_getElem? (i := 2) rfl)
  have u3 : (Cond.fieldLink RX6 20 "PictureHeapModel" "camera" "[I").before [.ref (q 0), .int x1].toArray s = true := hts _ (List.mem_of_getElem? (i := 3) rfl)
  have iX6 : ∀ w ∈ wsX60, w ∈ wsX6_timeOf := fun _ h => List.mem_cons_of_mem _ (List.mem_append_right _ h)
  refine lv_aload_n hx hb dX6_timeOf_0 rfl (lv_at hl 0 rfl) ?_
  refine cx_get (v := .ref (q 3)) hx hb hts iX6 hown hK hC 0 rfl rfl 11 (by decide) u1 rfl rfl dX6_timeOf_1 ?_
  refine lv_iload_n hx hb dX6_timeOf_4 rfl (lv_at hl 1 rfl) ?_
  refine cx_iald (f := σ.2 2) hx hb hK hC 3 rfl hw.1 dX6_timeOf_5 ?_
  have hw := hw.2
  refine lv_aload_n hx hb dX6_timeOf_6 rfl (lv_at hl 0 rfl) ?_
  refine cx_get (v := .ref (q 17)) hx hb hts iX6 hown hK hC 0 rfl rfl 27 (by decide) u2 rfl rfl dX6_timeOf_7 ?_
  refine lv_aload_n hx hb dX6_timeOf_10 rfl (lv_at hl 0 rfl) ?_
  refine cx_get (v := .ref (q 2)) hx hb hts iX6 hown hK hC 0 rfl rfl 10 (by decide) u3 rfl rfl dX6_timeOf_11 ?_
  refine lv_iload_n hx hb dX6_timeOf_14 rfl (lv_at hl 1 rfl) ?_
  refine cx_iald (f := σ.2 1) hx hb hK hC 2 rfl hw.1 dX6_timeOf_15 ?_
  have hw := hw.2
  refine cx_iald (f := σ.2 16) hx hb hK hC 17 rfl hw.1 dX6_timeOf_16 ?_
  have hw := hw.2
  refine lv_iadd hx hb dX6_timeOf_17 ?_
  exact cx_ret_i (u := σ) hx hb hr hlocks hK hC hw dX6_timeOf_18

/-! PictureHeapModel.isEarlier(II)Z (X6_isEarlier) -/
set_option maxHeartbeats 1000000 in
set_option maxRecDepth 100000 in
theorem c_X6_isEarlier (l : Launch) (D : va_G) (cI : ClassId) (q : Nat → Nat) (sz : Nat) (σ : St) (x1 : Int32) (x2 : Int32) (post : Int32 → St → Prop) (hw : w_X6_isEarlier σ x1 x2 post) : Ci l yX6_isEarlier wsX6_isEarlier 1 21 D cI (wM cI q σ) sz [.ref (q 0), .int x1, .int x2] (wM cI q) post := by
  refine mo_i (cc := cX6_isEarlier) (maxL := 5) (ret := (some .boolean)) (by decide) rfl (Nat.le_of_ble_eq_true rfl) ?_
  intro p e s m below meth c hx hb hr hml hts hown hlocks hK A hA hC ls hl
  have hown : s.vm.findClass RX6 = some m.cls := hown
  have hl : lv_has ls 5 [(0, .ref (q 0)), (1, .int x1), (2, .int x2)] := hl
  have u1 : (Cond.fieldLink RX6 20 "PictureHeapModel" "camera" "[I").before [.ref (q 0), .int x1, .int x2].toArray s = true := hts _ (List.mem_of_getElem? (i := 1) rfl)
  have iX6 : ∀ w ∈ wsX60, w ∈ wsX6_isEarlier := fun _ h => List.mem_cons_of_mem _ (List.mem_append_right _ h)
  refine lv_aload_n hx hb dX6_isEarlier_0 rfl (lv_at hl 0 rfl) ?_
  refine lv_iload_n hx hb dX6_isEarlier_1 rfl (lv_at hl 1 rfl) ?_
  refine cx_callVi0 (As := [.int x1]) (rest := []) ⟨hx, hb, hml, hown, hts⟩ (c_X6_timeOf l D cI q _ σ x1 _ hw) (cwV 1 hts gX6_isEarlier_X6_timeOf rfl rfl rfl (by decide +kernel) ⟨Nat.le_of_ble_eq_true rfl, Nat.le_of_ble_eq_true rfl⟩) hK hC hA 0 rfl rfl rfl rfl hl.1 rfl (Nat.le_of_ble_eq_true rfl) dX6_isEarlier_2 ⟨Nat.zero_le _, Nat.zero_le _⟩ (fun r_1 u_2 H locs hw hC => ?_)
  refine lv_istore_n (lv' := [(3, .int r_1), (0, .ref (q 0)), (1, .int x1), (2, .int x2)]) hx hb dX6_isEarlier_5 rfl hl (by decide) rfl (fun ls hl => ?_)
  refine lv_aload_n hx hb dX6_isEarlier_6 rfl (lv_at hl 1 rfl) ?_
  refine lv_iload_n hx hb dX6_isEarlier_7 rfl (lv_at hl 3 rfl) ?_
  refine cx_callVi0 (As := [.int x2]) (rest := []) ⟨hx, hb, hml, hown, hts⟩ (c_X6_timeOf l D cI q _ u_2 x2 _ hw) (cwV 1 hts gX6_isEarlier_X6_timeOf rfl rfl rfl (by decide +kernel) ⟨Nat.le_of_ble_eq_true rfl, Nat.le_of_ble_eq_true rfl⟩) hK hC hA 0 rfl rfl rfl rfl hl.1 rfl (Nat.le_of_ble_eq_true rfl) dX6_isEarlier_8 ⟨Nat.zero_le _, Nat.zero_le _⟩ (fun r_3 u_4 H locs hw hC => ?_)
  refine lv_istore (lv' := [(4, .int r_3), (3, .int r_1), (0, .ref (q 0)), (1, .int x1), (2, .int x2)]) hx hb dX6_isEarlier_11 hl (by decide) rfl (fun ls hl => ?_)
  refine lv_iload_n hx hb dX6_isEarlier_13 rfl (lv_at hl 1 rfl) ?_
  refine lv_iload hx hb dX6_isEarlier_14 (lv_at hl 0 rfl) ?_
  refine lv_icmp_eq (tgt := 31) hx hb dX6_isEarlier_16 (by decide) (fun c_5 => ?_) (fun c_5 => ?_)
  · have hw := hw.1 c_5
    refine lv_aload_n hx hb dX6_isEarlier_31 rfl (lv_at hl 2 rfl) ?_
    refine cx_get (v := .ref (q 2)) hx hb hts iX6 hown hK hC 0 rfl rfl 10 (by decide) u1 rfl rfl dX6_isEarlier_32 ?_
    refine lv_iload_n hx hb dX6_isEarlier_35 rfl (lv_at hl 3 rfl) ?_
    refine cx_iald (f := u_4.2 1) hx hb hK hC 2 rfl hw.1 dX6_isEarlier_36 ?_
    have hw := hw.2
    refine lv_aload_n hx hb dX6_isEarlier_37 rfl (lv_at hl 2 rfl) ?_
    refine cx_get (v := .ref (q 2)) hx hb hts iX6 hown hK hC 0 rfl rfl 10 (by decide) u1 rfl rfl dX6_isEarlier_38 ?_
    refine lv_iload_n hx hb dX6_isEarlier_41 rfl (lv_at hl 4 rfl) ?_
    refine cx_iald (f := u_4.2 1) hx hb hK hC 2 rfl hw.1 dX6_isEarlier_42 ?_
    have hw := hw.2
    refine lv_icmp_eq (tgt := 69) hx hb dX6_isEarlier_43 (by decide) (fun c_6 => ?_) (fun c_6 => ?_)
    · have hw := hw.1 c_6
      refine lv_iload_n hx hb dX6_isEarlier_69 rfl (lv_at hl 3 rfl) ?_
      refine lv_iload_n hx hb dX6_isEarlier_70 rfl (lv_at hl 4 rfl) ?_
      refine lv_icmp_ge (tgt := 78) hx hb dX6_isEarlier_71 (by decide) (fun c_7 => ?_) (fun c_7 => ?_)
      · have hw := hw.1 c_7
        refine lv_iconst (v := 0) hx hb dX6_isEarlier_78 (by decide) ?_
        exact cx_ret_z (u := u_4) hx hb hr hlocks hK hC rfl hw dX6_isEarlier_79
      · have hw := hw.2 c_7
        refine lv_iconst (v := 1) hx hb dX6_isEarlier_74 (by decide) ?_
        refine lv_goto (tgt := 79) hx hb dX6_isEarlier_75 (by decide) ?_
        exact cx_ret_z (u := u_4) hx hb hr hlocks hK hC rfl hw dX6_isEarlier_79
    · have hw := hw.2 c_6
      refine lv_aload_n hx hb dX6_isEarlier_46 rfl (lv_at hl 2 rfl) ?_
      refine cx_get (v := .ref (q 2)) hx hb hts iX6 hown hK hC 0 rfl rfl 10 (by decide) u1 rfl rfl dX6_isEarlier_47 ?_
      refine lv_iload_n hx hb dX6_isEarlier_50 rfl (lv_at hl 3 rfl) ?_
      refine cx_iald (f := u_4.2 1) hx hb hK hC 2 rfl hw.1 dX6_isEarlier_51 ?_
      have hw := hw.2
      refine lv_aload_n hx hb dX6_isEarlier_52 rfl (lv_at hl 2 rfl) ?_
      refine cx_get (v := .ref (q 2)) hx hb hts iX6 hown hK hC 0 rfl rfl 10 (by decide) u1 rfl rfl dX6_isEarlier_53 ?_
      refine lv_iload_n hx hb dX6_isEarlier_56 rfl (lv_at hl 4 rfl) ?_
      refine cx_iald (f := u_4.2 1) hx hb hK hC 2 rfl hw.1 dX6_isEarlier_57 ?_
      have hw := hw.2
      refine lv_icmp_ge (tgt := 65) hx hb dX6_isEarlier_58 (by decide) (fun c_8 => ?_) (fun c_8 => ?_)
      · have hw := hw.1 c_8
        refine lv_iconst (v := 0) hx hb dX6_isEarlier_65 (by decide) ?_
        refine lv_goto (tgt := 79) hx hb dX6_isEarlier_66 (by decide) ?_
        exact cx_ret_z (u := u_4) hx hb hr hlocks hK hC rfl hw dX6_isEarlier_79
      · have hw := hw.2 c_8
        refine lv_iconst (v := 1) hx hb dX6_isEarlier_61 (by decide) ?_
        refine lv_goto (tgt := 79) hx hb dX6_isEarlier_62 (by decide) ?_
        exact cx_ret_z (u := u_4) hx hb hr hlocks hK hC rfl hw dX6_isEarlier_79
  · have hw := hw.2 c_5
    refine lv_iload_n hx hb dX6_isEarlier_19 rfl (lv_at hl 1 rfl) ?_
    refine lv_iload hx hb dX6_isEarlier_20 (lv_at hl 0 rfl) ?_
    refine lv_icmp_ge (tgt := 29) hx hb dX6_isEarlier_22 (by decide) (fun c_9 => ?_) (fun c_9 => ?_)
    · have hw := hw.1 c_9
      refine lv_iconst (v := 0) hx hb dX6_isEarlier_29 (by decide) ?_
      exact cx_ret_z (u := u_4) hx hb hr hlocks hK hC rfl hw dX6_isEarlier_30
    · have hw := hw.2 c_9
      refine lv_iconst (v := 1) hx hb dX6_isEarlier_25 (by decide) ?_
      refine lv_goto (tgt := 30) hx hb dX6_isEarlier_26 (by decide) ?_
      exact cx_ret_z (u := u_4) hx hb hr hlocks hK hC rfl hw dX6_isEarlier_30

/-! PictureHeapModel.put()I (X6_put) -/
set_option maxHeartbeats 1000000 in
set_option maxRecDepth 100000 in
theorem c_X6_put (l : Launch) (D : va_G) (cI : ClassId) (q : Nat → Nat) (sz : Nat) (σ : St) (post : Int32 → St → Prop) (hw : w_X6_put σ post) : Ci l yX6_put wsX6_put 4 92 D cI (wM cI q σ) sz [.ref (q 0)] (wM cI q) post := by
  refine mo_i (cc := cX6_put) (maxL := 5) (ret := (some .int)) (by decide) rfl (Nat.le_of_ble_eq_true rfl) ?_
  intro p e s m below meth c hx hb hr hml hts hown hlocks hK A hA hC ls hl
  have hown : s.vm.findClass RX6 = some m.cls := hown
  have hl : lv_has ls 5 [(0, .ref (q 0))] := hl
  have u1 : (Cond.fieldLink RX6 74 "PictureHeapModel" "thrown" "I").before [.ref (q 0)].toArray s = true := hts _ (List.mem_of_getElem? (i := 1) rfl)
  have u2 : (Cond.fieldLink RX6 47 "PictureHeapModel" "bound" "[I").before [.ref (q 0)].toArray s = true := hts _ (List.mem_of_getElem? (i := 2) rfl)
  have u3 : (Cond.fieldLink RX6 80 "PictureHeapModel" "cameras" "I").before [.ref (q 0)].toArray s = true := hts _ (List.mem_of_getElem? (i := 3) rfl)
  have u4 : (Cond.fieldLink RX6 68 "PictureHeapModel" "offset" "[I").before [.ref (q 0)].toArray s = true := hts _ (List.mem_of_getElem? (i := 4) rfl)
  have u5 : (Cond.fieldLink RX6 182 "PictureHeapModel" "putCameras" "I").before [.ref (q 0)].toArray s = true := hts _ (List.mem_of_getElem? (i := 5) rfl)
  have u6 : (Cond.fieldLink RX6 93 "PictureHeapModel" "pictures" "I").before [.ref (q 0)].toArray s = true := hts _ (List.mem_of_getElem? (i := 6) rfl)
  have u7 : (Cond.fieldLink RX6 65 "PictureHeapModel" "rows" "I").before [.ref (q 0)].toArray s = true := hts _ (List.mem_of_getElem? (i := 7) rfl)
  have u8 : (Cond.fieldLink RX6 71 "PictureHeapModel" "row" "[I").before [.ref (q 0)].toArray s = true := hts _ (List.mem_of_getElem? (i := 8) rfl)
  have iX6 : ∀ w ∈ wsX60, w ∈ wsX6_put := fun _ h => List.mem_cons_of_mem _ (List.mem_append_right _ h)
  have J68 : ∀ (x2_8 : Int32) (z_10 : Int32) (z_11 : Int32) (s_9 : St) (K17 : Int32 → St → Prop) (hK17 : ∀ (x2 : Int32) (u : St) (H : Heap) (locs : List Loc) (ls : Array Slot), K17 x2 u → Cx D A s.heap (wM cI q u) H locs → lv_has ls 5 [(0, .ref (q 0)), (2, .int x2)] → W p l e (Rm 4 92) s m [.ref (q 0)].toArray below meth c H locs 0 0 (QI below D cI A (wM cI q) post [.ref (q 0)].toArray s) (F0 m 17 ls [])) (H : Heap) (locs : List Loc) (ls : Array Slot), w_X6_put_J68 post K17 x2_8 z_10 z_11 s_9 → Cx D A s.heap (wM cI q s_9) H locs → lv_has ls 5 [(0, .ref (q 0)), (2, .int x2_8)] → W p l e (Rm 4 92) s m [.ref (q 0)].toArray below meth c H locs 0 0 (QI below D cI A (wM cI q) post [.ref (q 0)].toArray s) (F0 m 68 ls [.int z_10, .int z_11, .ref (q 17)]) := by
    intro x2_8 z_10 z_11 s_9 K17 hK17 H locs ls hw hC hl
    refine cx_iast (f := s_9.2 16) hx hb hK hC 17 rfl hw.1 dX6_put_68 (ws' := (wM cI q (s_9.1, (va_up s_9.2 16 (upd (s_9.2 16) (Int32.toNatClampNeg z_11) z_10))))) (wM_a16 cI q _ _) (fun H locs hC => ?_)
    have hw := hw.2
    refine lv_aload_n hx hb dX6_put_69 rfl (lv_at hl 0 rfl) ?_
    refine cx_get (v := .ref (q 11)) hx hb hts iX6 hown hK hC 0 rfl rfl 19 (by decide) u2 rfl rfl dX6_put_70 ?_
    refine lv_iload_n hx hb dX6_put_73 rfl (lv_at hl 1 rfl) ?_
    refine lv_iconst (v := 0) hx hb dX6_put_74 (by decide) ?_
    refine lv_aload_n hx hb dX6_put_75 rfl (lv_at hl 0 rfl) ?_
    refine cx_get (v := .ref (q 17)) hx hb hts iX6 hown hK hC 0 rfl rfl 27 (by decide) u4 rfl rfl dX6_put_76 ?_
    refine lv_iload_n hx hb dX6_put_79 rfl (lv_at hl 1 rfl) ?_
    refine cx_iald (f := (upd (s_9.2 16) (Int32.toNatClampNeg z_11) z_10)) hx hb hK hC 17 rfl hw.1 dX6_put_80 ?_
    have hw := hw.2
    refine cx_callSv (As := [.ref (q 11), .int x2_8, .int 0, .int ((upd (s_9.2 16) (Int32.toNatClampNeg z_11) z_10) (Int32.toNatClampNeg x2_8))]) (rest := []) (ws' := fun u_13 => (wM cI q (s_9.1, (va_up (va_up s_9.2 16 (upd (s_9.2 16) (Int32.toNatClampNeg z_11) z_10)) 10 u_13)))) ⟨hx, hb, hml, hown, hts⟩ (c_X6_least l D cI (q 11) _ (s_9.2 10) x2_8 0 ((upd (s_9.2 16) (Int32.toNatClampNeg z_11) z_10) (Int32.toNatClampNeg x2_8)) _ hw) (va_cwS 4 hts gX6_put_X6_least rfl rfl rfl (by decide +kernel) ⟨Nat.le_of_ble_eq_true rfl, Nat.le_of_ble_eq_true rfl⟩) hK hC hA [11] [0, 1, 2, 3, 4, 5, 6, 7, 8, 9, 10, 12, 13, 14, 15, 16, 17, 18] (by decide) rfl (wr := [_, _, _, _, _, _, _, _, _, _, _, _, _, _, _, _, _, _]) rfl (by decide) (by decide) rfl hl.1 rfl (Nat.le_of_ble_eq_true rfl) dX6_put_81 ⟨Nat.zero_le _, Nat.zero_le _⟩ [0, 1, 2, 3, 4, 5, 6, 7, 8, 9, 10, 18, 11, 12, 13, 14, 15, 16, 17] (by decide) (fun _ => rfl) (fun u_13 H locs hw hC => ?_)
    refine lv_aload_n hx hb dX6_put_84 rfl (lv_at hl 0 rfl) ?_
    refine cx_get (v := .ref (q 11)) hx hb hts iX6 hown hK hC 0 rfl rfl 19 (by decide) u2 rfl rfl dX6_put_85 ?_
    refine lv_iconst (v := 0) hx hb dX6_put_88 (by decide) ?_
    refine lv_iload_n hx hb dX6_put_89 rfl (lv_at hl 1 rfl) ?_
    refine lv_aload_n hx hb dX6_put_90 rfl (lv_at hl 0 rfl) ?_
    refine cx_get (v := .ref (q 17)) hx hb hts iX6 hown hK hC 0 rfl rfl 27 (by decide) u4 rfl rfl dX6_put_91 ?_
    refine lv_iload_n hx hb dX6_put_94 rfl (lv_at hl 1 rfl) ?_
    refine cx_iald (f := (upd (s_9.2 16) (Int32.toNatClampNeg z_11) z_10)) hx hb hK hC 17 rfl hw.1 dX6_put_95 ?_
    have hw := hw.2
    refine lv_ineg hx hb dX6_put_96 ?_
    refine cx_callSv (As := [.ref (q 11), .int 0, .int x2_8, .int (-((upd (s_9.2 16) (Int32.toNatClampNeg z_11) z_10) (Int32.toNatClampNeg x2_8)))]) (rest := []) (ws' := fun u_15 => (wM cI q (s_9.1, (va_up (va_up (va_up s_9.2 16 (upd (s_9.2 16) (Int32.toNatClampNeg z_11) z_10)) 10 u_13) 10 u_15)))) ⟨hx, hb, hml, hown, hts⟩ (c_X6_least l D cI (q 11) _ (u_13) 0 x2_8 (-((upd (s_9.2 16) (Int32.toNatClampNeg z_11) z_10) (Int32.toNatClampNeg x2_8))) _ hw) (va_cwS 4 hts gX6_put_X6_least rfl rfl rfl (by decide +kernel) ⟨Nat.le_of_ble_eq_true rfl, Nat.le_of_ble_eq_true rfl⟩) hK hC hA [11] [0, 1, 2, 3, 4, 5, 6, 7, 8, 9, 10, 12, 13, 14, 15, 16, 17, 18] (by decide) rfl (wr := [_, _, _, _, _, _, _, _, _, _, _, _, _, _, _, _, _, _]) rfl (by decide) (by decide) rfl hl.1 rfl (Nat.le_of_ble_eq_true rfl) dX6_put_97 ⟨Nat.zero_le _, Nat.zero_le _⟩ [0, 1, 2, 3, 4, 5, 6, 7, 8, 9, 10, 18, 11, 12, 13, 14, 15, 16, 17] (by decide) (fun _ => rfl) (fun u_15 H locs hw hC => ?_)
    refine lv_aload_n hx hb dX6_put_100 rfl (lv_at hl 0 rfl) ?_
    refine cx_get (v := .ref (q 11)) hx hb hts iX6 hown hK hC 0 rfl rfl 19 (by decide) u2 rfl rfl dX6_put_101 ?_
    refine cx_callSi (As := [.ref (q 11)]) (rest := []) (ws' := fun u_17 => (wM cI q (s_9.1, (va_up (va_up (va_up (va_up s_9.2 16 (upd (s_9.2 16) (Int32.toNatClampNeg z_11) z_10)) 10 u_13) 10 u_15) 10 u_17)))) ⟨hx, hb, hml, hown, hts⟩ (c_X6_closes l D cI (q 11) _ (u_15)  _ hw) (va_cwS 1 hts gX6_put_X6_closes rfl rfl rfl (by decide +kernel) ⟨Nat.le_of_ble_eq_true rfl, Nat.le_of_ble_eq_true rfl⟩) hK hC hA [11] [0, 1, 2, 3, 4, 5, 6, 7, 8, 9, 10, 12, 13, 14, 15, 16, 17, 18] (by decide) rfl (wr := [_, _, _, _, _, _, _, _, _, _, _, _, _, _, _, _, _, _]) rfl (by decide) (by decide) rfl hl.1 rfl (Nat.le_of_ble_eq_true rfl) dX6_put_104 ⟨Nat.zero_le _, Nat.zero_le _⟩ [0, 1, 2, 3, 4, 5, 6, 7, 8, 9, 10, 18, 11, 12, 13, 14, 15, 16, 17] (by decide) (fun _ => rfl) (fun r_16 u_17 H locs hw hC => ?_)
    refine lv_istore_n (lv' := [(1, .int r_16), (0, .ref (q 0)), (2, .int x2_8)]) hx hb dX6_put_107 rfl hl (by decide) rfl (fun ls hl => ?_)
    refine lv_iinc (v := (x2_8 + 1)) (lv' := [(2, .int (x2_8 + 1)), (1, .int r_16), (0, .ref (q 0))]) hx hb dX6_put_108 hl (k := 2) rfl rfl (by decide) rfl (fun ls hl => ?_)
    refine lv_goto (tgt := 17) hx hb dX6_put_111 (by decide) ?_
    exact hK17 (x2_8 + 1) (s_9.1, (va_up (va_up (va_up (va_up s_9.2 16 (upd (s_9.2 16) (Int32.toNatClampNeg z_11) z_10)) 10 u_13) 10 u_15) 10 u_17)) _ _ _ hw hC (lv_sub hl [2, 0] rfl)
  have L17 : ∀ (K : Int32 → St → Prop) (hKK : ∀ (x2_3 : Int32) (s_4 : St) (H : Heap) (locs : List Loc) (ls : Array Slot), K x2_3 s_4 → Cx D A s.heap (wM cI q s_4) H locs → lv_has ls 5 [(0, .ref (q 0)), (2, .int x2_3)] → W p l e (Rm 4 92) s m [.ref (q 0)].toArray below meth c H locs 0 0 (QI below D cI A (wM cI q) post [.ref (q 0)].toArray s) (F0 m 114 ls [])) (n : Nat), ∀ (x2_3 : Int32) (s_4 : St) (H : Heap) (locs : List Loc) (ls : Array Slot), w_X6_put_L17 post K n x2_3 s_4 → Cx D A s.heap (wM cI q s_4) H locs → lv_has ls 5 [(0, .ref (q 0)), (2, .int x2_3)] → W p l e (Rm 4 92) s m [.ref (q 0)].toArray below meth c H locs 0 0 (QI below D cI A (wM cI q) post [.ref (q 0)].toArray s) (F0 m 17 ls []) := by
    intro  K hKK n
    induction n with
    | zero => intro x2_3 s_4 H locs ls hw; exact hw.elim
    | succ n ih =>
      intro x2_3 s_4 H locs ls hw hC hl
      refine lv_iload_n hx hb dX6_put_17 rfl (lv_at hl 1 rfl) ?_
      refine lv_aload_n hx hb dX6_put_18 rfl (lv_at hl 0 rfl) ?_
      refine cx_get (v := .int (s_4.1 2)) hx hb hts iX6 hown hK hC 0 rfl rfl 2 (by decide) u3 rfl rfl dX6_put_19 ?_
      refine lv_icmp_ge (tgt := 114) hx hb dX6_put_22 (by decide) (fun c_5 => ?_) (fun c_5 => ?_)
      · have hw := hw.1 c_5
        exact hKK x2_3 s_4 _ _ _ hw hC (lv_sub hl [0, 1] rfl)
      · have hw := hw.2 c_5
        refine lv_aload_n hx hb dX6_put_25 rfl (lv_at hl 0 rfl) ?_
        refine cx_get (v := .ref (q 11)) hx hb hts iX6 hown hK hC 0 rfl rfl 19 (by decide) u2 rfl rfl dX6_put_26 ?_
        refine lv_iload_n hx hb dX6_put_29 rfl (lv_at hl 1 rfl) ?_
        refine cx_iald (f := s_4.2 10) hx hb hK hC 11 rfl hw.1 dX6_put_30 ?_
        have hw := hw.2
        refine lv_ineg hx hb dX6_put_31 ?_
        refine lv_istore_n (lv' := [(3, .int (-(s_4.2 10 (Int32.toNatClampNeg x2_3)))), (0, .ref (q 0)), (2, .int x2_3)]) hx hb dX6_put_32 rfl hl (by decide) rfl (fun ls hl => ?_)
        refine lv_aload_n hx hb dX6_put_33 rfl (lv_at hl 1 rfl) ?_
        refine cx_get (v := .ref (q 11)) hx hb hts iX6 hown hK hC 0 rfl rfl 19 (by decide) u2 rfl rfl dX6_put_34 ?_
        refine lv_bipush (v := 8) hx hb dX6_put_37 (by decide) ?_
        refine lv_iload_n hx hb dX6_put_39 rfl (lv_at hl 2 rfl) ?_
        refine lv_imul hx hb dX6_put_40 ?_
        refine cx_iald (f := s_4.2 10) hx hb hK hC 11 rfl hw.1 dX6_put_41 ?_
        have hw := hw.2
        refine lv_istore (lv' := [(4, .int (s_4.2 10 (Int32.toNatClampNeg (8 * x2_3)))), (3, .int (-(s_4.2 10 (Int32.toNatClampNeg x2_3)))), (0, .ref (q 0)), (2, .int x2_3)]) hx hb dX6_put_42 hl (by decide) rfl (fun ls hl => ?_)
        refine lv_aload_n hx hb dX6_put_44 rfl (lv_at hl 2 rfl) ?_
        refine cx_get (v := .ref (q 17)) hx hb hts iX6 hown hK hC 0 rfl rfl 27 (by decide) u4 rfl rfl dX6_put_45 ?_
        refine lv_iload_n hx hb dX6_put_48 rfl (lv_at hl 3 rfl) ?_
        refine lv_iload_n hx hb dX6_put_49 rfl (lv_at hl 1 rfl) ?_
        refine lv_if_le (tgt := 57) hx hb dX6_put_50 (by decide) (fun c_6 => ?_) (fun c_6 => ?_)
        · have hw := hw.1 c_6
          refine lv_iload hx hb dX6_put_57 (lv_at hl 0 rfl) ?_
          refine lv_if_ge (tgt := 67) hx hb dX6_put_59 (by decide) (fun c_7 => ?_) (fun c_7 => ?_)
          · have hw := hw.1 c_7
            refine lv_iconst (v := 0) hx hb dX6_put_67 (by decide) ?_
            exact J68 x2_3 0 x2_3 s_4 _ (fun x2_18 u_19 H locs ls hw hC hl => by exact ih x2_18 u_19 _ _ _ hw hC (lv_sub hl [0, 1] rfl)) _ _ _ hw hC (lv_sub hl [2, 3] rfl)
          · have hw := hw.2 c_7
            refine lv_iload hx hb dX6_put_62 (lv_at hl 0 rfl) ?_
            refine lv_goto (tgt := 68) hx hb dX6_put_64 (by decide) ?_
            exact J68 x2_3 (s_4.2 10 (Int32.toNatClampNeg (8 * x2_3))) x2_3 s_4 _ (fun x2_20 u_21 H locs ls hw hC hl => by exact ih x2_20 u_21 _ _ _ hw hC (lv_sub hl [0, 1] rfl)) _ _ _ hw hC (lv_sub hl [2, 3] rfl)
        · have hw := hw.2 c_6
          refine lv_iload_n hx hb dX6_put_53 rfl (lv_at hl 1 rfl) ?_
          refine lv_goto (tgt := 68) hx hb dX6_put_54 (by decide) ?_
          exact J68 x2_3 (-(s_4.2 10 (Int32.toNatClampNeg x2_3))) x2_3 s_4 _ (fun x2_22 u_23 H locs ls hw hC hl => by exact ih x2_22 u_23 _ _ _ hw hC (lv_sub hl [0, 1] rfl)) _ _ _ hw hC (lv_sub hl [2, 3] rfl)
  have L142 : ∀ (x2_29 : Int32) (K : Int32 → St → Prop) (hKK : ∀ (x3_30 : Int32) (s_31 : St) (H : Heap) (locs : List Loc) (ls : Array Slot), K x3_30 s_31 → Cx D A s.heap (wM cI q s_31) H locs → lv_has ls 5 [(0, .ref (q 0)), (2, .int x2_29), (3, .int x3_30)] → W p l e (Rm 4 92) s m [.ref (q 0)].toArray below meth c H locs 0 0 (QI below D cI A (wM cI q) post [.ref (q 0)].toArray s) (F0 m 182 ls [])) (n : Nat), ∀ (x3_30 : Int32) (s_31 : St) (H : Heap) (locs : List Loc) (ls : Array Slot), w_X6_put_L142 x2_29 post K n x3_30 s_31 → Cx D A s.heap (wM cI q s_31) H locs → lv_has ls 5 [(0, .ref (q 0)), (2, .int x2_29), (3, .int x3_30)] → W p l e (Rm 4 92) s m [.ref (q 0)].toArray below meth c H locs 0 0 (QI below D cI A (wM cI q) post [.ref (q 0)].toArray s) (F0 m 142 ls []) := by
    intro x2_29 K hKK n
    induction n with
    | zero => intro x3_30 s_31 H locs ls hw; exact hw.elim
    | succ n ih =>
      intro x3_30 s_31 H locs ls hw hC hl
      refine lv_iload_n hx hb dX6_put_142 rfl (lv_at hl 2 rfl) ?_
      refine lv_if_le (tgt := 182) hx hb dX6_put_143 (by decide) (fun c_32 => ?_) (fun c_32 => ?_)
      · have hw := hw.1 c_32
        exact hKK x3_30 s_31 _ _ _ hw hC (lv_sub hl [0, 1, 2] rfl)
      · have hw := hw.2 c_32
        refine lv_aload_n hx hb dX6_put_146 rfl (lv_at hl 0 rfl) ?_
        refine lv_iload_n hx hb dX6_put_147 rfl (lv_at hl 1 rfl) ?_
        refine lv_aload_n hx hb dX6_put_148 rfl (lv_at hl 0 rfl) ?_
        refine cx_get (v := .ref (q 18)) hx hb hts iX6 hown hK hC 0 rfl rfl 28 (by decide) u8 rfl rfl dX6_put_149 ?_
        refine lv_iload_n hx hb dX6_put_152 rfl (lv_at hl 2 rfl) ?_
        refine lv_iconst (v := 1) hx hb dX6_put_153 (by decide) ?_
        refine lv_isub hx hb dX6_put_154 ?_
        refine cx_iald (f := s_31.2 17) hx hb hK hC 18 rfl hw.1 dX6_put_155 ?_
        have hw := hw.2
        refine cx_callVi0 (As := [.int x2_29, .int (s_31.2 17 (Int32.toNatClampNeg (x3_30 - 1)))]) (rest := []) ⟨hx, hb, hml, hown, hts⟩ (c_X6_isEarlier l D cI q _ s_31 x2_29 (s_31.2 17 (Int32.toNatClampNeg (x3_30 - 1))) _ hw) (cwV 2 hts gX6_put_X6_isEarlier rfl rfl rfl (by decide +kernel) ⟨Nat.le_of_ble_eq_true rfl, Nat.le_of_ble_eq_true rfl⟩) hK hC hA 0 rfl rfl rfl rfl hl.1 rfl (Nat.le_of_ble_eq_true rfl) dX6_put_156 ⟨Nat.zero_le _, Nat.zero_le _⟩ (fun r_33 u_34 H locs hw hC => ?_)
        refine lv_if_eq (tgt := 182) hx hb dX6_put_159 (by decide) (fun c_35 => ?_) (fun c_35 => ?_)
        · have hw := hw.1 c_35
          exact hKK x3_30 u_34 _ _ _ hw hC (lv_sub hl [0, 1, 2] rfl)
        · have hw := hw.2 c_35
          refine lv_aload_n hx hb dX6_put_162 rfl (lv_at hl 0 rfl) ?_
          refine cx_get (v := .ref (q 18)) hx hb hts iX6 hown hK hC 0 rfl rfl 28 (by decide) u8 rfl rfl dX6_put_163 ?_
          refine lv_iload_n hx hb dX6_put_166 rfl (lv_at hl 2 rfl) ?_
          refine lv_aload_n hx hb dX6_put_167 rfl (lv_at hl 0 rfl) ?_
          refine cx_get (v := .ref (q 18)) hx hb hts iX6 hown hK hC 0 rfl rfl 28 (by decide) u8 rfl rfl dX6_put_168 ?_
          refine lv_iload_n hx hb dX6_put_171 rfl (lv_at hl 2 rfl) ?_
          refine lv_iconst (v := 1) hx hb dX6_put_172 (by decide) ?_
          refine lv_isub hx hb dX6_put_173 ?_
          refine cx_iald (f := u_34.2 17) hx hb hK hC 18 rfl hw.1 dX6_put_174 ?_
          have hw := hw.2
          refine cx_iast (f := u_34.2 17) hx hb hK hC 18 rfl hw.1 dX6_put_175 (ws' := (wM cI q (u_34.1, (va_up u_34.2 17 (upd (u_34.2 17) (Int32.toNatClampNeg x3_30) (u_34.2 17 (Int32.toNatClampNeg (x3_30 - 1)))))))) (wM_a17 cI q _ _) (fun H locs hC => ?_)
          have hw := hw.2
          refine lv_iinc (v := (x3_30 + (-1))) (lv' := [(3, .int (x3_30 + (-1))), (0, .ref (q 0)), (2, .int x2_29)]) hx hb dX6_put_176 hl (k := 2) rfl rfl (by decide) rfl (fun ls hl => ?_)
          refine lv_goto (tgt := 142) hx hb dX6_put_179 (by decide) ?_
          exact ih (x3_30 + (-1)) (u_34.1, (va_up u_34.2 17 (upd (u_34.2 17) (Int32.toNatClampNeg x3_30) (u_34.2 17 (Int32.toNatClampNeg (x3_30 - 1)))))) _ _ _ hw hC (lv_sub hl [1, 2, 0] rfl)
  have J182 : ∀ (x2_38 : Int32) (x3_39 : Int32) (s_40 : St) (K132 : Int32 → St → Prop) (hK132 : ∀ (x2 : Int32) (u : St) (H : Heap) (locs : List Loc) (ls : Array Slot), K132 x2 u → Cx D A s.heap (wM cI q u) H locs → lv_has ls 5 [(0, .ref (q 0)), (2, .int x2)] → W p l e (Rm 4 92) s m [.ref (q 0)].toArray below meth c H locs 0 0 (QI below D cI A (wM cI q) post [.ref (q 0)].toArray s) (F0 m 132 ls [])) (H : Heap) (locs : List Loc) (ls : Array Slot), w_X6_put_J182 post K132 x2_38 x3_39 s_40 → Cx D A s.heap (wM cI q s_40) H locs → lv_has ls 5 [(0, .ref (q 0)), (2, .int x2_38), (3, .int x3_39)] → W p l e (Rm 4 92) s m [.ref (q 0)].toArray below meth c H locs 0 0 (QI below D cI A (wM cI q) post [.ref (q 0)].toArray s) (F0 m 182 ls []) := by
    intro x2_38 x3_39 s_40 K132 hK132 H locs ls hw hC hl
    refine lv_aload_n hx hb dX6_put_182 rfl (lv_at hl 0 rfl) ?_
    refine cx_get (v := .ref (q 18)) hx hb hts iX6 hown hK hC 0 rfl rfl 28 (by decide) u8 rfl rfl dX6_put_183 ?_
    refine lv_iload_n hx hb dX6_put_186 rfl (lv_at hl 2 rfl) ?_
    refine lv_iload_n hx hb dX6_put_187 rfl (lv_at hl 1 rfl) ?_
    refine cx_iast (f := s_40.2 17) hx hb hK hC 18 rfl hw.1 dX6_put_188 (ws' := (wM cI q (s_40.1, (va_up s_40.2 17 (upd (s_40.2 17) (Int32.toNatClampNeg x3_39) x2_38))))) (wM_a17 cI q _ _) (fun H locs hC => ?_)
    have hw := hw.2
    refine lv_iinc (v := (x2_38 + 1)) (lv' := [(2, .int (x2_38 + 1)), (0, .ref (q 0)), (3, .int x3_39)]) hx hb dX6_put_189 hl (k := 1) rfl rfl (by decide) rfl (fun ls hl => ?_)
    refine lv_goto (tgt := 132) hx hb dX6_put_192 (by decide) ?_
    exact hK132 (x2_38 + 1) (s_40.1, (va_up s_40.2 17 (upd (s_40.2 17) (Int32.toNatClampNeg x3_39) x2_38))) _ _ _ hw hC (lv_sub hl [1, 0] rfl)
  have L132 : ∀ (K : Int32 → St → Prop) (hKK : ∀ (x2_26 : Int32) (s_27 : St) (H : Heap) (locs : List Loc) (ls : Array Slot), K x2_26 s_27 → Cx D A s.heap (wM cI q s_27) H locs → lv_has ls 5 [(0, .ref (q 0)), (2, .int x2_26)] → W p l e (Rm 4 92) s m [.ref (q 0)].toArray below meth c H locs 0 0 (QI below D cI A (wM cI q) post [.ref (q 0)].toArray s) (F0 m 195 ls [])) (n : Nat), ∀ (x2_26 : Int32) (s_27 : St) (H : Heap) (locs : List Loc) (ls : Array Slot), w_X6_put_L132 post K n x2_26 s_27 → Cx D A s.heap (wM cI q s_27) H locs → lv_has ls 5 [(0, .ref (q 0)), (2, .int x2_26)] → W p l e (Rm 4 92) s m [.ref (q 0)].toArray below meth c H locs 0 0 (QI below D cI A (wM cI q) post [.ref (q 0)].toArray s) (F0 m 132 ls []) := by
    intro  K hKK n
    induction n with
    | zero => intro x2_26 s_27 H locs ls hw; exact hw.elim
    | succ n ih =>
      intro x2_26 s_27 H locs ls hw hC hl
      refine lv_iload_n hx hb dX6_put_132 rfl (lv_at hl 1 rfl) ?_
      refine lv_aload_n hx hb dX6_put_133 rfl (lv_at hl 0 rfl) ?_
      refine cx_get (v := .int (s_27.1 4)) hx hb hts iX6 hown hK hC 0 rfl rfl 4 (by decide) u6 rfl rfl dX6_put_134 ?_
      refine lv_icmp_ge (tgt := 195) hx hb dX6_put_137 (by decide) (fun c_28 => ?_) (fun c_28 => ?_)
      · have hw := hw.1 c_28
        exact hKK x2_26 s_27 _ _ _ hw hC (lv_sub hl [0, 1] rfl)
      · have hw := hw.2 c_28
        refine lv_iload_n hx hb dX6_put_140 rfl (lv_at hl 1 rfl) ?_
        refine lv_istore_n (lv' := [(3, .int x2_26), (0, .ref (q 0)), (2, .int x2_26)]) hx hb dX6_put_141 rfl hl (by decide) rfl (fun ls hl => ?_)
        obtain ⟨n, hw⟩ := hw
        refine L142 x2_26 _ (fun x3_36 s_37 H locs ls hw hC hl => ?_) n x2_26 s_27 _ _ _ hw hC (lv_sub hl [1, 2, 0] rfl)
        exact J182 x2_26 x3_36 s_37 _ (fun x2_41 u_42 H locs ls hw hC hl => by exact ih x2_41 u_42 _ _ _ hw hC (lv_sub hl [0, 1] rfl)) _ _ _ hw hC (lv_sub hl [0, 1, 2] rfl)
  refine lv_aload_n hx hb dX6_put_0 rfl (lv_at hl 0 rfl) ?_
  refine lv_iconst (v := 0) hx hb dX6_put_1 (by decide) ?_
  refine cx_put (v := .int 0) hx hb hts iX6 tyX6 tyX6_ok nmX6 hown hK hC 0 rfl rfl 0 (by decide) u1 rfl rfl (tyX6_ok 0 (by decide)) rfl rfl (Nat.le_of_ble_eq_true rfl) dX6_put_2 (ws' := (wM cI q ((va_up σ.1 0 0), σ.2))) (wM_i0 cI q _ _) (fun H locs hC => ?_)
  refine lv_aload_n hx hb dX6_put_5 rfl (lv_at hl 0 rfl) ?_
  refine lv_aload_n hx hb dX6_put_6 rfl (lv_at hl 0 rfl) ?_
  refine cx_get (v := .ref (q 11)) hx hb hts iX6 hown hK hC 0 rfl rfl 19 (by decide) u2 rfl rfl dX6_put_7 ?_
  refine lv_iconst (v := (-1)) hx hb dX6_put_10 (by decide) ?_
  refine cx_callVi0 (As := [.ref (q 11), .int (-1)]) (rest := []) ⟨hx, hb, hml, hown, hts⟩ (c_X6_closed_a10 l D cI q _ ((va_up σ.1 0 0), σ.2) (-1) _ hw) (cwV 2 hts gX6_put_X6_closed rfl rfl rfl (by decide +kernel) ⟨Nat.le_of_ble_eq_true rfl, Nat.le_of_ble_eq_true rfl⟩) hK hC hA 0 rfl rfl rfl rfl hl.1 rfl (Nat.le_of_ble_eq_true rfl) dX6_put_11 ⟨Nat.zero_le _, Nat.zero_le _⟩ (fun r_1 u_2 H locs hw hC => ?_)
  refine lv_istore_n (lv' := [(1, .int r_1), (0, .ref (q 0))]) hx hb dX6_put_14 rfl hl (by decide) rfl (fun ls hl => ?_)
  refine lv_iconst (v := 0) hx hb dX6_put_15 (by decide) ?_
  refine lv_istore_n (lv' := [(2, .int 0), (1, .int r_1), (0, .ref (q 0))]) hx hb dX6_put_16 rfl hl (by decide) rfl (fun ls hl => ?_)
  obtain ⟨n, hw⟩ := hw
  refine L17  _ (fun x2_24 s_25 H locs ls hw hC hl => ?_) n 0 u_2 _ _ _ hw hC (lv_sub hl [2, 0] rfl)
  refine lv_aload_n hx hb dX6_put_114 rfl (lv_at hl 0 rfl) ?_
  refine lv_aload_n hx hb dX6_put_115 rfl (lv_at hl 0 rfl) ?_
  refine cx_get (v := .int (s_25.1 2)) hx hb hts iX6 hown hK hC 0 rfl rfl 2 (by decide) u3 rfl rfl dX6_put_116 ?_
  refine cx_put (v := .int (s_25.1 2)) hx hb hts iX6 tyX6 tyX6_ok nmX6 hown hK hC 0 rfl rfl 26 (by decide) u5 rfl rfl (tyX6_ok 26 (by decide)) rfl rfl (Nat.le_of_ble_eq_true rfl) dX6_put_119 (ws' := (wM cI q ((va_up s_25.1 10 (s_25.1 2)), s_25.2))) (wM_i10 cI q _ _) (fun H locs hC => ?_)
  refine lv_aload_n hx hb dX6_put_122 rfl (lv_at hl 0 rfl) ?_
  refine lv_aload_n hx hb dX6_put_123 rfl (lv_at hl 0 rfl) ?_
  refine cx_get (v := .int (s_25.1 4)) hx hb hts iX6 hown hK hC 0 rfl rfl 4 (by decide) u6 rfl rfl dX6_put_124 ?_
  refine cx_put (v := .int (s_25.1 4)) hx hb hts iX6 tyX6 tyX6_ok nmX6 hown hK hC 0 rfl rfl 25 (by decide) u7 rfl rfl (tyX6_ok 25 (by decide)) rfl rfl (Nat.le_of_ble_eq_true rfl) dX6_put_127 (ws' := (wM cI q ((va_up (va_up s_25.1 10 (s_25.1 2)) 9 (s_25.1 4)), s_25.2))) (wM_i9 cI q _ _) (fun H locs hC => ?_)
  refine lv_iconst (v := 0) hx hb dX6_put_130 (by decide) ?_
  refine lv_istore_n (lv' := [(2, .int 0), (0, .ref (q 0))]) hx hb dX6_put_131 rfl hl (by decide) rfl (fun ls hl => ?_)
  obtain ⟨n, hw⟩ := hw
  refine L132  _ (fun x2_44 s_45 H locs ls hw hC hl => ?_) n 0 ((va_up (va_up s_25.1 10 (s_25.1 2)) 9 (s_25.1 4)), s_25.2) _ _ _ hw hC (lv_sub hl [1, 0] rfl)
  refine lv_aload_n hx hb dX6_put_195 rfl (lv_at hl 0 rfl) ?_
  refine cx_get (v := .int (s_45.1 9)) hx hb hts iX6 hown hK hC 0 rfl rfl 25 (by decide) u7 rfl rfl dX6_put_196 ?_
  exact cx_ret_i (u := s_45) hx hb hr hlocks hK hC hw dX6_put_199

/-! PictureHeapModel.offset(I)I (X6_offset) -/
set_option maxHeartbeats 1000000 in
set_option maxRecDepth 100000 in
theorem c_X6_offset (l : Launch) (D : va_G) (cI : ClassId) (q : Nat → Nat) (sz : Nat) (σ : St) (x1 : Int32) (post : Int32 → St → Prop) (hw : w_X6_offset σ x1 post) : Ci l yX6_offset wsX6_offset 0 0 D cI (wM cI q σ) sz [.ref (q 0), .int x1] (wM cI q) post := by
  refine mo_i (cc := cX6_offset) (maxL := 2) (ret := (some .int)) (by decide) rfl (Nat.le_of_ble_eq_true rfl) ?_
  intro p e s m below meth c hx hb hr hml hts hown hlocks hK A hA hC ls hl
  have hown : s.vm.findClass RX6 = some m.cls := hown
  have hl : lv_has ls 2 [(0, .ref (q 0)), (1, .int x1)] := hl
  have u1 : (Cond.fieldLink RX6 74 "PictureHeapModel" "thrown" "I").before [.ref (q 0), .int x1].toArray s = true := hts _ (List.mem_of_getElem? (i := 1) rfl)
  have u4 : (Cond.constant RX6 172 (-1000000)).before [.ref (q 0), .int x1].toArray s = true := hts _ (List.mem_of_getElem? (i := 4) rfl)
  have u2 : (Cond.fieldLink RX6 182 "PictureHeapModel" "putCameras" "I").before [.ref (q 0), .int x1].toArray s = true := hts _ (List.mem_of_getElem? (i := 2) rfl)
  have u3 : (Cond.fieldLink RX6 68 "PictureHeapModel" "offset" "[I").before [.ref (q 0), .int x1].toArray s = true := hts _ (List.mem_of_getElem? (i := 3) rfl)
  have iX6 : ∀ w ∈ wsX60, w ∈ wsX6_offset := fun _ h => List.mem_cons_of_mem _ (List.mem_append_right _ h)
  refine lv_aload_n hx hb dX6_offset_0 rfl (lv_at hl 0 rfl) ?_
  refine lv_iconst (v := 0) hx hb dX6_offset_1 (by decide) ?_
  refine cx_put (v := .int 0) hx hb hts iX6 tyX6 tyX6_ok nmX6 hown hK hC 0 rfl rfl 0 (by decide) u1 rfl rfl (tyX6_ok 0 (by decide)) rfl rfl (Nat.le_of_ble_eq_true rfl) dX6_offset_2 (ws' := (wM cI q ((va_up σ.1 0 0), σ.2))) (wM_i0 cI q _ _) (fun H locs hC => ?_)
  refine lv_iload_n hx hb dX6_offset_5 rfl (lv_at hl 1 rfl) ?_
  refine lv_if_lt (tgt := 26) hx hb dX6_offset_6 (by decide) (fun c_1 => ?_) (fun c_1 => ?_)
  · have hw := hw.1 c_1
    refine lv_ldc (v := (-1000000)) hx hb hown u4 dX6_offset_26 ?_
    exact cx_ret_i (u := ((va_up σ.1 0 0), σ.2)) hx hb hr hlocks hK hC hw dX6_offset_28
  · have hw := hw.2 c_1
    refine lv_iload_n hx hb dX6_offset_9 rfl (lv_at hl 1 rfl) ?_
    refine lv_aload_n hx hb dX6_offset_10 rfl (lv_at hl 0 rfl) ?_
    refine cx_get (v := .int (σ.1 10)) hx hb hts iX6 hown hK hC 0 rfl rfl 26 (by decide) u2 rfl rfl dX6_offset_11 ?_
    refine lv_icmp_ge (tgt := 26) hx hb dX6_offset_14 (by decide) (fun c_2 => ?_) (fun c_2 => ?_)
    · have hw := hw.1 c_2
      refine lv_ldc (v := (-1000000)) hx hb hown u4 dX6_offset_26 ?_
      exact cx_ret_i (u := ((va_up σ.1 0 0), σ.2)) hx hb hr hlocks hK hC hw dX6_offset_28
    · have hw := hw.2 c_2
      refine lv_aload_n hx hb dX6_offset_17 rfl (lv_at hl 0 rfl) ?_
      refine cx_get (v := .ref (q 17)) hx hb hts iX6 hown hK hC 0 rfl rfl 27 (by decide) u3 rfl rfl dX6_offset_18 ?_
      refine lv_iload_n hx hb dX6_offset_21 rfl (lv_at hl 1 rfl) ?_
      refine cx_iald (f := σ.2 16) hx hb hK hC 17 rfl hw.1 dX6_offset_22 ?_
      have hw := hw.2
      refine lv_goto (tgt := 28) hx hb dX6_offset_23 (by decide) ?_
      exact cx_ret_i (u := ((va_up σ.1 0 0), σ.2)) hx hb hr hlocks hK hC hw dX6_offset_28

/-! PictureHeapModel.time(I)I (X6_time) -/
set_option maxHeartbeats 1000000 in
set_option maxRecDepth 100000 in
theorem c_X6_time (l : Launch) (D : va_G) (cI : ClassId) (q : Nat → Nat) (sz : Nat) (σ : St) (x1 : Int32) (post : Int32 → St → Prop) (hw : w_X6_time σ x1 post) : Ci l yX6_time wsX6_time 1 21 D cI (wM cI q σ) sz [.ref (q 0), .int x1] (wM cI q) post := by
  refine mo_i (cc := cX6_time) (maxL := 2) (ret := (some .int)) (by decide) rfl (Nat.le_of_ble_eq_true rfl) ?_
  intro p e s m below meth c hx hb hr hml hts hown hlocks hK A hA hC ls hl
  have hown : s.vm.findClass RX6 = some m.cls := hown
  have hl : lv_has ls 2 [(0, .ref (q 0)), (1, .int x1)] := hl
  have u1 : (Cond.fieldLink RX6 74 "PictureHeapModel" "thrown" "I").before [.ref (q 0), .int x1].toArray s = true := hts _ (List.mem_of_getElem? (i := 1) rfl)
  have u3 : (Cond.constant RX6 172 (-1000000)).before [.ref (q 0), .int x1].toArray s = true := hts _ (List.mem_of_getElem? (i := 3) rfl)
  have u2 : (Cond.fieldLink RX6 65 "PictureHeapModel" "rows" "I").before [.ref (q 0), .int x1].toArray s = true := hts _ (List.mem_of_getElem? (i := 2) rfl)
  have iX6 : ∀ w ∈ wsX60, w ∈ wsX6_time := fun _ h => List.mem_cons_of_mem _ (List.mem_append_right _ h)
  refine lv_aload_n hx hb dX6_time_0 rfl (lv_at hl 0 rfl) ?_
  refine lv_iconst (v := 0) hx hb dX6_time_1 (by decide) ?_
  refine cx_put (v := .int 0) hx hb hts iX6 tyX6 tyX6_ok nmX6 hown hK hC 0 rfl rfl 0 (by decide) u1 rfl rfl (tyX6_ok 0 (by decide)) rfl rfl (Nat.le_of_ble_eq_true rfl) dX6_time_2 (ws' := (wM cI q ((va_up σ.1 0 0), σ.2))) (wM_i0 cI q _ _) (fun H locs hC => ?_)
  refine lv_iload_n hx hb dX6_time_5 rfl (lv_at hl 1 rfl) ?_
  refine lv_if_lt (tgt := 25) hx hb dX6_time_6 (by decide) (fun c_1 => ?_) (fun c_1 => ?_)
  · have hw := hw.1 c_1
    refine lv_ldc (v := (-1000000)) hx hb hown u3 dX6_time_25 ?_
    exact cx_ret_i (u := ((va_up σ.1 0 0), σ.2)) hx hb hr hlocks hK hC hw dX6_time_27
  · have hw := hw.2 c_1
    refine lv_iload_n hx hb dX6_time_9 rfl (lv_at hl 1 rfl) ?_
    refine lv_aload_n hx hb dX6_time_10 rfl (lv_at hl 0 rfl) ?_
    refine cx_get (v := .int (σ.1 9)) hx hb hts iX6 hown hK hC 0 rfl rfl 25 (by decide) u2 rfl rfl dX6_time_11 ?_
    refine lv_icmp_ge (tgt := 25) hx hb dX6_time_14 (by decide) (fun c_2 => ?_) (fun c_2 => ?_)
    · have hw := hw.1 c_2
      refine lv_ldc (v := (-1000000)) hx hb hown u3 dX6_time_25 ?_
      exact cx_ret_i (u := ((va_up σ.1 0 0), σ.2)) hx hb hr hlocks hK hC hw dX6_time_27
    · have hw := hw.2 c_2
      refine lv_aload_n hx hb dX6_time_17 rfl (lv_at hl 0 rfl) ?_
      refine lv_iload_n hx hb dX6_time_18 rfl (lv_at hl 1 rfl) ?_
      refine cx_callVi0 (As := [.int x1]) (rest := []) ⟨hx, hb, hml, hown, hts⟩ (c_X6_timeOf l D cI q _ ((va_up σ.1 0 0), σ.2) x1 _ hw) (cwV 1 hts gX6_time_X6_timeOf rfl rfl rfl (by decide +kernel) ⟨Nat.le_of_ble_eq_true rfl, Nat.le_of_ble_eq_true rfl⟩) hK hC hA 0 rfl rfl rfl rfl hl.1 rfl (Nat.le_of_ble_eq_true rfl) dX6_time_19 ⟨Nat.zero_le _, Nat.zero_le _⟩ (fun r_3 u_4 H locs hw hC => ?_)
      refine lv_goto (tgt := 27) hx hb dX6_time_22 (by decide) ?_
      exact cx_ret_i (u := u_4) hx hb hr hlocks hK hC hw dX6_time_27

/-! PictureHeapModel.dayAt(I)I (X6_dayAt) -/
set_option maxHeartbeats 1000000 in
set_option maxRecDepth 100000 in
theorem c_X6_dayAt (l : Launch) (D : va_G) (cI : ClassId) (q : Nat → Nat) (sz : Nat) (σ : St) (x1 : Int32) (post : Int32 → St → Prop) (hw : w_X6_dayAt σ x1 post) : Ci l yX6_dayAt wsX6_dayAt 1 21 D cI (wM cI q σ) sz [.ref (q 0), .int x1] (wM cI q) post := by
  refine mo_i (cc := cX6_dayAt) (maxL := 4) (ret := (some .int)) (by decide) rfl (Nat.le_of_ble_eq_true rfl) ?_
  intro p e s m below meth c hx hb hr hml hts hown hlocks hK A hA hC ls hl
  have hown : s.vm.findClass RX6 = some m.cls := hown
  have hl : lv_has ls 4 [(0, .ref (q 0)), (1, .int x1)] := hl
  have u1 : (Cond.fieldLink RX6 65 "PictureHeapModel" "rows" "I").before [.ref (q 0), .int x1].toArray s = true := hts _ (List.mem_of_getElem? (i := 1) rfl)
  have u2 : (Cond.fieldLink RX6 71 "PictureHeapModel" "row" "[I").before [.ref (q 0), .int x1].toArray s = true := hts _ (List.mem_of_getElem? (i := 2) rfl)
  have u3 : (Cond.fieldLink RX6 7 "PictureHeapModel" "gap" "I").before [.ref (q 0), .int x1].toArray s = true := hts _ (List.mem_of_getElem? (i := 3) rfl)
  have iX6 : ∀ w ∈ wsX60, w ∈ wsX6_dayAt := fun _ h => List.mem_cons_of_mem _ (List.mem_append_right _ h)
  have J49 : ∀ (x1_7 : Int32) (x2_8 : Int32) (x3_9 : Int32) (s_10 : St) (K4 : Int32 → Int32 → St → Prop) (hK4 : ∀ (x2 : Int32) (x3 : Int32) (u : St) (H : Heap) (locs : List Loc) (ls : Array Slot), K4 x2 x3 u → Cx D A s.heap (wM cI q u) H locs → lv_has ls 4 [(0, .ref (q 0)), (1, .int x1_7), (2, .int x2), (3, .int x3)] → W p l e (Rm 1 21) s m [.ref (q 0), .int x1].toArray below meth c H locs 0 0 (QI below D cI A (wM cI q) post [.ref (q 0), .int x1].toArray s) (F0 m 4 ls [])) (H : Heap) (locs : List Loc) (ls : Array Slot), w_X6_dayAt_J49 post K4 x1_7 x2_8 x3_9 s_10 → Cx D A s.heap (wM cI q s_10) H locs → lv_has ls 4 [(0, .ref (q 0)), (1, .int x1_7), (2, .int x2_8), (3, .int x3_9)] → W p l e (Rm 1 21) s m [.ref (q 0), .int x1].toArray below meth c H locs 0 0 (QI below D cI A (wM cI q) post [.ref (q 0), .int x1].toArray s) (F0 m 49 ls []) := by
    intro x1_7 x2_8 x3_9 s_10 K4 hK4 H locs ls hw hC hl
    refine lv_iload_n hx hb dX6_dayAt_49 rfl (lv_at hl 2 rfl) ?_
    refine lv_iload_n hx hb dX6_dayAt_50 rfl (lv_at hl 1 rfl) ?_
    refine lv_icmp_ne (tgt := 56) hx hb dX6_dayAt_51 (by decide) (fun c_11 => ?_) (fun c_11 => ?_)
    · have hw := hw.1 c_11
      refine lv_iinc (v := (x2_8 + 1)) (lv' := [(2, .int (x2_8 + 1)), (0, .ref (q 0)), (1, .int x1_7), (3, .int x3_9)]) hx hb dX6_dayAt_56 hl (k := 2) rfl rfl (by decide) rfl (fun ls hl => ?_)
      refine lv_iinc (v := (x3_9 + 1)) (lv' := [(3, .int (x3_9 + 1)), (2, .int (x2_8 + 1)), (0, .ref (q 0)), (1, .int x1_7)]) hx hb dX6_dayAt_59 hl (k := 3) rfl rfl (by decide) rfl (fun ls hl => ?_)
      refine lv_goto (tgt := 4) hx hb dX6_dayAt_62 (by decide) ?_
      exact hK4 (x2_8 + 1) (x3_9 + 1) s_10 _ _ _ hw hC (lv_sub hl [2, 3, 1, 0] rfl)
    · have hw := hw.2 c_11
      refine lv_iload_n hx hb dX6_dayAt_54 rfl (lv_at hl 3 rfl) ?_
      exact cx_ret_i (u := s_10) hx hb hr hlocks hK hC hw dX6_dayAt_55
  have L4 : ∀ (x1_1 : Int32) (K : Int32 → Int32 → St → Prop) (hKK : ∀ (x2_2 : Int32) (x3_3 : Int32) (s_4 : St) (H : Heap) (locs : List Loc) (ls : Array Slot), K x2_2 x3_3 s_4 → Cx D A s.heap (wM cI q s_4) H locs → lv_has ls 4 [(0, .ref (q 0)), (1, .int x1_1), (2, .int x2_2), (3, .int x3_3)] → W p l e (Rm 1 21) s m [.ref (q 0), .int x1].toArray below meth c H locs 0 0 (QI below D cI A (wM cI q) post [.ref (q 0), .int x1].toArray s) (F0 m 65 ls [])) (n : Nat), ∀ (x2_2 : Int32) (x3_3 : Int32) (s_4 : St) (H : Heap) (locs : List Loc) (ls : Array Slot), w_X6_dayAt_L4 x1_1 post K n x2_2 x3_3 s_4 → Cx D A s.heap (wM cI q s_4) H locs → lv_has ls 4 [(0, .ref (q 0)), (1, .int x1_1), (2, .int x2_2), (3, .int x3_3)] → W p l e (Rm 1 21) s m [.ref (q 0), .int x1].toArray below meth c H locs 0 0 (QI below D cI A (wM cI q) post [.ref (q 0), .int x1].toArray s) (F0 m 4 ls []) := by
    intro x1_1 K hKK n
    induction n with
    | zero => intro x2_2 x3_3 s_4 H locs ls hw; exact hw.elim
    | succ n ih =>
      intro x2_2 x3_3 s_4 H locs ls hw hC hl
      refine lv_iload_n hx hb dX6_dayAt_4 rfl (lv_at hl 3 rfl) ?_
      refine lv_aload_n hx hb dX6_dayAt_5 rfl (lv_at hl 0 rfl) ?_
      refine cx_get (v := .int (s_4.1 9)) hx hb hts iX6 hown hK hC 0 rfl rfl 25 (by decide) u1 rfl rfl dX6_dayAt_6 ?_
      refine lv_icmp_ge (tgt := 65) hx hb dX6_dayAt_9 (by decide) (fun c_5 => ?_) (fun c_5 => ?_)
      · have hw := hw.1 c_5
        exact hKK x2_2 x3_3 s_4 _ _ _ hw hC (lv_sub hl [0, 1, 2, 3] rfl)
      · have hw := hw.2 c_5
        refine lv_iload_n hx hb dX6_dayAt_12 rfl (lv_at hl 3 rfl) ?_
        refine lv_if_le (tgt := 49) hx hb dX6_dayAt_13 (by decide) (fun c_6 => ?_) (fun c_6 => ?_)
        · have hw := hw.1 c_6
          exact J49 x1_1 x2_2 x3_3 s_4 _ (fun x2_12 x3_13 u_14 H locs ls hw hC hl => by exact ih x2_12 x3_13 u_14 _ _ _ hw hC (lv_sub hl [0, 1, 2, 3] rfl)) _ _ _ hw hC (lv_sub hl [0, 1, 2, 3] rfl)
        · have hw := hw.2 c_6
          refine lv_aload_n hx hb dX6_dayAt_16 rfl (lv_at hl 0 rfl) ?_
          refine lv_aload_n hx hb dX6_dayAt_17 rfl (lv_at hl 0 rfl) ?_
          refine cx_get (v := .ref (q 18)) hx hb hts iX6 hown hK hC 0 rfl rfl 28 (by decide) u2 rfl rfl dX6_dayAt_18 ?_
          refine lv_iload_n hx hb dX6_dayAt_21 rfl (lv_at hl 3 rfl) ?_
          refine cx_iald (f := s_4.2 17) hx hb hK hC 18 rfl hw.1 dX6_dayAt_22 ?_
          have hw := hw.2
          refine cx_callVi0 (As := [.int (s_4.2 17 (Int32.toNatClampNeg x3_3))]) (rest := []) ⟨hx, hb, hml, hown, hts⟩ (c_X6_timeOf l D cI q _ s_4 (s_4.2 17 (Int32.toNatClampNeg x3_3)) _ hw) (cwV 1 hts gX6_dayAt_X6_timeOf rfl rfl rfl (by decide +kernel) ⟨Nat.le_of_ble_eq_true rfl, Nat.le_of_ble_eq_true rfl⟩) hK hC hA 0 rfl rfl rfl rfl hl.1 rfl (Nat.le_of_ble_eq_true rfl) dX6_dayAt_23 ⟨Nat.zero_le _, Nat.zero_le _⟩ (fun r_15 u_16 H locs hw hC => ?_)
          refine lv_aload_n hx hb dX6_dayAt_26 rfl (lv_at hl 0 rfl) ?_
          refine lv_aload_n hx hb dX6_dayAt_27 rfl (lv_at hl 0 rfl) ?_
          refine cx_get (v := .ref (q 18)) hx hb hts iX6 hown hK hC 0 rfl rfl 28 (by decide) u2 rfl rfl dX6_dayAt_28 ?_
          refine lv_iload_n hx hb dX6_dayAt_31 rfl (lv_at hl 3 rfl) ?_
          refine lv_iconst (v := 1) hx hb dX6_dayAt_32 (by decide) ?_
          refine lv_isub hx hb dX6_dayAt_33 ?_
          refine cx_iald (f := u_16.2 17) hx hb hK hC 18 rfl hw.1 dX6_dayAt_34 ?_
          have hw := hw.2
          refine cx_callVi0 (As := [.int (u_16.2 17 (Int32.toNatClampNeg (x3_3 - 1)))]) (rest := [.int r_15]) ⟨hx, hb, hml, hown, hts⟩ (c_X6_timeOf l D cI q _ u_16 (u_16.2 17 (Int32.toNatClampNeg (x3_3 - 1))) _ hw) (cwV 1 hts gX6_dayAt_X6_timeOf rfl rfl rfl (by decide +kernel) ⟨Nat.le_of_ble_eq_true rfl, Nat.le_of_ble_eq_true rfl⟩) hK hC hA 0 rfl rfl rfl rfl hl.1 rfl (Nat.le_of_ble_eq_true rfl) dX6_dayAt_35 ⟨Nat.zero_le _, Nat.zero_le _⟩ (fun r_17 u_18 H locs hw hC => ?_)
          refine lv_isub hx hb dX6_dayAt_38 ?_
          refine lv_aload_n hx hb dX6_dayAt_39 rfl (lv_at hl 0 rfl) ?_
          refine cx_get (v := .int (u_18.1 7)) hx hb hts iX6 hown hK hC 0 rfl rfl 7 (by decide) u3 rfl rfl dX6_dayAt_40 ?_
          refine lv_icmp_gt (tgt := 49) hx hb dX6_dayAt_43 (by decide) (fun c_19 => ?_) (fun c_19 => ?_)
          · have hw := hw.1 c_19
            exact J49 x1_1 x2_2 x3_3 u_18 _ (fun x2_20 x3_21 u_22 H locs ls hw hC hl => by exact ih x2_20 x3_21 u_22 _ _ _ hw hC (lv_sub hl [0, 1, 2, 3] rfl)) _ _ _ hw hC (lv_sub hl [0, 1, 2, 3] rfl)
          · have hw := hw.2 c_19
            refine lv_goto (tgt := 59) hx hb dX6_dayAt_46 (by decide) ?_
            refine lv_iinc (v := (x3_3 + 1)) (lv' := [(3, .int (x3_3 + 1)), (0, .ref (q 0)), (1, .int x1_1), (2, .int x2_2)]) hx hb dX6_dayAt_59 hl (k := 3) rfl rfl (by decide) rfl (fun ls hl => ?_)
            refine lv_goto (tgt := 4) hx hb dX6_dayAt_62 (by decide) ?_
            exact ih x2_2 (x3_3 + 1) u_18 _ _ _ hw hC (lv_sub hl [1, 2, 3, 0] rfl)
  refine lv_iconst (v := 0) hx hb dX6_dayAt_0 (by decide) ?_
  refine lv_istore_n (lv' := [(2, .int 0), (0, .ref (q 0)), (1, .int x1)]) hx hb dX6_dayAt_1 rfl hl (by decide) rfl (fun ls hl => ?_)
  refine lv_iconst (v := 0) hx hb dX6_dayAt_2 (by decide) ?_
  refine lv_istore_n (lv' := [(3, .int 0), (2, .int 0), (0, .ref (q 0)), (1, .int x1)]) hx hb dX6_dayAt_3 rfl hl (by decide) rfl (fun ls hl => ?_)
  obtain ⟨n, hw⟩ := hw
  refine L4 x1 _ (fun x2_23 x3_24 s_25 H locs ls hw hC hl => ?_) n 0 0 σ _ _ _ hw hC (lv_sub hl [2, 3, 1, 0] rfl)
  refine lv_iload_n hx hb dX6_dayAt_65 rfl (lv_at hl 3 rfl) ?_
  exact cx_ret_i (u := s_25) hx hb hr hlocks hK hC hw dX6_dayAt_66

/-! PictureHeapModel.days()I (X6_days) -/
set_option maxHeartbeats 1000000 in
set_option maxRecDepth 100000 in
theorem c_X6_days (l : Launch) (D : va_G) (cI : ClassId) (q : Nat → Nat) (sz : Nat) (σ : St) (post : Int32 → St → Prop) (hw : w_X6_days σ post) : Ci l yX6_days wsX6_days 2 44 D cI (wM cI q σ) sz [.ref (q 0)] (wM cI q) post := by
  refine mo_i (cc := cX6_days) (maxL := 2) (ret := (some .int)) (by decide) rfl (Nat.le_of_ble_eq_true rfl) ?_
  intro p e s m below meth c hx hb hr hml hts hown hlocks hK A hA hC ls hl
  have hown : s.vm.findClass RX6 = some m.cls := hown
  have hl : lv_has ls 2 [(0, .ref (q 0))] := hl
  have u1 : (Cond.fieldLink RX6 74 "PictureHeapModel" "thrown" "I").before [.ref (q 0)].toArray s = true := hts _ (List.mem_of_getElem? (i := 1) rfl)
  have u2 : (Cond.fieldLink RX6 65 "PictureHeapModel" "rows" "I").before [.ref (q 0)].toArray s = true := hts _ (List.mem_of_getElem? (i := 2) rfl)
  have iX6 : ∀ w ∈ wsX60, w ∈ wsX6_days := fun _ h => List.mem_cons_of_mem _ (List.mem_append_right _ h)
  have L17 : ∀ (K : Int32 → St → Prop) (hKK : ∀ (x1_2 : Int32) (s_3 : St) (H : Heap) (locs : List Loc) (ls : Array Slot), K x1_2 s_3 → Cx D A s.heap (wM cI q s_3) H locs → lv_has ls 2 [(0, .ref (q 0)), (1, .int x1_2)] → W p l e (Rm 2 44) s m [.ref (q 0)].toArray below meth c H locs 0 0 (QI below D cI A (wM cI q) post [.ref (q 0)].toArray s) (F0 m 35 ls [])) (n : Nat), ∀ (x1_2 : Int32) (s_3 : St) (H : Heap) (locs : List Loc) (ls : Array Slot), w_X6_days_L17 post K n x1_2 s_3 → Cx D A s.heap (wM cI q s_3) H locs → lv_has ls 2 [(0, .ref (q 0)), (1, .int x1_2)] → W p l e (Rm 2 44) s m [.ref (q 0)].toArray below meth c H locs 0 0 (QI below D cI A (wM cI q) post [.ref (q 0)].toArray s) (F0 m 17 ls []) := by
    intro  K hKK n
    induction n with
    | zero => intro x1_2 s_3 H locs ls hw; exact hw.elim
    | succ n ih =>
      intro x1_2 s_3 H locs ls hw hC hl
      refine lv_aload_n hx hb dX6_days_17 rfl (lv_at hl 0 rfl) ?_
      refine lv_iload_n hx hb dX6_days_18 rfl (lv_at hl 1 rfl) ?_
      refine cx_callVi0 (As := [.int x1_2]) (rest := []) ⟨hx, hb, hml, hown, hts⟩ (c_X6_dayAt l D cI q _ s_3 x1_2 _ hw) (cwV 1 hts gX6_days_X6_dayAt rfl rfl rfl (by decide +kernel) ⟨Nat.le_of_ble_eq_true rfl, Nat.le_of_ble_eq_true rfl⟩) hK hC hA 0 rfl rfl rfl rfl hl.1 rfl (Nat.le_of_ble_eq_true rfl) dX6_days_19 ⟨Nat.zero_le _, Nat.zero_le _⟩ (fun r_4 u_5 H locs hw hC => ?_)
      refine lv_aload_n hx hb dX6_days_22 rfl (lv_at hl 0 rfl) ?_
      refine cx_get (v := .int (u_5.1 9)) hx hb hts iX6 hown hK hC 0 rfl rfl 25 (by decide) u2 rfl rfl dX6_days_23 ?_
      refine lv_icmp_ge (tgt := 35) hx hb dX6_days_26 (by decide) (fun c_6 => ?_) (fun c_6 => ?_)
      · have hw := hw.1 c_6
        exact hKK x1_2 u_5 _ _ _ hw hC (lv_sub hl [0, 1] rfl)
      · have hw := hw.2 c_6
        refine lv_iinc (v := (x1_2 + 1)) (lv' := [(1, .int (x1_2 + 1)), (0, .ref (q 0))]) hx hb dX6_days_29 hl (k := 1) rfl rfl (by decide) rfl (fun ls hl => ?_)
        refine lv_goto (tgt := 17) hx hb dX6_days_32 (by decide) ?_
        exact ih (x1_2 + 1) u_5 _ _ _ hw hC (lv_sub hl [1, 0] rfl)
  refine lv_aload_n hx hb dX6_days_0 rfl (lv_at hl 0 rfl) ?_
  refine lv_iconst (v := 0) hx hb dX6_days_1 (by decide) ?_
  refine cx_put (v := .int 0) hx hb hts iX6 tyX6 tyX6_ok nmX6 hown hK hC 0 rfl rfl 0 (by decide) u1 rfl rfl (tyX6_ok 0 (by decide)) rfl rfl (Nat.le_of_ble_eq_true rfl) dX6_days_2 (ws' := (wM cI q ((va_up σ.1 0 0), σ.2))) (wM_i0 cI q _ _) (fun H locs hC => ?_)
  refine lv_aload_n hx hb dX6_days_5 rfl (lv_at hl 0 rfl) ?_
  refine cx_get (v := .int (σ.1 9)) hx hb hts iX6 hown hK hC 0 rfl rfl 25 (by decide) u2 rfl rfl dX6_days_6 ?_
  refine lv_iconst (v := (-1)) hx hb dX6_days_9 (by decide) ?_
  refine lv_icmp_ne (tgt := 15) hx hb dX6_days_10 (by decide) (fun c_1 => ?_) (fun c_1 => ?_)
  · have hw := hw.1 c_1
    refine lv_iconst (v := 0) hx hb dX6_days_15 (by decide) ?_
    refine lv_istore_n (lv' := [(1, .int 0), (0, .ref (q 0))]) hx hb dX6_days_16 rfl hl (by decide) rfl (fun ls hl => ?_)
    obtain ⟨n, hw⟩ := hw
    refine L17  _ (fun x1_7 s_8 H locs ls hw hC hl => ?_) n 0 ((va_up σ.1 0 0), σ.2) _ _ _ hw hC (lv_sub hl [1, 0] rfl)
    refine lv_iload_n hx hb dX6_days_35 rfl (lv_at hl 1 rfl) ?_
    exact cx_ret_i (u := s_8) hx hb hr hlocks hK hC hw dX6_days_36
  · have hw := hw.2 c_1
    refine lv_iconst (v := (-1)) hx hb dX6_days_13 (by decide) ?_
    exact cx_ret_i (u := ((va_up σ.1 0 0), σ.2)) hx hb hr hlocks hK hC hw dX6_days_14

/-! PictureHeapModel.day(II)I (X6_day) -/
set_option maxHeartbeats 1000000 in
set_option maxRecDepth 100000 in
theorem c_X6_day (l : Launch) (D : va_G) (cI : ClassId) (q : Nat → Nat) (sz : Nat) (σ : St) (x1 : Int32) (x2 : Int32) (post : Int32 → St → Prop) (hw : w_X6_day σ x1 x2 post) : Ci l yX6_day wsX6_day 2 44 D cI (wM cI q σ) sz [.ref (q 0), .int x1, .int x2] (wM cI q) post := by
  refine mo_i (cc := cX6_day) (maxL := 5) (ret := (some .int)) (by decide) rfl (Nat.le_of_ble_eq_true rfl) ?_
  intro p e s m below meth c hx hb hr hml hts hown hlocks hK A hA hC ls hl
  have hown : s.vm.findClass RX6 = some m.cls := hown
  have hl : lv_has ls 5 [(0, .ref (q 0)), (1, .int x1), (2, .int x2)] := hl
  have u1 : (Cond.fieldLink RX6 74 "PictureHeapModel" "thrown" "I").before [.ref (q 0), .int x1, .int x2].toArray s = true := hts _ (List.mem_of_getElem? (i := 1) rfl)
  have u2 : (Cond.fieldLink RX6 65 "PictureHeapModel" "rows" "I").before [.ref (q 0), .int x1, .int x2].toArray s = true := hts _ (List.mem_of_getElem? (i := 2) rfl)
  have u3 : (Cond.fieldLink RX6 71 "PictureHeapModel" "row" "[I").before [.ref (q 0), .int x1, .int x2].toArray s = true := hts _ (List.mem_of_getElem? (i := 3) rfl)
  have iX6 : ∀ w ∈ wsX60, w ∈ wsX6_day := fun _ h => List.mem_cons_of_mem _ (List.mem_append_right _ h)
  refine lv_aload_n hx hb dX6_day_0 rfl (lv_at hl 0 rfl) ?_
  refine lv_iconst (v := 0) hx hb dX6_day_1 (by decide) ?_
  refine cx_put (v := .int 0) hx hb hts iX6 tyX6 tyX6_ok nmX6 hown hK hC 0 rfl rfl 0 (by decide) u1 rfl rfl (tyX6_ok 0 (by decide)) rfl rfl (Nat.le_of_ble_eq_true rfl) dX6_day_2 (ws' := (wM cI q ((va_up σ.1 0 0), σ.2))) (wM_i0 cI q _ _) (fun H locs hC => ?_)
  refine lv_aload_n hx hb dX6_day_5 rfl (lv_at hl 0 rfl) ?_
  refine cx_get (v := .int (σ.1 9)) hx hb hts iX6 hown hK hC 0 rfl rfl 25 (by decide) u2 rfl rfl dX6_day_6 ?_
  refine lv_iconst (v := (-1)) hx hb dX6_day_9 (by decide) ?_
  refine lv_icmp_eq (tgt := 29) hx hb dX6_day_10 (by decide) (fun c_1 => ?_) (fun c_1 => ?_)
  · have hw := hw.1 c_1
    refine lv_iconst (v := (-1)) hx hb dX6_day_29 (by decide) ?_
    exact cx_ret_i (u := ((va_up σ.1 0 0), σ.2)) hx hb hr hlocks hK hC hw dX6_day_30
  · have hw := hw.2 c_1
    refine lv_iload_n hx hb dX6_day_13 rfl (lv_at hl 1 rfl) ?_
    refine lv_if_lt (tgt := 29) hx hb dX6_day_14 (by decide) (fun c_2 => ?_) (fun c_2 => ?_)
    · have hw := hw.1 c_2
      refine lv_iconst (v := (-1)) hx hb dX6_day_29 (by decide) ?_
      exact cx_ret_i (u := ((va_up σ.1 0 0), σ.2)) hx hb hr hlocks hK hC hw dX6_day_30
    · have hw := hw.2 c_2
      refine lv_aload_n hx hb dX6_day_17 rfl (lv_at hl 0 rfl) ?_
      refine lv_iload_n hx hb dX6_day_18 rfl (lv_at hl 1 rfl) ?_
      refine cx_callVi0 (As := [.int x1]) (rest := []) ⟨hx, hb, hml, hown, hts⟩ (c_X6_dayAt l D cI q _ ((va_up σ.1 0 0), σ.2) x1 _ hw) (cwV 1 hts gX6_day_X6_dayAt rfl rfl rfl (by decide +kernel) ⟨Nat.le_of_ble_eq_true rfl, Nat.le_of_ble_eq_true rfl⟩) hK hC hA 0 rfl rfl rfl rfl hl.1 rfl (Nat.le_of_ble_eq_true rfl) dX6_day_19 ⟨Nat.zero_le _, Nat.zero_le _⟩ (fun r_3 u_4 H locs hw hC => ?_)
      refine lv_aload_n hx hb dX6_day_22 rfl (lv_at hl 0 rfl) ?_
      refine cx_get (v := .int (u_4.1 9)) hx hb hts iX6 hown hK hC 0 rfl rfl 25 (by decide) u2 rfl rfl dX6_day_23 ?_
      refine lv_icmp_lt (tgt := 31) hx hb dX6_day_26 (by decide) (fun c_5 => ?_) (fun c_5 => ?_)
      · have hw := hw.1 c_5
        refine lv_aload_n hx hb dX6_day_31 rfl (lv_at hl 0 rfl) ?_
        refine lv_iload_n hx hb dX6_day_32 rfl (lv_at hl 1 rfl) ?_
        refine cx_callVi0 (As := [.int x1]) (rest := []) ⟨hx, hb, hml, hown, hts⟩ (c_X6_dayAt l D cI q _ u_4 x1 _ hw) (cwV 1 hts gX6_day_X6_dayAt rfl rfl rfl (by decide +kernel) ⟨Nat.le_of_ble_eq_true rfl, Nat.le_of_ble_eq_true rfl⟩) hK hC hA 0 rfl rfl rfl rfl hl.1 rfl (Nat.le_of_ble_eq_true rfl) dX6_day_33 ⟨Nat.zero_le _, Nat.zero_le _⟩ (fun r_6 u_7 H locs hw hC => ?_)
        refine lv_istore_n (lv' := [(3, .int r_6), (0, .ref (q 0)), (1, .int x1), (2, .int x2)]) hx hb dX6_day_36 rfl hl (by decide) rfl (fun ls hl => ?_)
        refine lv_aload_n hx hb dX6_day_37 rfl (lv_at hl 1 rfl) ?_
        refine lv_iload_n hx hb dX6_day_38 rfl (lv_at hl 2 rfl) ?_
        refine lv_iconst (v := 1) hx hb dX6_day_39 (by decide) ?_
        refine lv_iadd hx hb dX6_day_40 ?_
        refine cx_callVi0 (As := [.int (x1 + 1)]) (rest := []) ⟨hx, hb, hml, hown, hts⟩ (c_X6_dayAt l D cI q _ u_7 (x1 + 1) _ hw) (cwV 1 hts gX6_day_X6_dayAt rfl rfl rfl (by decide +kernel) ⟨Nat.le_of_ble_eq_true rfl, Nat.le_of_ble_eq_true rfl⟩) hK hC hA 0 rfl rfl rfl rfl hl.1 rfl (Nat.le_of_ble_eq_true rfl) dX6_day_41 ⟨Nat.zero_le _, Nat.zero_le _⟩ (fun r_8 u_9 H locs hw hC => ?_)
        refine lv_istore (lv' := [(4, .int r_8), (3, .int r_6), (0, .ref (q 0)), (1, .int x1), (2, .int x2)]) hx hb dX6_day_44 hl (by decide) rfl (fun ls hl => ?_)
        refine lv_iload_n hx hb dX6_day_46 rfl (lv_at hl 4 rfl) ?_
        refine lv_if_ne (tgt := 54) hx hb dX6_day_47 (by decide) (fun c_10 => ?_) (fun c_10 => ?_)
        · have hw := hw.1 c_10
          refine lv_iload_n hx hb dX6_day_54 rfl (lv_at hl 4 rfl) ?_
          refine lv_iconst (v := 1) hx hb dX6_day_55 (by decide) ?_
          refine lv_icmp_ne (tgt := 66) hx hb dX6_day_56 (by decide) (fun c_11 => ?_) (fun c_11 => ?_)
          · have hw := hw.1 c_11
            refine lv_iload_n hx hb dX6_day_66 rfl (lv_at hl 4 rfl) ?_
            refine lv_iconst (v := 2) hx hb dX6_day_67 (by decide) ?_
            refine lv_icmp_ne (tgt := 98) hx hb dX6_day_68 (by decide) (fun c_12 => ?_) (fun c_12 => ?_)
            · have hw := hw.1 c_12
              refine lv_iconst (v := (-1)) hx hb dX6_day_98 (by decide) ?_
              exact cx_ret_i (u := u_9) hx hb hr hlocks hK hC hw dX6_day_99
            · have hw := hw.2 c_12
              refine lv_aload_n hx hb dX6_day_71 rfl (lv_at hl 2 rfl) ?_
              refine lv_aload_n hx hb dX6_day_72 rfl (lv_at hl 2 rfl) ?_
              refine cx_get (v := .ref (q 18)) hx hb hts iX6 hown hK hC 0 rfl rfl 28 (by decide) u3 rfl rfl dX6_day_73 ?_
              refine lv_iload hx hb dX6_day_76 (lv_at hl 0 rfl) ?_
              refine lv_iconst (v := 1) hx hb dX6_day_78 (by decide) ?_
              refine lv_isub hx hb dX6_day_79 ?_
              refine cx_iald (f := u_9.2 17) hx hb hK hC 18 rfl hw.1 dX6_day_80 ?_
              have hw := hw.2
              refine cx_callVi0 (As := [.int (u_9.2 17 (Int32.toNatClampNeg (r_8 - 1)))]) (rest := []) ⟨hx, hb, hml, hown, hts⟩ (c_X6_timeOf l D cI q _ u_9 (u_9.2 17 (Int32.toNatClampNeg (r_8 - 1))) _ hw) (cwV 1 hts gX6_day_X6_timeOf rfl rfl rfl (by decide +kernel) ⟨Nat.le_of_ble_eq_true rfl, Nat.le_of_ble_eq_true rfl⟩) hK hC hA 0 rfl rfl rfl rfl hl.1 rfl (Nat.le_of_ble_eq_true rfl) dX6_day_81 ⟨Nat.zero_le _, Nat.zero_le _⟩ (fun r_13 u_14 H locs hw hC => ?_)
              refine lv_aload_n hx hb dX6_day_84 rfl (lv_at hl 2 rfl) ?_
              refine lv_aload_n hx hb dX6_day_85 rfl (lv_at hl 2 rfl) ?_
              refine cx_get (v := .ref (q 18)) hx hb hts iX6 hown hK hC 0 rfl rfl 28 (by decide) u3 rfl rfl dX6_day_86 ?_
              refine lv_iload_n hx hb dX6_day_89 rfl (lv_at hl 1 rfl) ?_
              refine cx_iald (f := u_14.2 17) hx hb hK hC 18 rfl hw.1 dX6_day_90 ?_
              have hw := hw.2
              refine cx_callVi0 (As := [.int (u_14.2 17 (Int32.toNatClampNeg r_6))]) (rest := [.int r_13]) ⟨hx, hb, hml, hown, hts⟩ (c_X6_timeOf l D cI q _ u_14 (u_14.2 17 (Int32.toNatClampNeg r_6)) _ hw) (cwV 1 hts gX6_day_X6_timeOf rfl rfl rfl (by decide +kernel) ⟨Nat.le_of_ble_eq_true rfl, Nat.le_of_ble_eq_true rfl⟩) hK hC hA 0 rfl rfl rfl rfl hl.1 rfl (Nat.le_of_ble_eq_true rfl) dX6_day_91 ⟨Nat.zero_le _, Nat.zero_le _⟩ (fun r_15 u_16 H locs hw hC => ?_)
              refine lv_isub hx hb dX6_day_94 ?_
              refine lv_goto (tgt := 99) hx hb dX6_day_95 (by decide) ?_
              exact cx_ret_i (u := u_16) hx hb hr hlocks hK hC hw dX6_day_99
          · have hw := hw.2 c_11
            refine lv_iload hx hb dX6_day_59 (lv_at hl 0 rfl) ?_
            refine lv_iload_n hx hb dX6_day_61 rfl (lv_at hl 1 rfl) ?_
            refine lv_isub hx hb dX6_day_62 ?_
            refine lv_goto (tgt := 99) hx hb dX6_day_63 (by decide) ?_
            exact cx_ret_i (u := u_9) hx hb hr hlocks hK hC hw dX6_day_99
        · have hw := hw.2 c_10
          refine lv_iload_n hx hb dX6_day_50 rfl (lv_at hl 1 rfl) ?_
          refine lv_goto (tgt := 99) hx hb dX6_day_51 (by decide) ?_
          exact cx_ret_i (u := u_9) hx hb hr hlocks hK hC hw dX6_day_99
      · have hw := hw.2 c_5
        refine lv_iconst (v := (-1)) hx hb dX6_day_29 (by decide) ?_
        exact cx_ret_i (u := u_4) hx hb hr hlocks hK hC hw dX6_day_30

/-! PictureHeapModel.runs(Z)I (X6_runs) -/
set_option maxHeartbeats 1000000 in
set_option maxRecDepth 100000 in
theorem c_X6_runs (l : Launch) (D : va_G) (cI : ClassId) (q : Nat → Nat) (sz : Nat) (σ : St) (x1 : Int32) (post : Int32 → St → Prop) (hw : w_X6_runs σ x1 post) : Ci l yX6_runs wsX6_runs 1 22 D cI (wM cI q σ) sz [.ref (q 0), .int x1] (wM cI q) post := by
  refine mo_i (cc := cX6_runs) (maxL := 10) (ret := (some .int)) (by decide) rfl (Nat.le_of_ble_eq_true rfl) ?_
  intro p e s m below meth c hx hb hr hml hts hown hlocks hK A hA hC ls hl
  have hown : s.vm.findClass RX6 = some m.cls := hown
  have hl : lv_has ls 10 [(0, .ref (q 0)), (1, .int x1)] := hl
  have u1 : (Cond.fieldLink RX6 182 "PictureHeapModel" "putCameras" "I").before [.ref (q 0), .int x1].toArray s = true := hts _ (List.mem_of_getElem? (i := 1) rfl)
  have u2 : (Cond.fieldLink RX6 65 "PictureHeapModel" "rows" "I").before [.ref (q 0), .int x1].toArray s = true := hts _ (List.mem_of_getElem? (i := 2) rfl)
  have u3 : (Cond.fieldLink RX6 71 "PictureHeapModel" "row" "[I").before [.ref (q 0), .int x1].toArray s = true := hts _ (List.mem_of_getElem? (i := 3) rfl)
  have u4 : (Cond.fieldLink RX6 20 "PictureHeapModel" "camera" "[I").before [.ref (q 0), .int x1].toArray s = true := hts _ (List.mem_of_getElem? (i := 4) rfl)
  have u6 : (Cond.methodLink RX6 195 Lib.Math.max.name).before [.ref (q 0), .int x1].toArray s = true := hts _ (List.mem_of_getElem? (i := 6) rfl)
  have u7 : (Cond.static Lib.Math.max.name).before [.ref (q 0), .int x1].toArray s = true := hts _ (List.mem_of_getElem? (i := 7) rfl)
  have u8 : (Cond.initialized "java/lang/Math").before [.ref (q 0), .int x1].toArray s = true := hts _ (List.mem_of_getElem? (i := 8) rfl)
  have u9 : (Cond.code Lib.Math.max.name Lib.Math.max.code 2 (some .int)).before [.ref (q 0), .int x1].toArray s = true := hts _ (List.mem_of_getElem? (i := 9) rfl)
  have u5 : (Cond.fieldLink RX6 26 "PictureHeapModel" "marks" "[I").before [.ref (q 0), .int x1].toArray s = true := hts _ (List.mem_of_getElem? (i := 5) rfl)
  have iX6 : ∀ w ∈ wsX60, w ∈ wsX6_runs := fun _ h => List.mem_cons_of_mem _ (List.mem_append_right _ h)
  have J137 : ∀ (x1_45 : Int32) (x3_46 : Int32) (x4_47 : Int32) (x6_48 : Int32) (x7_49 : Int32) (x8_50 : Int32) (z_52 : Int32) (z_53 : Int32) (s_51 : St) (K25 : Int32 → Int32 → Int32 → Int32 → St → Prop) (hK25 : ∀ (x2 : Int32) (x3 : Int32) (x5 : Int32) (x7 : Int32) (u : St) (H : Heap) (locs : List Loc) (ls : Array Slot), K25 x2 x3 x5 x7 u → Cx D A s.heap (wM cI q u) H locs → lv_has ls 10 [(0, .ref (q 0)), (1, .int x1_45), (2, .int x2), (3, .int x3), (4, .int x4_47), (5, .int x5), (6, .int x6_48), (7, .int x7)] → W p l e (Rm 1 22) s m [.ref (q 0), .int x1].toArray below meth c H locs 0 0 (QI below D cI A (wM cI q) post [.ref (q 0), .int x1].toArray s) (F0 m 25 ls [])) (H : Heap) (locs : List Loc) (ls : Array Slot), w_X6_runs_J137 post K25 x1_45 x3_46 x4_47 x6_48 x7_49 x8_50 z_52 z_53 s_51 → Cx D A s.heap (wM cI q s_51) H locs → lv_has ls 10 [(0, .ref (q 0)), (1, .int x1_45), (3, .int x3_46), (4, .int x4_47), (6, .int x6_48), (7, .int x7_49), (8, .int x8_50)] → W p l e (Rm 1 22) s m [.ref (q 0), .int x1].toArray below meth c H locs 0 0 (QI below D cI A (wM cI q) post [.ref (q 0), .int x1].toArray s) (F0 m 137 ls [.int z_52, .int z_53]) := by
    intro x1_45 x3_46 x4_47 x6_48 x7_49 x8_50 z_52 z_53 s_51 K25 hK25 H locs ls hw hC hl
    refine lv_iadd hx hb dX6_runs_137 ?_
    refine lv_istore_n (lv' := [(2, .int (z_53 + z_52)), (0, .ref (q 0)), (1, .int x1_45), (3, .int x3_46), (4, .int x4_47), (6, .int x6_48), (7, .int x7_49), (8, .int x8_50)]) hx hb dX6_runs_138 rfl hl (by decide) rfl (fun ls hl => ?_)
    refine lv_iload hx hb dX6_runs_139 (lv_at hl 5 rfl) ?_
    refine lv_iconst (v := 1) hx hb dX6_runs_141 (by decide) ?_
    refine lv_icmp_le (tgt := 154) hx hb dX6_runs_142 (by decide) (fun c_54 => ?_) (fun c_54 => ?_)
    · have hw := hw.1 c_54
      refine lv_iload_n hx hb dX6_runs_154 rfl (lv_at hl 3 rfl) ?_
      refine lv_istore_n (lv' := [(3, .int x3_46), (2, .int (z_53 + z_52)), (0, .ref (q 0)), (1, .int x1_45), (4, .int x4_47), (6, .int x6_48), (7, .int x7_49), (8, .int x8_50)]) hx hb dX6_runs_155 rfl hl (by decide) rfl (fun ls hl => ?_)
      refine lv_iload hx hb dX6_runs_156 (lv_at hl 7 rfl) ?_
      refine lv_istore (lv' := [(5, .int x8_50), (3, .int x3_46), (2, .int (z_53 + z_52)), (0, .ref (q 0)), (1, .int x1_45), (4, .int x4_47), (6, .int x6_48), (7, .int x7_49), (8, .int x8_50)]) hx hb dX6_runs_158 hl (by decide) rfl (fun ls hl => ?_)
      refine lv_iinc (v := (x7_49 + 1)) (lv' := [(7, .int (x7_49 + 1)), (5, .int x8_50), (3, .int x3_46), (2, .int (z_53 + z_52)), (0, .ref (q 0)), (1, .int x1_45), (4, .int x4_47), (6, .int x6_48), (8, .int x8_50)]) hx hb dX6_runs_160 hl (k := 7) rfl rfl (by decide) rfl (fun ls hl => ?_)
      refine lv_goto (tgt := 25) hx hb dX6_runs_163 (by decide) ?_
      exact hK25 (z_53 + z_52) x3_46 x8_50 (x7_49 + 1) s_51 _ _ _ hw hC (lv_sub hl [4, 5, 3, 2, 6, 1, 7, 0] rfl)
    · have hw := hw.2 c_54
      refine lv_iload_n hx hb dX6_runs_145 rfl (lv_at hl 3 rfl) ?_
      refine lv_iload hx hb dX6_runs_146 (lv_at hl 5 rfl) ?_
      refine va_mmax hx hb (hml.trans hl.1.symm) hown u6 u7 u8 u9 (Nat.le_of_ble_eq_true rfl) (Nat.le_of_ble_eq_true rfl) (Nat.le_refl 0) (Nat.le_refl 0) dX6_runs_148 ?_
      refine lv_goto (tgt := 155) hx hb dX6_runs_151 (by decide) ?_
      refine lv_istore_n (lv' := [(3, .int (if x3_46 < x6_48 then x6_48 else x3_46)), (2, .int (z_53 + z_52)), (0, .ref (q 0)), (1, .int x1_45), (4, .int x4_47), (6, .int x6_48), (7, .int x7_49), (8, .int x8_50)]) hx hb dX6_runs_155 rfl hl (by decide) rfl (fun ls hl => ?_)
      refine lv_iload hx hb dX6_runs_156 (lv_at hl 7 rfl) ?_
      refine lv_istore (lv' := [(5, .int x8_50), (3, .int (if x3_46 < x6_48 then x6_48 else x3_46)), (2, .int (z_53 + z_52)), (0, .ref (q 0)), (1, .int x1_45), (4, .int x4_47), (6, .int x6_48), (7, .int x7_49), (8, .int x8_50)]) hx hb dX6_runs_158 hl (by decide) rfl (fun ls hl => ?_)
      refine lv_iinc (v := (x7_49 + 1)) (lv' := [(7, .int (x7_49 + 1)), (5, .int x8_50), (3, .int (if x3_46 < x6_48 then x6_48 else x3_46)), (2, .int (z_53 + z_52)), (0, .ref (q 0)), (1, .int x1_45), (4, .int x4_47), (6, .int x6_48), (8, .int x8_50)]) hx hb dX6_runs_160 hl (k := 7) rfl rfl (by decide) rfl (fun ls hl => ?_)
      refine lv_goto (tgt := 25) hx hb dX6_runs_163 (by decide) ?_
      exact hK25 (z_53 + z_52) (if x3_46 < x6_48 then x6_48 else x3_46) x8_50 (x7_49 + 1) s_51 _ _ _ hw hC (lv_sub hl [4, 5, 3, 2, 6, 1, 7, 0] rfl)
  have J123 : ∀ (x1_36 : Int32) (x2_37 : Int32) (x3_38 : Int32) (x4_39 : Int32) (x7_40 : Int32) (x8_41 : Int32) (z_43 : Int32) (s_42 : St) (K25 : Int32 → Int32 → Int32 → Int32 → Int32 → St → Prop) (hK25 : ∀ (x2 : Int32) (x3 : Int32) (x5 : Int32) (x6 : Int32) (x7 : Int32) (u : St) (H : Heap) (locs : List Loc) (ls : Array Slot), K25 x2 x3 x5 x6 x7 u → Cx D A s.heap (wM cI q u) H locs → lv_has ls 10 [(0, .ref (q 0)), (1, .int x1_36), (2, .int x2), (3, .int x3), (4, .int x4_39), (5, .int x5), (6, .int x6), (7, .int x7)] → W p l e (Rm 1 22) s m [.ref (q 0), .int x1].toArray below meth c H locs 0 0 (QI below D cI A (wM cI q) post [.ref (q 0), .int x1].toArray s) (F0 m 25 ls [])) (H : Heap) (locs : List Loc) (ls : Array Slot), w_X6_runs_J123 post K25 x1_36 x2_37 x3_38 x4_39 x7_40 x8_41 z_43 s_42 → Cx D A s.heap (wM cI q s_42) H locs → lv_has ls 10 [(0, .ref (q 0)), (1, .int x1_36), (2, .int x2_37), (3, .int x3_38), (4, .int x4_39), (7, .int x7_40), (8, .int x8_41)] → W p l e (Rm 1 22) s m [.ref (q 0), .int x1].toArray below meth c H locs 0 0 (QI below D cI A (wM cI q) post [.ref (q 0), .int x1].toArray s) (F0 m 123 ls [.int z_43]) := by
    intro x1_36 x2_37 x3_38 x4_39 x7_40 x8_41 z_43 s_42 K25 hK25 H locs ls hw hC hl
    refine lv_istore (lv' := [(6, .int z_43), (0, .ref (q 0)), (1, .int x1_36), (2, .int x2_37), (3, .int x3_38), (4, .int x4_39), (7, .int x7_40), (8, .int x8_41)]) hx hb dX6_runs_123 hl (by decide) rfl (fun ls hl => ?_)
    refine lv_iload_n hx hb dX6_runs_125 rfl (lv_at hl 3 rfl) ?_
    refine lv_iload hx hb dX6_runs_126 (lv_at hl 0 rfl) ?_
    refine lv_iconst (v := 2) hx hb dX6_runs_128 (by decide) ?_
    refine lv_icmp_ne (tgt := 136) hx hb dX6_runs_129 (by decide) (fun c_44 => ?_) (fun c_44 => ?_)
    · have hw := hw.1 c_44
      refine lv_iconst (v := 0) hx hb dX6_runs_136 (by decide) ?_
      exact J137 x1_36 x3_38 x4_39 z_43 x7_40 x8_41 0 x2_37 s_42 _ (fun x2_55 x3_56 x5_57 x7_58 u_59 H locs ls hw hC hl => by exact hK25 x2_55 x3_56 x5_57 z_43 x7_58 u_59 _ _ _ hw hC (lv_sub hl [0, 1, 2, 3, 4, 5, 6, 7] rfl)) _ _ _ hw hC (lv_sub hl [1, 2, 4, 5, 0, 6, 7] rfl)
    · have hw := hw.2 c_44
      refine lv_iconst (v := 1) hx hb dX6_runs_132 (by decide) ?_
      refine lv_goto (tgt := 137) hx hb dX6_runs_133 (by decide) ?_
      exact J137 x1_36 x3_38 x4_39 z_43 x7_40 x8_41 1 x2_37 s_42 _ (fun x2_60 x3_61 x5_62 x7_63 u_64 H locs ls hw hC hl => by exact hK25 x2_60 x3_61 x5_62 z_43 x7_63 u_64 _ _ _ hw hC (lv_sub hl [0, 1, 2, 3, 4, 5, 6, 7] rfl)) _ _ _ hw hC (lv_sub hl [1, 2, 4, 5, 0, 6, 7] rfl)
  have J108 : ∀ (x1_26 : Int32) (x2_27 : Int32) (x3_28 : Int32) (x4_29 : Int32) (x6_30 : Int32) (x7_31 : Int32) (x8_32 : Int32) (z_34 : Int32) (s_33 : St) (K25 : Int32 → Int32 → Int32 → Int32 → Int32 → St → Prop) (hK25 : ∀ (x2 : Int32) (x3 : Int32) (x5 : Int32) (x6 : Int32) (x7 : Int32) (u : St) (H : Heap) (locs : List Loc) (ls : Array Slot), K25 x2 x3 x5 x6 x7 u → Cx D A s.heap (wM cI q u) H locs → lv_has ls 10 [(0, .ref (q 0)), (1, .int x1_26), (2, .int x2), (3, .int x3), (4, .int x4_29), (5, .int x5), (6, .int x6), (7, .int x7)] → W p l e (Rm 1 22) s m [.ref (q 0), .int x1].toArray below meth c H locs 0 0 (QI below D cI A (wM cI q) post [.ref (q 0), .int x1].toArray s) (F0 m 25 ls [])) (H : Heap) (locs : List Loc) (ls : Array Slot), w_X6_runs_J108 post K25 x1_26 x2_27 x3_28 x4_29 x6_30 x7_31 x8_32 z_34 s_33 → Cx D A s.heap (wM cI q s_33) H locs → lv_has ls 10 [(0, .ref (q 0)), (1, .int x1_26), (2, .int x2_27), (3, .int x3_28), (4, .int x4_29), (6, .int x6_30), (7, .int x7_31), (8, .int x8_32)] → W p l e (Rm 1 22) s m [.ref (q 0), .int x1].toArray below meth c H locs 0 0 (QI below D cI A (wM cI q) post [.ref (q 0), .int x1].toArray s) (F0 m 108 ls [.int z_34]) := by
    intro x1_26 x2_27 x3_28 x4_29 x6_30 x7_31 x8_32 z_34 s_33 K25 hK25 H locs ls hw hC hl
    refine lv_istore (lv' := [(9, .int z_34), (0, .ref (q 0)), (1, .int x1_26), (2, .int x2_27), (3, .int x3_28), (4, .int x4_29), (6, .int x6_30), (7, .int x7_31), (8, .int x8_32)]) hx hb dX6_runs_108 hl (by decide) rfl (fun ls hl => ?_)
    refine lv_iload hx hb dX6_runs_110 (lv_at hl 0 rfl) ?_
    refine lv_if_eq (tgt := 122) hx hb dX6_runs_112 (by decide) (fun c_35 => ?_) (fun c_35 => ?_)
    · have hw := hw.1 c_35
      refine lv_iconst (v := 1) hx hb dX6_runs_122 (by decide) ?_
      exact J123 x1_26 x2_27 x3_28 x4_29 x7_31 x8_32 1 s_33 _ (fun x2_65 x3_66 x5_67 x6_68 x7_69 u_70 H locs ls hw hC hl => by exact hK25 x2_65 x3_66 x5_67 x6_68 x7_69 u_70 _ _ _ hw hC (lv_sub hl [0, 1, 2, 3, 4, 5, 6, 7] rfl)) _ _ _ hw hC (lv_sub hl [1, 2, 3, 4, 5, 7, 8] rfl)
    · have hw := hw.2 c_35
      refine lv_iload hx hb dX6_runs_115 (lv_at hl 6 rfl) ?_
      refine lv_iconst (v := 1) hx hb dX6_runs_117 (by decide) ?_
      refine lv_iadd hx hb dX6_runs_118 ?_
      refine lv_goto (tgt := 123) hx hb dX6_runs_119 (by decide) ?_
      exact J123 x1_26 x2_27 x3_28 x4_29 x7_31 x8_32 (x6_30 + 1) s_33 _ (fun x2_71 x3_72 x5_73 x6_74 x7_75 u_76 H locs ls hw hC hl => by exact hK25 x2_71 x3_72 x5_73 x6_74 x7_75 u_76 _ _ _ hw hC (lv_sub hl [0, 1, 2, 3, 4, 5, 6, 7] rfl)) _ _ _ hw hC (lv_sub hl [1, 2, 3, 4, 5, 7, 8] rfl)
  have J107 : ∀ (x1_18 : Int32) (x2_19 : Int32) (x3_20 : Int32) (x4_21 : Int32) (x6_22 : Int32) (x7_23 : Int32) (x8_24 : Int32) (s_25 : St) (K25 : Int32 → Int32 → Int32 → Int32 → Int32 → St → Prop) (hK25 : ∀ (x2 : Int32) (x3 : Int32) (x5 : Int32) (x6 : Int32) (x7 : Int32) (u : St) (H : Heap) (locs : List Loc) (ls : Array Slot), K25 x2 x3 x5 x6 x7 u → Cx D A s.heap (wM cI q u) H locs → lv_has ls 10 [(0, .ref (q 0)), (1, .int x1_18), (2, .int x2), (3, .int x3), (4, .int x4_21), (5, .int x5), (6, .int x6), (7, .int x7)] → W p l e (Rm 1 22) s m [.ref (q 0), .int x1].toArray below meth c H locs 0 0 (QI below D cI A (wM cI q) post [.ref (q 0), .int x1].toArray s) (F0 m 25 ls [])) (H : Heap) (locs : List Loc) (ls : Array Slot), w_X6_runs_J107 post K25 x1_18 x2_19 x3_20 x4_21 x6_22 x7_23 x8_24 s_25 → Cx D A s.heap (wM cI q s_25) H locs → lv_has ls 10 [(0, .ref (q 0)), (1, .int x1_18), (2, .int x2_19), (3, .int x3_20), (4, .int x4_21), (6, .int x6_22), (7, .int x7_23), (8, .int x8_24)] → W p l e (Rm 1 22) s m [.ref (q 0), .int x1].toArray below meth c H locs 0 0 (QI below D cI A (wM cI q) post [.ref (q 0), .int x1].toArray s) (F0 m 107 ls []) := by
    intro x1_18 x2_19 x3_20 x4_21 x6_22 x7_23 x8_24 s_25 K25 hK25 H locs ls hw hC hl
    refine lv_iconst (v := 0) hx hb dX6_runs_107 (by decide) ?_
    exact J108 x1_18 x2_19 x3_20 x4_21 x6_22 x7_23 x8_24 0 s_25 _ (fun x2_77 x3_78 x5_79 x6_80 x7_81 u_82 H locs ls hw hC hl => by exact hK25 x2_77 x3_78 x5_79 x6_80 x7_81 u_82 _ _ _ hw hC (lv_sub hl [0, 1, 2, 3, 4, 5, 6, 7] rfl)) _ _ _ hw hC (lv_sub hl [0, 1, 2, 3, 4, 5, 6, 7] rfl)
  have L25 : ∀ (x1_7 : Int32) (x4_8 : Int32) (K : Int32 → Int32 → Int32 → Int32 → Int32 → St → Prop) (hKK : ∀ (x2_9 : Int32) (x3_10 : Int32) (x5_11 : Int32) (x6_12 : Int32) (x7_13 : Int32) (s_14 : St) (H : Heap) (locs : List Loc) (ls : Array Slot), K x2_9 x3_10 x5_11 x6_12 x7_13 s_14 → Cx D A s.heap (wM cI q s_14) H locs → lv_has ls 10 [(0, .ref (q 0)), (1, .int x1_7), (2, .int x2_9), (3, .int x3_10), (4, .int x4_8), (5, .int x5_11), (6, .int x6_12), (7, .int x7_13)] → W p l e (Rm 1 22) s m [.ref (q 0), .int x1].toArray below meth c H locs 0 0 (QI below D cI A (wM cI q) post [.ref (q 0), .int x1].toArray s) (F0 m 166 ls [])) (n : Nat), ∀ (x2_9 : Int32) (x3_10 : Int32) (x5_11 : Int32) (x6_12 : Int32) (x7_13 : Int32) (s_14 : St) (H : Heap) (locs : List Loc) (ls : Array Slot), w_X6_runs_L25 x1_7 x4_8 post K n x2_9 x3_10 x5_11 x6_12 x7_13 s_14 → Cx D A s.heap (wM cI q s_14) H locs → lv_has ls 10 [(0, .ref (q 0)), (1, .int x1_7), (2, .int x2_9), (3, .int x3_10), (4, .int x4_8), (5, .int x5_11), (6, .int x6_12), (7, .int x7_13)] → W p l e (Rm 1 22) s m [.ref (q 0), .int x1].toArray below meth c H locs 0 0 (QI below D cI A (wM cI q) post [.ref (q 0), .int x1].toArray s) (F0 m 25 ls []) := by
    intro x1_7 x4_8 K hKK n
    induction n with
    | zero => intro x2_9 x3_10 x5_11 x6_12 x7_13 s_14 H locs ls hw; exact hw.elim
    | succ n ih =>
      intro x2_9 x3_10 x5_11 x6_12 x7_13 s_14 H locs ls hw hC hl
      refine lv_iload hx hb dX6_runs_25 (lv_at hl 7 rfl) ?_
      refine lv_aload_n hx hb dX6_runs_27 rfl (lv_at hl 0 rfl) ?_
      refine cx_get (v := .int (s_14.1 9)) hx hb hts iX6 hown hK hC 0 rfl rfl 25 (by decide) u2 rfl rfl dX6_runs_28 ?_
      refine lv_icmp_ge (tgt := 166) hx hb dX6_runs_31 (by decide) (fun c_15 => ?_) (fun c_15 => ?_)
      · have hw := hw.1 c_15
        exact hKK x2_9 x3_10 x5_11 x6_12 x7_13 s_14 _ _ _ hw hC (lv_sub hl [0, 1, 2, 3, 4, 5, 6, 7] rfl)
      · have hw := hw.2 c_15
        refine lv_aload_n hx hb dX6_runs_34 rfl (lv_at hl 0 rfl) ?_
        refine cx_get (v := .ref (q 18)) hx hb hts iX6 hown hK hC 0 rfl rfl 28 (by decide) u3 rfl rfl dX6_runs_35 ?_
        refine lv_iload hx hb dX6_runs_38 (lv_at hl 7 rfl) ?_
        refine cx_iald (f := s_14.2 17) hx hb hK hC 18 rfl hw.1 dX6_runs_40 ?_
        have hw := hw.2
        refine lv_istore (lv' := [(8, .int (s_14.2 17 (Int32.toNatClampNeg x7_13))), (0, .ref (q 0)), (1, .int x1_7), (2, .int x2_9), (3, .int x3_10), (4, .int x4_8), (5, .int x5_11), (6, .int x6_12), (7, .int x7_13)]) hx hb dX6_runs_41 hl (by decide) rfl (fun ls hl => ?_)
        refine lv_aload_n hx hb dX6_runs_43 rfl (lv_at hl 1 rfl) ?_
        refine cx_get (v := .ref (q 2)) hx hb hts iX6 hown hK hC 0 rfl rfl 10 (by decide) u4 rfl rfl dX6_runs_44 ?_
        refine lv_iload hx hb dX6_runs_47 (lv_at hl 0 rfl) ?_
        refine cx_iald (f := s_14.2 1) hx hb hK hC 2 rfl hw.1 dX6_runs_49 ?_
        have hw := hw.2
        refine lv_iload hx hb dX6_runs_50 (lv_at hl 5 rfl) ?_
        refine lv_icmp_eq (tgt := 58) hx hb dX6_runs_52 (by decide) (fun c_16 => ?_) (fun c_16 => ?_)
        · have hw := hw.1 c_16
          refine lv_iload hx hb dX6_runs_58 (lv_at hl 6 rfl) ?_
          refine lv_iconst (v := (-1)) hx hb dX6_runs_60 (by decide) ?_
          refine lv_icmp_eq (tgt := 107) hx hb dX6_runs_61 (by decide) (fun c_17 => ?_) (fun c_17 => ?_)
          · have hw := hw.1 c_17
            exact J107 x1_7 x2_9 x3_10 x4_8 x6_12 x7_13 (s_14.2 17 (Int32.toNatClampNeg x7_13)) s_14 _ (fun x2_83 x3_84 x5_85 x6_86 x7_87 u_88 H locs ls hw hC hl => by exact ih x2_83 x3_84 x5_85 x6_86 x7_87 u_88 _ _ _ hw hC (lv_sub hl [0, 1, 2, 3, 4, 5, 6, 7] rfl)) _ _ _ hw hC (lv_sub hl [1, 2, 3, 4, 5, 7, 8, 0] rfl)
          · have hw := hw.2 c_17
            refine lv_aload_n hx hb dX6_runs_64 rfl (lv_at hl 1 rfl) ?_
            refine lv_iload hx hb dX6_runs_65 (lv_at hl 0 rfl) ?_
            refine cx_callVi0 (As := [.int (s_14.2 17 (Int32.toNatClampNeg x7_13))]) (rest := []) ⟨hx, hb, hml, hown, hts⟩ (c_X6_timeOf l D cI q _ s_14 (s_14.2 17 (Int32.toNatClampNeg x7_13)) _ hw) (cwV 1 hts gX6_runs_X6_timeOf rfl rfl rfl (by decide +kernel) ⟨Nat.le_of_ble_eq_true rfl, Nat.le_of_ble_eq_true rfl⟩) hK hC hA 0 rfl rfl rfl rfl hl.1 rfl (Nat.le_of_ble_eq_true rfl) dX6_runs_67 ⟨Nat.zero_le _, Nat.zero_le _⟩ (fun r_89 u_90 H locs hw hC => ?_)
            refine lv_aload_n hx hb dX6_runs_70 rfl (lv_at hl 1 rfl) ?_
            refine lv_iload hx hb dX6_runs_71 (lv_at hl 6 rfl) ?_
            refine cx_callVi0 (As := [.int x5_11]) (rest := [.int r_89]) ⟨hx, hb, hml, hown, hts⟩ (c_X6_timeOf l D cI q _ u_90 x5_11 _ hw) (cwV 1 hts gX6_runs_X6_timeOf rfl rfl rfl (by decide +kernel) ⟨Nat.le_of_ble_eq_true rfl, Nat.le_of_ble_eq_true rfl⟩) hK hC hA 0 rfl rfl rfl rfl hl.1 rfl (Nat.le_of_ble_eq_true rfl) dX6_runs_73 ⟨Nat.zero_le _, Nat.zero_le _⟩ (fun r_91 u_92 H locs hw hC => ?_)
            refine lv_isub hx hb dX6_runs_76 ?_
            refine lv_iconst (v := 2) hx hb dX6_runs_77 (by decide) ?_
            refine lv_icmp_gt (tgt := 107) hx hb dX6_runs_78 (by decide) (fun c_93 => ?_) (fun c_93 => ?_)
            · have hw := hw.1 c_93
              exact J107 x1_7 x2_9 x3_10 x4_8 x6_12 x7_13 (s_14.2 17 (Int32.toNatClampNeg x7_13)) u_92 _ (fun x2_94 x3_95 x5_96 x6_97 x7_98 u_99 H locs ls hw hC hl => by exact ih x2_94 x3_95 x5_96 x6_97 x7_98 u_99 _ _ _ hw hC (lv_sub hl [0, 1, 2, 3, 4, 5, 6, 7] rfl)) _ _ _ hw hC (lv_sub hl [1, 2, 3, 4, 5, 7, 8, 0] rfl)
            · have hw := hw.2 c_93
              refine lv_aload_n hx hb dX6_runs_81 rfl (lv_at hl 1 rfl) ?_
              refine cx_get (v := .ref (q 4)) hx hb hts iX6 hown hK hC 0 rfl rfl 12 (by decide) u5 rfl rfl dX6_runs_82 ?_
              refine lv_iload hx hb dX6_runs_85 (lv_at hl 0 rfl) ?_
              refine cx_iald (f := u_92.2 3) hx hb hK hC 4 rfl hw.1 dX6_runs_87 ?_
              have hw := hw.2
              refine lv_aload_n hx hb dX6_runs_88 rfl (lv_at hl 1 rfl) ?_
              refine cx_get (v := .ref (q 4)) hx hb hts iX6 hown hK hC 0 rfl rfl 12 (by decide) u5 rfl rfl dX6_runs_89 ?_
              refine lv_iload hx hb dX6_runs_92 (lv_at hl 6 rfl) ?_
              refine cx_iald (f := u_92.2 3) hx hb hK hC 4 rfl hw.1 dX6_runs_94 ?_
              have hw := hw.2
              refine lv_ixor hx hb dX6_runs_95 ?_
              refine cx_callSiE (As := [.int ((u_92.2 3 (Int32.toNatClampNeg (s_14.2 17 (Int32.toNatClampNeg x7_13)))) ^^^ (u_92.2 3 (Int32.toNatClampNeg x5_11)))]) (rest := []) ⟨hx, hb, hml, hown, hts⟩ (c_X6_bits l D cI _ ((u_92.2 3 (Int32.toNatClampNeg (s_14.2 17 (Int32.toNatClampNeg x7_13)))) ^^^ (u_92.2 3 (Int32.toNatClampNeg x5_11))) _ hw) (va_cwS 1 hts gX6_runs_X6_bits rfl rfl rfl (by decide +kernel) ⟨Nat.le_of_ble_eq_true rfl, Nat.le_of_ble_eq_true rfl⟩) hK hC hA rfl hl.1 rfl (Nat.le_of_ble_eq_true rfl) dX6_runs_96 ⟨Nat.zero_le _, Nat.zero_le _⟩ (fun r_100 H locs hw hC => ?_)
              refine lv_iconst (v := 2) hx hb dX6_runs_99 (by decide) ?_
              refine lv_icmp_gt (tgt := 107) hx hb dX6_runs_100 (by decide) (fun c_102 => ?_) (fun c_102 => ?_)
              · have hw := hw.1 c_102
                exact J107 x1_7 x2_9 x3_10 x4_8 x6_12 x7_13 (s_14.2 17 (Int32.toNatClampNeg x7_13)) u_92 _ (fun x2_103 x3_104 x5_105 x6_106 x7_107 u_108 H locs ls hw hC hl => by exact ih x2_103 x3_104 x5_105 x6_106 x7_107 u_108 _ _ _ hw hC (lv_sub hl [0, 1, 2, 3, 4, 5, 6, 7] rfl)) _ _ _ hw hC (lv_sub hl [1, 2, 3, 4, 5, 7, 8, 0] rfl)
              · have hw := hw.2 c_102
                refine lv_iconst (v := 1) hx hb dX6_runs_103 (by decide) ?_
                refine lv_goto (tgt := 108) hx hb dX6_runs_104 (by decide) ?_
                exact J108 x1_7 x2_9 x3_10 x4_8 x6_12 x7_13 (s_14.2 17 (Int32.toNatClampNeg x7_13)) 1 u_92 _ (fun x2_109 x3_110 x5_111 x6_112 x7_113 u_114 H locs ls hw hC hl => by exact ih x2_109 x3_110 x5_111 x6_112 x7_113 u_114 _ _ _ hw hC (lv_sub hl [0, 1, 2, 3, 4, 5, 6, 7] rfl)) _ _ _ hw hC (lv_sub hl [1, 2, 3, 4, 5, 7, 8, 0] rfl)
        · have hw := hw.2 c_16
          refine lv_goto (tgt := 160) hx hb dX6_runs_55 (by decide) ?_
          refine lv_iinc (v := (x7_13 + 1)) (lv' := [(7, .int (x7_13 + 1)), (8, .int (s_14.2 17 (Int32.toNatClampNeg x7_13))), (0, .ref (q 0)), (1, .int x1_7), (2, .int x2_9), (3, .int x3_10), (4, .int x4_8), (5, .int x5_11), (6, .int x6_12)]) hx hb dX6_runs_160 hl (k := 8) rfl rfl (by decide) rfl (fun ls hl => ?_)
          refine lv_goto (tgt := 25) hx hb dX6_runs_163 (by decide) ?_
          exact ih x2_9 x3_10 x5_11 x6_12 (x7_13 + 1) s_14 _ _ _ hw hC (lv_sub hl [2, 3, 4, 5, 6, 7, 8, 0] rfl)
  have L7 : ∀ (x1_1 : Int32) (K : Int32 → Int32 → Int32 → St → Prop) (hKK : ∀ (x2_2 : Int32) (x3_3 : Int32) (x4_4 : Int32) (s_5 : St) (H : Heap) (locs : List Loc) (ls : Array Slot), K x2_2 x3_3 x4_4 s_5 → Cx D A s.heap (wM cI q s_5) H locs → lv_has ls 10 [(0, .ref (q 0)), (1, .int x1_1), (2, .int x2_2), (3, .int x3_3), (4, .int x4_4)] → W p l e (Rm 1 22) s m [.ref (q 0), .int x1].toArray below meth c H locs 0 0 (QI below D cI A (wM cI q) post [.ref (q 0), .int x1].toArray s) (F0 m 172 ls [])) (n : Nat), ∀ (x2_2 : Int32) (x3_3 : Int32) (x4_4 : Int32) (s_5 : St) (H : Heap) (locs : List Loc) (ls : Array Slot), w_X6_runs_L7 x1_1 post K n x2_2 x3_3 x4_4 s_5 → Cx D A s.heap (wM cI q s_5) H locs → lv_has ls 10 [(0, .ref (q 0)), (1, .int x1_1), (2, .int x2_2), (3, .int x3_3), (4, .int x4_4)] → W p l e (Rm 1 22) s m [.ref (q 0), .int x1].toArray below meth c H locs 0 0 (QI below D cI A (wM cI q) post [.ref (q 0), .int x1].toArray s) (F0 m 7 ls []) := by
    intro x1_1 K hKK n
    induction n with
    | zero => intro x2_2 x3_3 x4_4 s_5 H locs ls hw; exact hw.elim
    | succ n ih =>
      intro x2_2 x3_3 x4_4 s_5 H locs ls hw hC hl
      refine lv_iload hx hb dX6_runs_7 (lv_at hl 4 rfl) ?_
      refine lv_aload_n hx hb dX6_runs_9 rfl (lv_at hl 0 rfl) ?_
      refine cx_get (v := .int (s_5.1 10)) hx hb hts iX6 hown hK hC 0 rfl rfl 26 (by decide) u1 rfl rfl dX6_runs_10 ?_
      refine lv_icmp_ge (tgt := 172) hx hb dX6_runs_13 (by decide) (fun c_6 => ?_) (fun c_6 => ?_)
      · have hw := hw.1 c_6
        exact hKK x2_2 x3_3 x4_4 s_5 _ _ _ hw hC (lv_sub hl [0, 1, 2, 3, 4] rfl)
      · have hw := hw.2 c_6
        refine lv_iconst (v := (-1)) hx hb dX6_runs_16 (by decide) ?_
        refine lv_istore (lv' := [(5, .int (-1)), (0, .ref (q 0)), (1, .int x1_1), (2, .int x2_2), (3, .int x3_3), (4, .int x4_4)]) hx hb dX6_runs_17 hl (by decide) rfl (fun ls hl => ?_)
        refine lv_iconst (v := 0) hx hb dX6_runs_19 (by decide) ?_
        refine lv_istore (lv' := [(6, .int 0), (5, .int (-1)), (0, .ref (q 0)), (1, .int x1_1), (2, .int x2_2), (3, .int x3_3), (4, .int x4_4)]) hx hb dX6_runs_20 hl (by decide) rfl (fun ls hl => ?_)
        refine lv_iconst (v := 0) hx hb dX6_runs_22 (by decide) ?_
        refine lv_istore (lv' := [(7, .int 0), (6, .int 0), (5, .int (-1)), (0, .ref (q 0)), (1, .int x1_1), (2, .int x2_2), (3, .int x3_3), (4, .int x4_4)]) hx hb dX6_runs_23 hl (by decide) rfl (fun ls hl => ?_)
        obtain ⟨n, hw⟩ := hw
        refine L25 x1_1 x4_4 _ (fun x2_115 x3_116 x5_117 x6_118 x7_119 s_120 H locs ls hw hC hl => ?_) n x2_2 x3_3 (-1) 0 0 s_5 _ _ _ hw hC (lv_sub hl [3, 4, 5, 6, 7, 2, 1, 0] rfl)
        refine lv_iinc (v := (x4_4 + 1)) (lv' := [(4, .int (x4_4 + 1)), (0, .ref (q 0)), (1, .int x1_1), (2, .int x2_115), (3, .int x3_116), (5, .int x5_117), (6, .int x6_118), (7, .int x7_119)]) hx hb dX6_runs_166 hl (k := 4) rfl rfl (by decide) rfl (fun ls hl => ?_)
        refine lv_goto (tgt := 7) hx hb dX6_runs_169 (by decide) ?_
        exact ih x2_115 x3_116 (x4_4 + 1) s_120 _ _ _ hw hC (lv_sub hl [1, 2, 3, 4, 0] rfl)
  refine lv_iconst (v := 0) hx hb dX6_runs_0 (by decide) ?_
  refine lv_istore_n (lv' := [(2, .int 0), (0, .ref (q 0)), (1, .int x1)]) hx hb dX6_runs_1 rfl hl (by decide) rfl (fun ls hl => ?_)
  refine lv_iconst (v := 0) hx hb dX6_runs_2 (by decide) ?_
  refine lv_istore_n (lv' := [(3, .int 0), (2, .int 0), (0, .ref (q 0)), (1, .int x1)]) hx hb dX6_runs_3 rfl hl (by decide) rfl (fun ls hl => ?_)
  refine lv_iconst (v := 0) hx hb dX6_runs_4 (by decide) ?_
  refine lv_istore (lv' := [(4, .int 0), (3, .int 0), (2, .int 0), (0, .ref (q 0)), (1, .int x1)]) hx hb dX6_runs_5 hl (by decide) rfl (fun ls hl => ?_)
  obtain ⟨n, hw⟩ := hw
  refine L7 x1 _ (fun x2_122 x3_123 x4_124 s_125 H locs ls hw hC hl => ?_) n 0 0 0 σ _ _ _ hw hC (lv_sub hl [3, 4, 2, 1, 0] rfl)
  refine lv_iload_n hx hb dX6_runs_172 rfl (lv_at hl 1 rfl) ?_
  refine lv_if_eq (tgt := 180) hx hb dX6_runs_173 (by decide) (fun c_126 => ?_) (fun c_126 => ?_)
  · have hw := hw.1 c_126
    refine lv_iload_n hx hb dX6_runs_180 rfl (lv_at hl 2 rfl) ?_
    exact cx_ret_i (u := s_125) hx hb hr hlocks hK hC hw dX6_runs_181
  · have hw := hw.2 c_126
    refine lv_iload_n hx hb dX6_runs_176 rfl (lv_at hl 3 rfl) ?_
    refine lv_goto (tgt := 181) hx hb dX6_runs_177 (by decide) ?_
    exact cx_ret_i (u := s_125) hx hb hr hlocks hK hC hw dX6_runs_181

/-! PictureHeapModel.bursts()I (X6_bursts) -/
set_option maxHeartbeats 1000000 in
set_option maxRecDepth 100000 in
theorem c_X6_bursts (l : Launch) (D : va_G) (cI : ClassId) (q : Nat → Nat) (sz : Nat) (σ : St) (post : Int32 → St → Prop) (hw : w_X6_bursts σ post) : Ci l yX6_bursts wsX6_bursts 2 51 D cI (wM cI q σ) sz [.ref (q 0)] (wM cI q) post := by
  refine mo_i (cc := cX6_bursts) (maxL := 1) (ret := (some .int)) (by decide) rfl (Nat.le_of_ble_eq_true rfl) ?_
  intro p e s m below meth c hx hb hr hml hts hown hlocks hK A hA hC ls hl
  have hown : s.vm.findClass RX6 = some m.cls := hown
  have hl : lv_has ls 1 [(0, .ref (q 0))] := hl
  have u1 : (Cond.fieldLink RX6 74 "PictureHeapModel" "thrown" "I").before [.ref (q 0)].toArray s = true := hts _ (List.mem_of_getElem? (i := 1) rfl)
  have u2 : (Cond.fieldLink RX6 65 "PictureHeapModel" "rows" "I").before [.ref (q 0)].toArray s = true := hts _ (List.mem_of_getElem? (i := 2) rfl)
  have iX6 : ∀ w ∈ wsX60, w ∈ wsX6_bursts := fun _ h => List.mem_cons_of_mem _ (List.mem_append_right _ h)
  refine lv_aload_n hx hb dX6_bursts_0 rfl (lv_at hl 0 rfl) ?_
  refine lv_iconst (v := 0) hx hb dX6_bursts_1 (by decide) ?_
  refine cx_put (v := .int 0) hx hb hts iX6 tyX6 tyX6_ok nmX6 hown hK hC 0 rfl rfl 0 (by decide) u1 rfl rfl (tyX6_ok 0 (by decide)) rfl rfl (Nat.le_of_ble_eq_true rfl) dX6_bursts_2 (ws' := (wM cI q ((va_up σ.1 0 0), σ.2))) (wM_i0 cI q _ _) (fun H locs hC => ?_)
  refine lv_aload_n hx hb dX6_bursts_5 rfl (lv_at hl 0 rfl) ?_
  refine cx_get (v := .int (σ.1 9)) hx hb hts iX6 hown hK hC 0 rfl rfl 25 (by decide) u2 rfl rfl dX6_bursts_6 ?_
  refine lv_iconst (v := (-1)) hx hb dX6_bursts_9 (by decide) ?_
  refine lv_icmp_ne (tgt := 17) hx hb dX6_bursts_10 (by decide) (fun c_1 => ?_) (fun c_1 => ?_)
  · have hw := hw.1 c_1
    refine lv_aload_n hx hb dX6_bursts_17 rfl (lv_at hl 0 rfl) ?_
    refine lv_iconst (v := 0) hx hb dX6_bursts_18 (by decide) ?_
    refine cx_callVi0 (As := [.int 0]) (rest := []) ⟨hx, hb, hml, hown, hts⟩ (c_X6_runs l D cI q _ ((va_up σ.1 0 0), σ.2) 0 _ hw) (cwV 1 hts gX6_bursts_X6_runs rfl rfl rfl (by decide +kernel) ⟨Nat.le_of_ble_eq_true rfl, Nat.le_of_ble_eq_true rfl⟩) hK hC hA 0 rfl rfl rfl rfl hl.1 rfl (Nat.le_of_ble_eq_true rfl) dX6_bursts_19 ⟨Nat.zero_le _, Nat.zero_le _⟩ (fun r_2 u_3 H locs hw hC => ?_)
    exact cx_ret_i (u := u_3) hx hb hr hlocks hK hC hw dX6_bursts_22
  · have hw := hw.2 c_1
    refine lv_iconst (v := (-1)) hx hb dX6_bursts_13 (by decide) ?_
    refine lv_goto (tgt := 22) hx hb dX6_bursts_14 (by decide) ?_
    exact cx_ret_i (u := ((va_up σ.1 0 0), σ.2)) hx hb hr hlocks hK hC hw dX6_bursts_22

/-! PictureHeapModel.longest()I (X6_longest) -/
set_option maxHeartbeats 1000000 in
set_option maxRecDepth 100000 in
theorem c_X6_longest (l : Launch) (D : va_G) (cI : ClassId) (q : Nat → Nat) (sz : Nat) (σ : St) (post : Int32 → St → Prop) (hw : w_X6_longest σ post) : Ci l yX6_longest wsX6_longest 2 51 D cI (wM cI q σ) sz [.ref (q 0)] (wM cI q) post := by
  refine mo_i (cc := cX6_longest) (maxL := 1) (ret := (some .int)) (by decide) rfl (Nat.le_of_ble_eq_true rfl) ?_
  intro p e s m below meth c hx hb hr hml hts hown hlocks hK A hA hC ls hl
  have hown : s.vm.findClass RX6 = some m.cls := hown
  have hl : lv_has ls 1 [(0, .ref (q 0))] := hl
  have u1 : (Cond.fieldLink RX6 74 "PictureHeapModel" "thrown" "I").before [.ref (q 0)].toArray s = true := hts _ (List.mem_of_getElem? (i := 1) rfl)
  have u2 : (Cond.fieldLink RX6 65 "PictureHeapModel" "rows" "I").before [.ref (q 0)].toArray s = true := hts _ (List.mem_of_getElem? (i := 2) rfl)
  have iX6 : ∀ w ∈ wsX60, w ∈ wsX6_longest := fun _ h => List.mem_cons_of_mem _ (List.mem_append_right _ h)
  refine lv_aload_n hx hb dX6_longest_0 rfl (lv_at hl 0 rfl) ?_
  refine lv_iconst (v := 0) hx hb dX6_longest_1 (by decide) ?_
  refine cx_put (v := .int 0) hx hb hts iX6 tyX6 tyX6_ok nmX6 hown hK hC 0 rfl rfl 0 (by decide) u1 rfl rfl (tyX6_ok 0 (by decide)) rfl rfl (Nat.le_of_ble_eq_true rfl) dX6_longest_2 (ws' := (wM cI q ((va_up σ.1 0 0), σ.2))) (wM_i0 cI q _ _) (fun H locs hC => ?_)
  refine lv_aload_n hx hb dX6_longest_5 rfl (lv_at hl 0 rfl) ?_
  refine cx_get (v := .int (σ.1 9)) hx hb hts iX6 hown hK hC 0 rfl rfl 25 (by decide) u2 rfl rfl dX6_longest_6 ?_
  refine lv_iconst (v := (-1)) hx hb dX6_longest_9 (by decide) ?_
  refine lv_icmp_ne (tgt := 17) hx hb dX6_longest_10 (by decide) (fun c_1 => ?_) (fun c_1 => ?_)
  · have hw := hw.1 c_1
    refine lv_aload_n hx hb dX6_longest_17 rfl (lv_at hl 0 rfl) ?_
    refine lv_iconst (v := 1) hx hb dX6_longest_18 (by decide) ?_
    refine cx_callVi0 (As := [.int 1]) (rest := []) ⟨hx, hb, hml, hown, hts⟩ (c_X6_runs l D cI q _ ((va_up σ.1 0 0), σ.2) 1 _ hw) (cwV 1 hts gX6_longest_X6_runs rfl rfl rfl (by decide +kernel) ⟨Nat.le_of_ble_eq_true rfl, Nat.le_of_ble_eq_true rfl⟩) hK hC hA 0 rfl rfl rfl rfl hl.1 rfl (Nat.le_of_ble_eq_true rfl) dX6_longest_19 ⟨Nat.zero_le _, Nat.zero_le _⟩ (fun r_2 u_3 H locs hw hC => ?_)
    exact cx_ret_i (u := u_3) hx hb hr hlocks hK hC hw dX6_longest_22
  · have hw := hw.2 c_1
    refine lv_iconst (v := (-1)) hx hb dX6_longest_13 (by decide) ?_
    refine lv_goto (tgt := 22) hx hb dX6_longest_14 (by decide) ?_
    exact cx_ret_i (u := ((va_up σ.1 0 0), σ.2)) hx hb hr hlocks hK hC hw dX6_longest_22

/-! PictureHeapModel.doubles()I (X6_doubles) -/
set_option maxHeartbeats 1000000 in
set_option maxRecDepth 100000 in
theorem c_X6_doubles (l : Launch) (D : va_G) (cI : ClassId) (q : Nat → Nat) (sz : Nat) (σ : St) (post : Int32 → St → Prop) (hw : w_X6_doubles σ post) : Ci l yX6_doubles wsX6_doubles 1 21 D cI (wM cI q σ) sz [.ref (q 0)] (wM cI q) post := by
  refine mo_i (cc := cX6_doubles) (maxL := 4) (ret := (some .int)) (by decide) rfl (Nat.le_of_ble_eq_true rfl) ?_
  intro p e s m below meth c hx hb hr hml hts hown hlocks hK A hA hC ls hl
  have hown : s.vm.findClass RX6 = some m.cls := hown
  have hl : lv_has ls 4 [(0, .ref (q 0))] := hl
  have u1 : (Cond.fieldLink RX6 74 "PictureHeapModel" "thrown" "I").before [.ref (q 0)].toArray s = true := hts _ (List.mem_of_getElem? (i := 1) rfl)
  have u2 : (Cond.fieldLink RX6 65 "PictureHeapModel" "rows" "I").before [.ref (q 0)].toArray s = true := hts _ (List.mem_of_getElem? (i := 2) rfl)
  have u3 : (Cond.fieldLink RX6 20 "PictureHeapModel" "camera" "[I").before [.ref (q 0)].toArray s = true := hts _ (List.mem_of_getElem? (i := 3) rfl)
  have u4 : (Cond.fieldLink RX6 26 "PictureHeapModel" "marks" "[I").before [.ref (q 0)].toArray s = true := hts _ (List.mem_of_getElem? (i := 4) rfl)
  have u5 : (Cond.methodLink RX6 202 Lib.Math.abs.name).before [.ref (q 0)].toArray s = true := hts _ (List.mem_of_getElem? (i := 5) rfl)
  have u6 : (Cond.static Lib.Math.abs.name).before [.ref (q 0)].toArray s = true := hts _ (List.mem_of_getElem? (i := 6) rfl)
  have u7 : (Cond.initialized "java/lang/Math").before [.ref (q 0)].toArray s = true := hts _ (List.mem_of_getElem? (i := 7) rfl)
  have u8 : (Cond.code Lib.Math.abs.name Lib.Math.abs.code 1 (some .int)).before [.ref (q 0)].toArray s = true := hts _ (List.mem_of_getElem? (i := 8) rfl)
  have iX6 : ∀ w ∈ wsX60, w ∈ wsX6_doubles := fun _ h => List.mem_cons_of_mem _ (List.mem_append_right _ h)
  have L29 : ∀ (x2_6 : Int32) (K : Int32 → Int32 → St → Prop) (hKK : ∀ (x1_7 : Int32) (x3_8 : Int32) (s_9 : St) (H : Heap) (locs : List Loc) (ls : Array Slot), K x1_7 x3_8 s_9 → Cx D A s.heap (wM cI q s_9) H locs → lv_has ls 4 [(0, .ref (q 0)), (1, .int x1_7), (2, .int x2_6), (3, .int x3_8)] → W p l e (Rm 1 21) s m [.ref (q 0)].toArray below meth c H locs 0 0 (QI below D cI A (wM cI q) post [.ref (q 0)].toArray s) (F0 m 105 ls [])) (n : Nat), ∀ (x1_7 : Int32) (x3_8 : Int32) (s_9 : St) (H : Heap) (locs : List Loc) (ls : Array Slot), w_X6_doubles_L29 x2_6 post K n x1_7 x3_8 s_9 → Cx D A s.heap (wM cI q s_9) H locs → lv_has ls 4 [(0, .ref (q 0)), (1, .int x1_7), (2, .int x2_6), (3, .int x3_8)] → W p l e (Rm 1 21) s m [.ref (q 0)].toArray below meth c H locs 0 0 (QI below D cI A (wM cI q) post [.ref (q 0)].toArray s) (F0 m 29 ls []) := by
    intro x2_6 K hKK n
    induction n with
    | zero => intro x1_7 x3_8 s_9 H locs ls hw; exact hw.elim
    | succ n ih =>
      intro x1_7 x3_8 s_9 H locs ls hw hC hl
      refine lv_iload_n hx hb dX6_doubles_29 rfl (lv_at hl 3 rfl) ?_
      refine lv_iload_n hx hb dX6_doubles_30 rfl (lv_at hl 2 rfl) ?_
      refine lv_icmp_ge (tgt := 105) hx hb dX6_doubles_31 (by decide) (fun c_10 => ?_) (fun c_10 => ?_)
      · have hw := hw.1 c_10
        exact hKK x1_7 x3_8 s_9 _ _ _ hw hC (lv_sub hl [0, 1, 2, 3] rfl)
      · have hw := hw.2 c_10
        refine lv_iload_n hx hb dX6_doubles_34 rfl (lv_at hl 1 rfl) ?_
        refine lv_aload_n hx hb dX6_doubles_35 rfl (lv_at hl 0 rfl) ?_
        refine cx_get (v := .ref (q 2)) hx hb hts iX6 hown hK hC 0 rfl rfl 10 (by decide) u3 rfl rfl dX6_doubles_36 ?_
        refine lv_iload_n hx hb dX6_doubles_39 rfl (lv_at hl 2 rfl) ?_
        refine cx_iald (f := s_9.2 1) hx hb hK hC 2 rfl hw.1 dX6_doubles_40 ?_
        have hw := hw.2
        refine lv_aload_n hx hb dX6_doubles_41 rfl (lv_at hl 0 rfl) ?_
        refine cx_get (v := .ref (q 2)) hx hb hts iX6 hown hK hC 0 rfl rfl 10 (by decide) u3 rfl rfl dX6_doubles_42 ?_
        refine lv_iload_n hx hb dX6_doubles_45 rfl (lv_at hl 3 rfl) ?_
        refine cx_iald (f := s_9.2 1) hx hb hK hC 2 rfl hw.1 dX6_doubles_46 ?_
        have hw := hw.2
        refine lv_icmp_eq (tgt := 96) hx hb dX6_doubles_47 (by decide) (fun c_11 => ?_) (fun c_11 => ?_)
        · have hw := hw.1 c_11
          refine lv_iconst (v := 0) hx hb dX6_doubles_96 (by decide) ?_
          refine lv_iadd hx hb dX6_doubles_97 ?_
          refine lv_istore_n (lv' := [(1, .int (x1_7 + 0)), (0, .ref (q 0)), (2, .int x2_6), (3, .int x3_8)]) hx hb dX6_doubles_98 rfl hl (by decide) rfl (fun ls hl => ?_)
          refine lv_iinc (v := (x3_8 + 1)) (lv' := [(3, .int (x3_8 + 1)), (1, .int (x1_7 + 0)), (0, .ref (q 0)), (2, .int x2_6)]) hx hb dX6_doubles_99 hl (k := 3) rfl rfl (by decide) rfl (fun ls hl => ?_)
          refine lv_goto (tgt := 29) hx hb dX6_doubles_102 (by decide) ?_
          exact ih (x1_7 + 0) (x3_8 + 1) s_9 _ _ _ hw hC (lv_sub hl [2, 1, 3, 0] rfl)
        · have hw := hw.2 c_11
          refine lv_aload_n hx hb dX6_doubles_50 rfl (lv_at hl 0 rfl) ?_
          refine cx_get (v := .ref (q 4)) hx hb hts iX6 hown hK hC 0 rfl rfl 12 (by decide) u4 rfl rfl dX6_doubles_51 ?_
          refine lv_iload_n hx hb dX6_doubles_54 rfl (lv_at hl 2 rfl) ?_
          refine cx_iald (f := s_9.2 3) hx hb hK hC 4 rfl hw.1 dX6_doubles_55 ?_
          have hw := hw.2
          refine lv_if_eq (tgt := 96) hx hb dX6_doubles_56 (by decide) (fun c_12 => ?_) (fun c_12 => ?_)
          · have hw := hw.1 c_12
            refine lv_iconst (v := 0) hx hb dX6_doubles_96 (by decide) ?_
            refine lv_iadd hx hb dX6_doubles_97 ?_
            refine lv_istore_n (lv' := [(1, .int (x1_7 + 0)), (0, .ref (q 0)), (2, .int x2_6), (3, .int x3_8)]) hx hb dX6_doubles_98 rfl hl (by decide) rfl (fun ls hl => ?_)
            refine lv_iinc (v := (x3_8 + 1)) (lv' := [(3, .int (x3_8 + 1)), (1, .int (x1_7 + 0)), (0, .ref (q 0)), (2, .int x2_6)]) hx hb dX6_doubles_99 hl (k := 3) rfl rfl (by decide) rfl (fun ls hl => ?_)
            refine lv_goto (tgt := 29) hx hb dX6_doubles_102 (by decide) ?_
            exact ih (x1_7 + 0) (x3_8 + 1) s_9 _ _ _ hw hC (lv_sub hl [2, 1, 3, 0] rfl)
          · have hw := hw.2 c_12
            refine lv_aload_n hx hb dX6_doubles_59 rfl (lv_at hl 0 rfl) ?_
            refine cx_get (v := .ref (q 4)) hx hb hts iX6 hown hK hC 0 rfl rfl 12 (by decide) u4 rfl rfl dX6_doubles_60 ?_
            refine lv_iload_n hx hb dX6_doubles_63 rfl (lv_at hl 2 rfl) ?_
            refine cx_iald (f := s_9.2 3) hx hb hK hC 4 rfl hw.1 dX6_doubles_64 ?_
            have hw := hw.2
            refine lv_aload_n hx hb dX6_doubles_65 rfl (lv_at hl 0 rfl) ?_
            refine cx_get (v := .ref (q 4)) hx hb hts iX6 hown hK hC 0 rfl rfl 12 (by decide) u4 rfl rfl dX6_doubles_66 ?_
            refine lv_iload_n hx hb dX6_doubles_69 rfl (lv_at hl 3 rfl) ?_
            refine cx_iald (f := s_9.2 3) hx hb hK hC 4 rfl hw.1 dX6_doubles_70 ?_
            have hw := hw.2
            refine lv_icmp_ne (tgt := 96) hx hb dX6_doubles_71 (by decide) (fun c_13 => ?_) (fun c_13 => ?_)
            · have hw := hw.1 c_13
              refine lv_iconst (v := 0) hx hb dX6_doubles_96 (by decide) ?_
              refine lv_iadd hx hb dX6_doubles_97 ?_
              refine lv_istore_n (lv' := [(1, .int (x1_7 + 0)), (0, .ref (q 0)), (2, .int x2_6), (3, .int x3_8)]) hx hb dX6_doubles_98 rfl hl (by decide) rfl (fun ls hl => ?_)
              refine lv_iinc (v := (x3_8 + 1)) (lv' := [(3, .int (x3_8 + 1)), (1, .int (x1_7 + 0)), (0, .ref (q 0)), (2, .int x2_6)]) hx hb dX6_doubles_99 hl (k := 3) rfl rfl (by decide) rfl (fun ls hl => ?_)
              refine lv_goto (tgt := 29) hx hb dX6_doubles_102 (by decide) ?_
              exact ih (x1_7 + 0) (x3_8 + 1) s_9 _ _ _ hw hC (lv_sub hl [2, 1, 3, 0] rfl)
            · have hw := hw.2 c_13
              refine lv_aload_n hx hb dX6_doubles_74 rfl (lv_at hl 0 rfl) ?_
              refine lv_iload_n hx hb dX6_doubles_75 rfl (lv_at hl 2 rfl) ?_
              refine cx_callVi0 (As := [.int x2_6]) (rest := [.int x1_7]) ⟨hx, hb, hml, hown, hts⟩ (c_X6_timeOf l D cI q _ s_9 x2_6 _ hw) (cwV 1 hts gX6_doubles_X6_timeOf rfl rfl rfl (by decide +kernel) ⟨Nat.le_of_ble_eq_true rfl, Nat.le_of_ble_eq_true rfl⟩) hK hC hA 0 rfl rfl rfl rfl hl.1 rfl (Nat.le_of_ble_eq_true rfl) dX6_doubles_76 ⟨Nat.zero_le _, Nat.zero_le _⟩ (fun r_14 u_15 H locs hw hC => ?_)
              refine lv_aload_n hx hb dX6_doubles_79 rfl (lv_at hl 0 rfl) ?_
              refine lv_iload_n hx hb dX6_doubles_80 rfl (lv_at hl 3 rfl) ?_
              refine cx_callVi0 (As := [.int x3_8]) (rest := [.int r_14, .int x1_7]) ⟨hx, hb, hml, hown, hts⟩ (c_X6_timeOf l D cI q _ u_15 x3_8 _ hw) (cwV 1 hts gX6_doubles_X6_timeOf rfl rfl rfl (by decide +kernel) ⟨Nat.le_of_ble_eq_true rfl, Nat.le_of_ble_eq_true rfl⟩) hK hC hA 0 rfl rfl rfl rfl hl.1 rfl (Nat.le_of_ble_eq_true rfl) dX6_doubles_81 ⟨Nat.zero_le _, Nat.zero_le _⟩ (fun r_16 u_17 H locs hw hC => ?_)
              refine lv_isub hx hb dX6_doubles_84 ?_
              refine va_mabs hx hb (hml.trans hl.1.symm) hown u5 u6 u7 u8 (Nat.le_of_ble_eq_true rfl) (Nat.le_of_ble_eq_true rfl) (Nat.le_refl 0) (Nat.le_refl 0) dX6_doubles_85 ?_
              refine lv_iconst (v := 5) hx hb dX6_doubles_88 (by decide) ?_
              refine lv_icmp_gt (tgt := 96) hx hb dX6_doubles_89 (by decide) (fun c_18 => ?_) (fun c_18 => ?_)
              · have hw := hw.1 c_18
                refine lv_iconst (v := 0) hx hb dX6_doubles_96 (by decide) ?_
                refine lv_iadd hx hb dX6_doubles_97 ?_
                refine lv_istore_n (lv' := [(1, .int (x1_7 + 0)), (0, .ref (q 0)), (2, .int x2_6), (3, .int x3_8)]) hx hb dX6_doubles_98 rfl hl (by decide) rfl (fun ls hl => ?_)
                refine lv_iinc (v := (x3_8 + 1)) (lv' := [(3, .int (x3_8 + 1)), (1, .int (x1_7 + 0)), (0, .ref (q 0)), (2, .int x2_6)]) hx hb dX6_doubles_99 hl (k := 3) rfl rfl (by decide) rfl (fun ls hl => ?_)
                refine lv_goto (tgt := 29) hx hb dX6_doubles_102 (by decide) ?_
                exact ih (x1_7 + 0) (x3_8 + 1) u_17 _ _ _ hw hC (lv_sub hl [2, 1, 3, 0] rfl)
              · have hw := hw.2 c_18
                refine lv_iconst (v := 1) hx hb dX6_doubles_92 (by decide) ?_
                refine lv_goto (tgt := 97) hx hb dX6_doubles_93 (by decide) ?_
                refine lv_iadd hx hb dX6_doubles_97 ?_
                refine lv_istore_n (lv' := [(1, .int (x1_7 + 1)), (0, .ref (q 0)), (2, .int x2_6), (3, .int x3_8)]) hx hb dX6_doubles_98 rfl hl (by decide) rfl (fun ls hl => ?_)
                refine lv_iinc (v := (x3_8 + 1)) (lv' := [(3, .int (x3_8 + 1)), (1, .int (x1_7 + 1)), (0, .ref (q 0)), (2, .int x2_6)]) hx hb dX6_doubles_99 hl (k := 3) rfl rfl (by decide) rfl (fun ls hl => ?_)
                refine lv_goto (tgt := 29) hx hb dX6_doubles_102 (by decide) ?_
                exact ih (x1_7 + 1) (x3_8 + 1) u_17 _ _ _ hw hC (lv_sub hl [2, 1, 3, 0] rfl)
  have L19 : ∀ (K : Int32 → Int32 → St → Prop) (hKK : ∀ (x1_2 : Int32) (x2_3 : Int32) (s_4 : St) (H : Heap) (locs : List Loc) (ls : Array Slot), K x1_2 x2_3 s_4 → Cx D A s.heap (wM cI q s_4) H locs → lv_has ls 4 [(0, .ref (q 0)), (1, .int x1_2), (2, .int x2_3)] → W p l e (Rm 1 21) s m [.ref (q 0)].toArray below meth c H locs 0 0 (QI below D cI A (wM cI q) post [.ref (q 0)].toArray s) (F0 m 111 ls [])) (n : Nat), ∀ (x1_2 : Int32) (x2_3 : Int32) (s_4 : St) (H : Heap) (locs : List Loc) (ls : Array Slot), w_X6_doubles_L19 post K n x1_2 x2_3 s_4 → Cx D A s.heap (wM cI q s_4) H locs → lv_has ls 4 [(0, .ref (q 0)), (1, .int x1_2), (2, .int x2_3)] → W p l e (Rm 1 21) s m [.ref (q 0)].toArray below meth c H locs 0 0 (QI below D cI A (wM cI q) post [.ref (q 0)].toArray s) (F0 m 19 ls []) := by
    intro  K hKK n
    induction n with
    | zero => intro x1_2 x2_3 s_4 H locs ls hw; exact hw.elim
    | succ n ih =>
      intro x1_2 x2_3 s_4 H locs ls hw hC hl
      refine lv_iload_n hx hb dX6_doubles_19 rfl (lv_at hl 2 rfl) ?_
      refine lv_aload_n hx hb dX6_doubles_20 rfl (lv_at hl 0 rfl) ?_
      refine cx_get (v := .int (s_4.1 9)) hx hb hts iX6 hown hK hC 0 rfl rfl 25 (by decide) u2 rfl rfl dX6_doubles_21 ?_
      refine lv_icmp_ge (tgt := 111) hx hb dX6_doubles_24 (by decide) (fun c_5 => ?_) (fun c_5 => ?_)
      · have hw := hw.1 c_5
        exact hKK x1_2 x2_3 s_4 _ _ _ hw hC (lv_sub hl [0, 1, 2] rfl)
      · have hw := hw.2 c_5
        refine lv_iconst (v := 0) hx hb dX6_doubles_27 (by decide) ?_
        refine lv_istore_n (lv' := [(3, .int 0), (0, .ref (q 0)), (1, .int x1_2), (2, .int x2_3)]) hx hb dX6_doubles_28 rfl hl (by decide) rfl (fun ls hl => ?_)
        obtain ⟨n, hw⟩ := hw
        refine L29 x2_3 _ (fun x1_19 x3_20 s_21 H locs ls hw hC hl => ?_) n x1_2 0 s_4 _ _ _ hw hC (lv_sub hl [1, 2, 3, 0] rfl)
        refine lv_iinc (v := (x2_3 + 1)) (lv' := [(2, .int (x2_3 + 1)), (0, .ref (q 0)), (1, .int x1_19), (3, .int x3_20)]) hx hb dX6_doubles_105 hl (k := 2) rfl rfl (by decide) rfl (fun ls hl => ?_)
        refine lv_goto (tgt := 19) hx hb dX6_doubles_108 (by decide) ?_
        exact ih x1_19 (x2_3 + 1) s_21 _ _ _ hw hC (lv_sub hl [1, 2, 0] rfl)
  refine lv_aload_n hx hb dX6_doubles_0 rfl (lv_at hl 0 rfl) ?_
  refine lv_iconst (v := 0) hx hb dX6_doubles_1 (by decide) ?_
  refine cx_put (v := .int 0) hx hb hts iX6 tyX6 tyX6_ok nmX6 hown hK hC 0 rfl rfl 0 (by decide) u1 rfl rfl (tyX6_ok 0 (by decide)) rfl rfl (Nat.le_of_ble_eq_true rfl) dX6_doubles_2 (ws' := (wM cI q ((va_up σ.1 0 0), σ.2))) (wM_i0 cI q _ _) (fun H locs hC => ?_)
  refine lv_aload_n hx hb dX6_doubles_5 rfl (lv_at hl 0 rfl) ?_
  refine cx_get (v := .int (σ.1 9)) hx hb hts iX6 hown hK hC 0 rfl rfl 25 (by decide) u2 rfl rfl dX6_doubles_6 ?_
  refine lv_iconst (v := (-1)) hx hb dX6_doubles_9 (by decide) ?_
  refine lv_icmp_ne (tgt := 15) hx hb dX6_doubles_10 (by decide) (fun c_1 => ?_) (fun c_1 => ?_)
  · have hw := hw.1 c_1
    refine lv_iconst (v := 0) hx hb dX6_doubles_15 (by decide) ?_
    refine lv_istore_n (lv' := [(1, .int 0), (0, .ref (q 0))]) hx hb dX6_doubles_16 rfl hl (by decide) rfl (fun ls hl => ?_)
    refine lv_iconst (v := 0) hx hb dX6_doubles_17 (by decide) ?_
    refine lv_istore_n (lv' := [(2, .int 0), (1, .int 0), (0, .ref (q 0))]) hx hb dX6_doubles_18 rfl hl (by decide) rfl (fun ls hl => ?_)
    obtain ⟨n, hw⟩ := hw
    refine L19  _ (fun x1_23 x2_24 s_25 H locs ls hw hC hl => ?_) n 0 0 ((va_up σ.1 0 0), σ.2) _ _ _ hw hC (lv_sub hl [2, 1, 0] rfl)
    refine lv_iload_n hx hb dX6_doubles_111 rfl (lv_at hl 1 rfl) ?_
    exact cx_ret_i (u := s_25) hx hb hr hlocks hK hC hw dX6_doubles_112
  · have hw := hw.2 c_1
    refine lv_iconst (v := (-1)) hx hb dX6_doubles_13 (by decide) ?_
    exact cx_ret_i (u := ((va_up σ.1 0 0), σ.2)) hx hb hr hlocks hK hC hw dX6_doubles_14

/-! PictureHeapModel.canOf(I)I (X6_canOf) -/
set_option maxHeartbeats 1000000 in
set_option maxRecDepth 100000 in
theorem c_X6_canOf (l : Launch) (D : va_G) (cI : ClassId) (q : Nat → Nat) (sz : Nat) (σ : St) (x1 : Int32) (post : Int32 → St → Prop) (hw : w_X6_canOf σ x1 post) : Ci l yX6_canOf wsX6_canOf 1 21 D cI (wM cI q σ) sz [.ref (q 0), .int x1] (wM cI q) post := by
  refine mo_i (cc := cX6_canOf) (maxL := 6) (ret := (some .int)) (by decide) rfl (Nat.le_of_ble_eq_true rfl) ?_
  intro p e s m below meth c hx hb hr hml hts hown hlocks hK A hA hC ls hl
  have hown : s.vm.findClass RX6 = some m.cls := hown
  have hl : lv_has ls 6 [(0, .ref (q 0)), (1, .int x1)] := hl
  have u1 : (Cond.fieldLink RX6 29 "PictureHeapModel" "place" "[I").before [.ref (q 0), .int x1].toArray s = true := hts _ (List.mem_of_getElem? (i := 1) rfl)
  have u2 : (Cond.fieldLink RX6 90 "PictureHeapModel" "places" "I").before [.ref (q 0), .int x1].toArray s = true := hts _ (List.mem_of_getElem? (i := 2) rfl)
  have u3 : (Cond.fieldLink RX6 93 "PictureHeapModel" "pictures" "I").before [.ref (q 0), .int x1].toArray s = true := hts _ (List.mem_of_getElem? (i := 3) rfl)
  have u4 : (Cond.fieldLink RX6 20 "PictureHeapModel" "camera" "[I").before [.ref (q 0), .int x1].toArray s = true := hts _ (List.mem_of_getElem? (i := 4) rfl)
  have u5 : (Cond.fieldLink RX6 23 "PictureHeapModel" "clock" "[I").before [.ref (q 0), .int x1].toArray s = true := hts _ (List.mem_of_getElem? (i := 5) rfl)
  have u6 : (Cond.methodLink RX6 202 Lib.Math.abs.name).before [.ref (q 0), .int x1].toArray s = true := hts _ (List.mem_of_getElem? (i := 6) rfl)
  have u7 : (Cond.static Lib.Math.abs.name).before [.ref (q 0), .int x1].toArray s = true := hts _ (List.mem_of_getElem? (i := 7) rfl)
  have u8 : (Cond.initialized "java/lang/Math").before [.ref (q 0), .int x1].toArray s = true := hts _ (List.mem_of_getElem? (i := 8) rfl)
  have u9 : (Cond.code Lib.Math.abs.name Lib.Math.abs.code 1 (some .int)).before [.ref (q 0), .int x1].toArray s = true := hts _ (List.mem_of_getElem? (i := 9) rfl)
  have u10 : (Cond.fieldLink RX6 16 "PictureHeapModel" "way" "[I").before [.ref (q 0), .int x1].toArray s = true := hts _ (List.mem_of_getElem? (i := 10) rfl)
  have iX6 : ∀ w ∈ wsX60, w ∈ wsX6_canOf := fun _ h => List.mem_cons_of_mem _ (List.mem_append_right _ h)
  have L37 : ∀ (x1_7 : Int32) (x2_8 : Int32) (x3_9 : Int32) (K : Int32 → Int32 → St → Prop) (hKK : ∀ (x4_10 : Int32) (x5_11 : Int32) (s_12 : St) (H : Heap) (locs : List Loc) (ls : Array Slot), K x4_10 x5_11 s_12 → Cx D A s.heap (wM cI q s_12) H locs → lv_has ls 6 [(0, .ref (q 0)), (1, .int x1_7), (2, .int x2_8), (3, .int x3_9), (4, .int x4_10), (5, .int x5_11)] → W p l e (Rm 1 21) s m [.ref (q 0), .int x1].toArray below meth c H locs 0 0 (QI below D cI A (wM cI q) post [.ref (q 0), .int x1].toArray s) (F0 m 128 ls [])) (n : Nat), ∀ (x4_10 : Int32) (x5_11 : Int32) (s_12 : St) (H : Heap) (locs : List Loc) (ls : Array Slot), w_X6_canOf_L37 x1_7 x2_8 x3_9 post K n x4_10 x5_11 s_12 → Cx D A s.heap (wM cI q s_12) H locs → lv_has ls 6 [(0, .ref (q 0)), (1, .int x1_7), (2, .int x2_8), (3, .int x3_9), (4, .int x4_10), (5, .int x5_11)] → W p l e (Rm 1 21) s m [.ref (q 0), .int x1].toArray below meth c H locs 0 0 (QI below D cI A (wM cI q) post [.ref (q 0), .int x1].toArray s) (F0 m 37 ls []) := by
    intro x1_7 x2_8 x3_9 K hKK n
    induction n with
    | zero => intro x4_10 x5_11 s_12 H locs ls hw; exact hw.elim
    | succ n ih =>
      intro x4_10 x5_11 s_12 H locs ls hw hC hl
      refine lv_iload hx hb dX6_canOf_37 (lv_at hl 5 rfl) ?_
      refine lv_aload_n hx hb dX6_canOf_39 rfl (lv_at hl 0 rfl) ?_
      refine cx_get (v := .int (s_12.1 4)) hx hb hts iX6 hown hK hC 0 rfl rfl 4 (by decide) u3 rfl rfl dX6_canOf_40 ?_
      refine lv_icmp_ge (tgt := 128) hx hb dX6_canOf_43 (by decide) (fun c_13 => ?_) (fun c_13 => ?_)
      · have hw := hw.1 c_13
        exact hKK x4_10 x5_11 s_12 _ _ _ hw hC (lv_sub hl [0, 1, 2, 3, 4, 5] rfl)
      · have hw := hw.2 c_13
        refine lv_iload hx hb dX6_canOf_46 (lv_at hl 4 rfl) ?_
        refine lv_if_eq (tgt := 119) hx hb dX6_canOf_48 (by decide) (fun c_14 => ?_) (fun c_14 => ?_)
        · have hw := hw.1 c_14
          refine lv_iconst (v := 0) hx hb dX6_canOf_119 (by decide) ?_
          refine lv_istore (lv' := [(4, .int 0), (0, .ref (q 0)), (1, .int x1_7), (2, .int x2_8), (3, .int x3_9), (5, .int x5_11)]) hx hb dX6_canOf_120 hl (by decide) rfl (fun ls hl => ?_)
          refine lv_iinc (v := (x5_11 + 1)) (lv' := [(5, .int (x5_11 + 1)), (4, .int 0), (0, .ref (q 0)), (1, .int x1_7), (2, .int x2_8), (3, .int x3_9)]) hx hb dX6_canOf_122 hl (k := 5) rfl rfl (by decide) rfl (fun ls hl => ?_)
          refine lv_goto (tgt := 37) hx hb dX6_canOf_125 (by decide) ?_
          exact ih 0 (x5_11 + 1) s_12 _ _ _ hw hC (lv_sub hl [2, 3, 4, 5, 1, 0] rfl)
        · have hw := hw.2 c_14
          refine lv_aload_n hx hb dX6_canOf_51 rfl (lv_at hl 0 rfl) ?_
          refine cx_get (v := .ref (q 2)) hx hb hts iX6 hown hK hC 0 rfl rfl 10 (by decide) u4 rfl rfl dX6_canOf_52 ?_
          refine lv_iload hx hb dX6_canOf_55 (lv_at hl 5 rfl) ?_
          refine cx_iald (f := s_12.2 1) hx hb hK hC 2 rfl hw.1 dX6_canOf_57 ?_
          have hw := hw.2
          refine lv_aload_n hx hb dX6_canOf_58 rfl (lv_at hl 0 rfl) ?_
          refine cx_get (v := .ref (q 2)) hx hb hts iX6 hown hK hC 0 rfl rfl 10 (by decide) u4 rfl rfl dX6_canOf_59 ?_
          refine lv_iload_n hx hb dX6_canOf_62 rfl (lv_at hl 1 rfl) ?_
          refine cx_iald (f := s_12.2 1) hx hb hK hC 2 rfl hw.1 dX6_canOf_63 ?_
          have hw := hw.2
          refine lv_icmp_ne (tgt := 115) hx hb dX6_canOf_64 (by decide) (fun c_15 => ?_) (fun c_15 => ?_)
          · have hw := hw.1 c_15
            refine lv_iconst (v := 1) hx hb dX6_canOf_115 (by decide) ?_
            refine lv_goto (tgt := 120) hx hb dX6_canOf_116 (by decide) ?_
            refine lv_istore (lv' := [(4, .int 1), (0, .ref (q 0)), (1, .int x1_7), (2, .int x2_8), (3, .int x3_9), (5, .int x5_11)]) hx hb dX6_canOf_120 hl (by decide) rfl (fun ls hl => ?_)
            refine lv_iinc (v := (x5_11 + 1)) (lv' := [(5, .int (x5_11 + 1)), (4, .int 1), (0, .ref (q 0)), (1, .int x1_7), (2, .int x2_8), (3, .int x3_9)]) hx hb dX6_canOf_122 hl (k := 5) rfl rfl (by decide) rfl (fun ls hl => ?_)
            refine lv_goto (tgt := 37) hx hb dX6_canOf_125 (by decide) ?_
            exact ih 1 (x5_11 + 1) s_12 _ _ _ hw hC (lv_sub hl [2, 3, 4, 5, 1, 0] rfl)
          · have hw := hw.2 c_15
            refine lv_aload_n hx hb dX6_canOf_67 rfl (lv_at hl 0 rfl) ?_
            refine cx_get (v := .ref (q 5)) hx hb hts iX6 hown hK hC 0 rfl rfl 13 (by decide) u1 rfl rfl dX6_canOf_68 ?_
            refine lv_iload hx hb dX6_canOf_71 (lv_at hl 5 rfl) ?_
            refine cx_iald (f := s_12.2 4) hx hb hK hC 5 rfl hw.1 dX6_canOf_73 ?_
            have hw := hw.2
            refine lv_iconst (v := (-1)) hx hb dX6_canOf_74 (by decide) ?_
            refine lv_icmp_eq (tgt := 115) hx hb dX6_canOf_75 (by decide) (fun c_16 => ?_) (fun c_16 => ?_)
            · have hw := hw.1 c_16
              refine lv_iconst (v := 1) hx hb dX6_canOf_115 (by decide) ?_
              refine lv_goto (tgt := 120) hx hb dX6_canOf_116 (by decide) ?_
              refine lv_istore (lv' := [(4, .int 1), (0, .ref (q 0)), (1, .int x1_7), (2, .int x2_8), (3, .int x3_9), (5, .int x5_11)]) hx hb dX6_canOf_120 hl (by decide) rfl (fun ls hl => ?_)
              refine lv_iinc (v := (x5_11 + 1)) (lv' := [(5, .int (x5_11 + 1)), (4, .int 1), (0, .ref (q 0)), (1, .int x1_7), (2, .int x2_8), (3, .int x3_9)]) hx hb dX6_canOf_122 hl (k := 5) rfl rfl (by decide) rfl (fun ls hl => ?_)
              refine lv_goto (tgt := 37) hx hb dX6_canOf_125 (by decide) ?_
              exact ih 1 (x5_11 + 1) s_12 _ _ _ hw hC (lv_sub hl [2, 3, 4, 5, 1, 0] rfl)
            · have hw := hw.2 c_16
              refine lv_aload_n hx hb dX6_canOf_78 rfl (lv_at hl 0 rfl) ?_
              refine cx_get (v := .ref (q 3)) hx hb hts iX6 hown hK hC 0 rfl rfl 11 (by decide) u5 rfl rfl dX6_canOf_79 ?_
              refine lv_iload hx hb dX6_canOf_82 (lv_at hl 5 rfl) ?_
              refine cx_iald (f := s_12.2 2) hx hb hK hC 3 rfl hw.1 dX6_canOf_84 ?_
              have hw := hw.2
              refine lv_aload_n hx hb dX6_canOf_85 rfl (lv_at hl 0 rfl) ?_
              refine cx_get (v := .ref (q 3)) hx hb hts iX6 hown hK hC 0 rfl rfl 11 (by decide) u5 rfl rfl dX6_canOf_86 ?_
              refine lv_iload_n hx hb dX6_canOf_89 rfl (lv_at hl 1 rfl) ?_
              refine cx_iald (f := s_12.2 2) hx hb hK hC 3 rfl hw.1 dX6_canOf_90 ?_
              have hw := hw.2
              refine lv_isub hx hb dX6_canOf_91 ?_
              refine va_mabs hx hb (hml.trans hl.1.symm) hown u6 u7 u8 u9 (Nat.le_of_ble_eq_true rfl) (Nat.le_of_ble_eq_true rfl) (Nat.le_refl 0) (Nat.le_refl 0) dX6_canOf_92 ?_
              refine lv_aload_n hx hb dX6_canOf_95 rfl (lv_at hl 0 rfl) ?_
              refine cx_get (v := .ref (q 1)) hx hb hts iX6 hown hK hC 0 rfl rfl 9 (by decide) u10 rfl rfl dX6_canOf_96 ?_
              refine lv_bipush (v := 10) hx hb dX6_canOf_99 (by decide) ?_
              refine lv_iload_n hx hb dX6_canOf_101 rfl (lv_at hl 3 rfl) ?_
              refine lv_imul hx hb dX6_canOf_102 ?_
              refine lv_aload_n hx hb dX6_canOf_103 rfl (lv_at hl 0 rfl) ?_
              refine cx_get (v := .ref (q 5)) hx hb hts iX6 hown hK hC 0 rfl rfl 13 (by decide) u1 rfl rfl dX6_canOf_104 ?_
              refine lv_iload hx hb dX6_canOf_107 (lv_at hl 5 rfl) ?_
              refine cx_iald (f := s_12.2 4) hx hb hK hC 5 rfl hw.1 dX6_canOf_109 ?_
              have hw := hw.2
              refine lv_iadd hx hb dX6_canOf_110 ?_
              refine cx_iald (f := s_12.2 0) hx hb hK hC 1 rfl hw.1 dX6_canOf_111 ?_
              have hw := hw.2
              refine lv_icmp_lt (tgt := 119) hx hb dX6_canOf_112 (by decide) (fun c_17 => ?_) (fun c_17 => ?_)
              · have hw := hw.1 c_17
                refine lv_iconst (v := 0) hx hb dX6_canOf_119 (by decide) ?_
                refine lv_istore (lv' := [(4, .int 0), (0, .ref (q 0)), (1, .int x1_7), (2, .int x2_8), (3, .int x3_9), (5, .int x5_11)]) hx hb dX6_canOf_120 hl (by decide) rfl (fun ls hl => ?_)
                refine lv_iinc (v := (x5_11 + 1)) (lv' := [(5, .int (x5_11 + 1)), (4, .int 0), (0, .ref (q 0)), (1, .int x1_7), (2, .int x2_8), (3, .int x3_9)]) hx hb dX6_canOf_122 hl (k := 5) rfl rfl (by decide) rfl (fun ls hl => ?_)
                refine lv_goto (tgt := 37) hx hb dX6_canOf_125 (by decide) ?_
                exact ih 0 (x5_11 + 1) s_12 _ _ _ hw hC (lv_sub hl [2, 3, 4, 5, 1, 0] rfl)
              · have hw := hw.2 c_17
                refine lv_iconst (v := 1) hx hb dX6_canOf_115 (by decide) ?_
                refine lv_goto (tgt := 120) hx hb dX6_canOf_116 (by decide) ?_
                refine lv_istore (lv' := [(4, .int 1), (0, .ref (q 0)), (1, .int x1_7), (2, .int x2_8), (3, .int x3_9), (5, .int x5_11)]) hx hb dX6_canOf_120 hl (by decide) rfl (fun ls hl => ?_)
                refine lv_iinc (v := (x5_11 + 1)) (lv' := [(5, .int (x5_11 + 1)), (4, .int 1), (0, .ref (q 0)), (1, .int x1_7), (2, .int x2_8), (3, .int x3_9)]) hx hb dX6_canOf_122 hl (k := 5) rfl rfl (by decide) rfl (fun ls hl => ?_)
                refine lv_goto (tgt := 37) hx hb dX6_canOf_125 (by decide) ?_
                exact ih 1 (x5_11 + 1) s_12 _ _ _ hw hC (lv_sub hl [2, 3, 4, 5, 1, 0] rfl)
  have L23 : ∀ (x1_2 : Int32) (K : Int32 → Int32 → St → Prop) (hKK : ∀ (x2_3 : Int32) (x3_4 : Int32) (s_5 : St) (H : Heap) (locs : List Loc) (ls : Array Slot), K x2_3 x3_4 s_5 → Cx D A s.heap (wM cI q s_5) H locs → lv_has ls 6 [(0, .ref (q 0)), (1, .int x1_2), (2, .int x2_3), (3, .int x3_4)] → W p l e (Rm 1 21) s m [.ref (q 0), .int x1].toArray below meth c H locs 0 0 (QI below D cI A (wM cI q) post [.ref (q 0), .int x1].toArray s) (F0 m 149 ls [])) (n : Nat), ∀ (x2_3 : Int32) (x3_4 : Int32) (s_5 : St) (H : Heap) (locs : List Loc) (ls : Array Slot), w_X6_canOf_L23 x1_2 post K n x2_3 x3_4 s_5 → Cx D A s.heap (wM cI q s_5) H locs → lv_has ls 6 [(0, .ref (q 0)), (1, .int x1_2), (2, .int x2_3), (3, .int x3_4)] → W p l e (Rm 1 21) s m [.ref (q 0), .int x1].toArray below meth c H locs 0 0 (QI below D cI A (wM cI q) post [.ref (q 0), .int x1].toArray s) (F0 m 23 ls []) := by
    intro x1_2 K hKK n
    induction n with
    | zero => intro x2_3 x3_4 s_5 H locs ls hw; exact hw.elim
    | succ n ih =>
      intro x2_3 x3_4 s_5 H locs ls hw hC hl
      refine lv_iload_n hx hb dX6_canOf_23 rfl (lv_at hl 3 rfl) ?_
      refine lv_aload_n hx hb dX6_canOf_24 rfl (lv_at hl 0 rfl) ?_
      refine cx_get (v := .int (s_5.1 3)) hx hb hts iX6 hown hK hC 0 rfl rfl 3 (by decide) u2 rfl rfl dX6_canOf_25 ?_
      refine lv_icmp_ge (tgt := 149) hx hb dX6_canOf_28 (by decide) (fun c_6 => ?_) (fun c_6 => ?_)
      · have hw := hw.1 c_6
        exact hKK x2_3 x3_4 s_5 _ _ _ hw hC (lv_sub hl [0, 1, 2, 3] rfl)
      · have hw := hw.2 c_6
        refine lv_iconst (v := 1) hx hb dX6_canOf_31 (by decide) ?_
        refine lv_istore (lv' := [(4, .int 1), (0, .ref (q 0)), (1, .int x1_2), (2, .int x2_3), (3, .int x3_4)]) hx hb dX6_canOf_32 hl (by decide) rfl (fun ls hl => ?_)
        refine lv_iconst (v := 0) hx hb dX6_canOf_34 (by decide) ?_
        refine lv_istore (lv' := [(5, .int 0), (4, .int 1), (0, .ref (q 0)), (1, .int x1_2), (2, .int x2_3), (3, .int x3_4)]) hx hb dX6_canOf_35 hl (by decide) rfl (fun ls hl => ?_)
        obtain ⟨n, hw⟩ := hw
        refine L37 x1_2 x2_3 x3_4 _ (fun x4_18 x5_19 s_20 H locs ls hw hC hl => ?_) n 1 0 s_5 _ _ _ hw hC (lv_sub hl [2, 3, 4, 5, 1, 0] rfl)
        refine lv_iload_n hx hb dX6_canOf_128 rfl (lv_at hl 2 rfl) ?_
        refine lv_iload hx hb dX6_canOf_129 (lv_at hl 4 rfl) ?_
        refine lv_if_eq (tgt := 140) hx hb dX6_canOf_131 (by decide) (fun c_21 => ?_) (fun c_21 => ?_)
        · have hw := hw.1 c_21
          refine lv_iconst (v := 0) hx hb dX6_canOf_140 (by decide) ?_
          refine lv_ior hx hb dX6_canOf_141 ?_
          refine lv_istore_n (lv' := [(2, .int (x2_3 ||| 0)), (0, .ref (q 0)), (1, .int x1_2), (3, .int x3_4), (4, .int x4_18), (5, .int x5_19)]) hx hb dX6_canOf_142 rfl hl (by decide) rfl (fun ls hl => ?_)
          refine lv_iinc (v := (x3_4 + 1)) (lv' := [(3, .int (x3_4 + 1)), (2, .int (x2_3 ||| 0)), (0, .ref (q 0)), (1, .int x1_2), (4, .int x4_18), (5, .int x5_19)]) hx hb dX6_canOf_143 hl (k := 3) rfl rfl (by decide) rfl (fun ls hl => ?_)
          refine lv_goto (tgt := 23) hx hb dX6_canOf_146 (by decide) ?_
          exact ih (x2_3 ||| 0) (x3_4 + 1) s_20 _ _ _ hw hC (lv_sub hl [2, 3, 1, 0] rfl)
        · have hw := hw.2 c_21
          refine lv_iconst (v := 1) hx hb dX6_canOf_134 (by decide) ?_
          refine lv_iload_n hx hb dX6_canOf_135 rfl (lv_at hl 3 rfl) ?_
          refine lv_ishl hx hb dX6_canOf_136 ?_
          refine lv_goto (tgt := 141) hx hb dX6_canOf_137 (by decide) ?_
          refine lv_ior hx hb dX6_canOf_141 ?_
          refine lv_istore_n (lv' := [(2, .int (x2_3 ||| (1 <<< (x3_4 &&& 31)))), (0, .ref (q 0)), (1, .int x1_2), (3, .int x3_4), (4, .int x4_18), (5, .int x5_19)]) hx hb dX6_canOf_142 rfl hl (by decide) rfl (fun ls hl => ?_)
          refine lv_iinc (v := (x3_4 + 1)) (lv' := [(3, .int (x3_4 + 1)), (2, .int (x2_3 ||| (1 <<< (x3_4 &&& 31)))), (0, .ref (q 0)), (1, .int x1_2), (4, .int x4_18), (5, .int x5_19)]) hx hb dX6_canOf_143 hl (k := 3) rfl rfl (by decide) rfl (fun ls hl => ?_)
          refine lv_goto (tgt := 23) hx hb dX6_canOf_146 (by decide) ?_
          exact ih (x2_3 ||| (1 <<< (x3_4 &&& 31))) (x3_4 + 1) s_20 _ _ _ hw hC (lv_sub hl [2, 3, 1, 0] rfl)
  refine lv_aload_n hx hb dX6_canOf_0 rfl (lv_at hl 0 rfl) ?_
  refine cx_get (v := .ref (q 5)) hx hb hts iX6 hown hK hC 0 rfl rfl 13 (by decide) u1 rfl rfl dX6_canOf_1 ?_
  refine lv_iload_n hx hb dX6_canOf_4 rfl (lv_at hl 1 rfl) ?_
  refine cx_iald (f := σ.2 4) hx hb hK hC 5 rfl hw.1 dX6_canOf_5 ?_
  have hw := hw.2
  refine lv_iconst (v := (-1)) hx hb dX6_canOf_6 (by decide) ?_
  refine lv_icmp_eq (tgt := 19) hx hb dX6_canOf_7 (by decide) (fun c_1 => ?_) (fun c_1 => ?_)
  · have hw := hw.1 c_1
    refine lv_iconst (v := 0) hx hb dX6_canOf_19 (by decide) ?_
    refine lv_istore_n (lv' := [(2, .int 0), (0, .ref (q 0)), (1, .int x1)]) hx hb dX6_canOf_20 rfl hl (by decide) rfl (fun ls hl => ?_)
    refine lv_iconst (v := 0) hx hb dX6_canOf_21 (by decide) ?_
    refine lv_istore_n (lv' := [(3, .int 0), (2, .int 0), (0, .ref (q 0)), (1, .int x1)]) hx hb dX6_canOf_22 rfl hl (by decide) rfl (fun ls hl => ?_)
    obtain ⟨n, hw⟩ := hw
    refine L23 x1 _ (fun x2_23 x3_24 s_25 H locs ls hw hC hl => ?_) n 0 0 σ _ _ _ hw hC (lv_sub hl [2, 3, 1, 0] rfl)
    refine lv_iload_n hx hb dX6_canOf_149 rfl (lv_at hl 2 rfl) ?_
    exact cx_ret_i (u := s_25) hx hb hr hlocks hK hC hw dX6_canOf_150
  · have hw := hw.2 c_1
    refine lv_iconst (v := 1) hx hb dX6_canOf_10 (by decide) ?_
    refine lv_aload_n hx hb dX6_canOf_11 rfl (lv_at hl 0 rfl) ?_
    refine cx_get (v := .ref (q 5)) hx hb hts iX6 hown hK hC 0 rfl rfl 13 (by decide) u1 rfl rfl dX6_canOf_12 ?_
    refine lv_iload_n hx hb dX6_canOf_15 rfl (lv_at hl 1 rfl) ?_
    refine cx_iald (f := σ.2 4) hx hb hK hC 5 rfl hw.1 dX6_canOf_16 ?_
    have hw := hw.2
    refine lv_ishl hx hb dX6_canOf_17 ?_
    exact cx_ret_i (u := σ) hx hb hr hlocks hK hC hw dX6_canOf_18

/-! PictureHeapModel.can(I)I (X6_can) -/
set_option maxHeartbeats 1000000 in
set_option maxRecDepth 100000 in
theorem c_X6_can (l : Launch) (D : va_G) (cI : ClassId) (q : Nat → Nat) (sz : Nat) (σ : St) (x1 : Int32) (post : Int32 → St → Prop) (hw : w_X6_can σ x1 post) : Ci l yX6_can wsX6_can 2 46 D cI (wM cI q σ) sz [.ref (q 0), .int x1] (wM cI q) post := by
  refine mo_i (cc := cX6_can) (maxL := 2) (ret := (some .int)) (by decide) rfl (Nat.le_of_ble_eq_true rfl) ?_
  intro p e s m below meth c hx hb hr hml hts hown hlocks hK A hA hC ls hl
  have hown : s.vm.findClass RX6 = some m.cls := hown
  have hl : lv_has ls 2 [(0, .ref (q 0)), (1, .int x1)] := hl
  have u1 : (Cond.fieldLink RX6 74 "PictureHeapModel" "thrown" "I").before [.ref (q 0), .int x1].toArray s = true := hts _ (List.mem_of_getElem? (i := 1) rfl)
  have iX6 : ∀ w ∈ wsX60, w ∈ wsX6_can := fun _ h => List.mem_cons_of_mem _ (List.mem_append_right _ h)
  refine lv_aload_n hx hb dX6_can_0 rfl (lv_at hl 0 rfl) ?_
  refine lv_iconst (v := 0) hx hb dX6_can_1 (by decide) ?_
  refine cx_put (v := .int 0) hx hb hts iX6 tyX6 tyX6_ok nmX6 hown hK hC 0 rfl rfl 0 (by decide) u1 rfl rfl (tyX6_ok 0 (by decide)) rfl rfl (Nat.le_of_ble_eq_true rfl) dX6_can_2 (ws' := (wM cI q ((va_up σ.1 0 0), σ.2))) (wM_i0 cI q _ _) (fun H locs hC => ?_)
  refine lv_aload_n hx hb dX6_can_5 rfl (lv_at hl 0 rfl) ?_
  refine lv_iload_n hx hb dX6_can_6 rfl (lv_at hl 1 rfl) ?_
  refine cx_callVi0 (As := [.int x1]) (rest := []) ⟨hx, hb, hml, hown, hts⟩ (c_X6_isPicture l D cI q _ ((va_up σ.1 0 0), σ.2) x1 _ hw) (cwV 1 hts gX6_can_X6_isPicture rfl rfl rfl (by decide +kernel) ⟨Nat.le_of_ble_eq_true rfl, Nat.le_of_ble_eq_true rfl⟩) hK hC hA 0 rfl rfl rfl rfl hl.1 rfl (Nat.le_of_ble_eq_true rfl) dX6_can_7 ⟨Nat.zero_le _, Nat.zero_le _⟩ (fun r_1 u_2 H locs hw hC => ?_)
  refine lv_if_eq (tgt := 21) hx hb dX6_can_10 (by decide) (fun c_3 => ?_) (fun c_3 => ?_)
  · have hw := hw.1 c_3
    refine lv_iconst (v := (-1)) hx hb dX6_can_21 (by decide) ?_
    exact cx_ret_i (u := u_2) hx hb hr hlocks hK hC hw dX6_can_22
  · have hw := hw.2 c_3
    refine lv_aload_n hx hb dX6_can_13 rfl (lv_at hl 0 rfl) ?_
    refine lv_iload_n hx hb dX6_can_14 rfl (lv_at hl 1 rfl) ?_
    refine cx_callVi0 (As := [.int x1]) (rest := []) ⟨hx, hb, hml, hown, hts⟩ (c_X6_canOf l D cI q _ u_2 x1 _ hw) (cwV 1 hts gX6_can_X6_canOf rfl rfl rfl (by decide +kernel) ⟨Nat.le_of_ble_eq_true rfl, Nat.le_of_ble_eq_true rfl⟩) hK hC hA 0 rfl rfl rfl rfl hl.1 rfl (Nat.le_of_ble_eq_true rfl) dX6_can_15 ⟨Nat.zero_le _, Nat.zero_le _⟩ (fun r_4 u_5 H locs hw hC => ?_)
    refine lv_goto (tgt := 22) hx hb dX6_can_18 (by decide) ?_
    exact cx_ret_i (u := u_5) hx hb hr hlocks hK hC hw dX6_can_22

/-! PictureHeapModel.found()I (X6_found) -/
set_option maxHeartbeats 1000000 in
set_option maxRecDepth 100000 in
theorem c_X6_found (l : Launch) (D : va_G) (cI : ClassId) (q : Nat → Nat) (sz : Nat) (σ : St) (post : Int32 → St → Prop) (hw : w_X6_found σ post) : Ci l yX6_found wsX6_found 2 46 D cI (wM cI q σ) sz [.ref (q 0)] (wM cI q) post := by
  refine mo_i (cc := cX6_found) (maxL := 3) (ret := (some .int)) (by decide) rfl (Nat.le_of_ble_eq_true rfl) ?_
  intro p e s m below meth c hx hb hr hml hts hown hlocks hK A hA hC ls hl
  have hown : s.vm.findClass RX6 = some m.cls := hown
  have hl : lv_has ls 3 [(0, .ref (q 0))] := hl
  have u1 : (Cond.fieldLink RX6 74 "PictureHeapModel" "thrown" "I").before [.ref (q 0)].toArray s = true := hts _ (List.mem_of_getElem? (i := 1) rfl)
  have u2 : (Cond.fieldLink RX6 93 "PictureHeapModel" "pictures" "I").before [.ref (q 0)].toArray s = true := hts _ (List.mem_of_getElem? (i := 2) rfl)
  have u3 : (Cond.fieldLink RX6 29 "PictureHeapModel" "place" "[I").before [.ref (q 0)].toArray s = true := hts _ (List.mem_of_getElem? (i := 3) rfl)
  have iX6 : ∀ w ∈ wsX60, w ∈ wsX6_found := fun _ h => List.mem_cons_of_mem _ (List.mem_append_right _ h)
  have L9 : ∀ (K : Int32 → Int32 → St → Prop) (hKK : ∀ (x1_1 : Int32) (x2_2 : Int32) (s_3 : St) (H : Heap) (locs : List Loc) (ls : Array Slot), K x1_1 x2_2 s_3 → Cx D A s.heap (wM cI q s_3) H locs → lv_has ls 3 [(0, .ref (q 0)), (1, .int x1_1), (2, .int x2_2)] → W p l e (Rm 2 46) s m [.ref (q 0)].toArray below meth c H locs 0 0 (QI below D cI A (wM cI q) post [.ref (q 0)].toArray s) (F0 m 53 ls [])) (n : Nat), ∀ (x1_1 : Int32) (x2_2 : Int32) (s_3 : St) (H : Heap) (locs : List Loc) (ls : Array Slot), w_X6_found_L9 post K n x1_1 x2_2 s_3 → Cx D A s.heap (wM cI q s_3) H locs → lv_has ls 3 [(0, .ref (q 0)), (1, .int x1_1), (2, .int x2_2)] → W p l e (Rm 2 46) s m [.ref (q 0)].toArray below meth c H locs 0 0 (QI below D cI A (wM cI q) post [.ref (q 0)].toArray s) (F0 m 9 ls []) := by
    intro  K hKK n
    induction n with
    | zero => intro x1_1 x2_2 s_3 H locs ls hw; exact hw.elim
    | succ n ih =>
      intro x1_1 x2_2 s_3 H locs ls hw hC hl
      refine lv_iload_n hx hb dX6_found_9 rfl (lv_at hl 2 rfl) ?_
      refine lv_aload_n hx hb dX6_found_10 rfl (lv_at hl 0 rfl) ?_
      refine cx_get (v := .int (s_3.1 4)) hx hb hts iX6 hown hK hC 0 rfl rfl 4 (by decide) u2 rfl rfl dX6_found_11 ?_
      refine lv_icmp_ge (tgt := 53) hx hb dX6_found_14 (by decide) (fun c_4 => ?_) (fun c_4 => ?_)
      · have hw := hw.1 c_4
        exact hKK x1_1 x2_2 s_3 _ _ _ hw hC (lv_sub hl [0, 1, 2] rfl)
      · have hw := hw.2 c_4
        refine lv_iload_n hx hb dX6_found_17 rfl (lv_at hl 1 rfl) ?_
        refine lv_aload_n hx hb dX6_found_18 rfl (lv_at hl 0 rfl) ?_
        refine cx_get (v := .ref (q 5)) hx hb hts iX6 hown hK hC 0 rfl rfl 13 (by decide) u3 rfl rfl dX6_found_19 ?_
        refine lv_iload_n hx hb dX6_found_22 rfl (lv_at hl 2 rfl) ?_
        refine cx_iald (f := s_3.2 4) hx hb hK hC 5 rfl hw.1 dX6_found_23 ?_
        have hw := hw.2
        refine lv_iconst (v := (-1)) hx hb dX6_found_24 (by decide) ?_
        refine lv_icmp_ne (tgt := 44) hx hb dX6_found_25 (by decide) (fun c_5 => ?_) (fun c_5 => ?_)
        · have hw := hw.1 c_5
          refine lv_iconst (v := 0) hx hb dX6_found_44 (by decide) ?_
          refine lv_iadd hx hb dX6_found_45 ?_
          refine lv_istore_n (lv' := [(1, .int (x1_1 + 0)), (0, .ref (q 0)), (2, .int x2_2)]) hx hb dX6_found_46 rfl hl (by decide) rfl (fun ls hl => ?_)
          refine lv_iinc (v := (x2_2 + 1)) (lv' := [(2, .int (x2_2 + 1)), (1, .int (x1_1 + 0)), (0, .ref (q 0))]) hx hb dX6_found_47 hl (k := 2) rfl rfl (by decide) rfl (fun ls hl => ?_)
          refine lv_goto (tgt := 9) hx hb dX6_found_50 (by decide) ?_
          exact ih (x1_1 + 0) (x2_2 + 1) s_3 _ _ _ hw hC (lv_sub hl [2, 1, 0] rfl)
        · have hw := hw.2 c_5
          refine lv_aload_n hx hb dX6_found_28 rfl (lv_at hl 0 rfl) ?_
          refine lv_iload_n hx hb dX6_found_29 rfl (lv_at hl 2 rfl) ?_
          refine cx_callVi0 (As := [.int x2_2]) (rest := [.int x1_1]) ⟨hx, hb, hml, hown, hts⟩ (c_X6_canOf l D cI q _ s_3 x2_2 _ hw) (cwV 1 hts gX6_found_X6_canOf rfl rfl rfl (by decide +kernel) ⟨Nat.le_of_ble_eq_true rfl, Nat.le_of_ble_eq_true rfl⟩) hK hC hA 0 rfl rfl rfl rfl hl.1 rfl (Nat.le_of_ble_eq_true rfl) dX6_found_30 ⟨Nat.zero_le _, Nat.zero_le _⟩ (fun r_6 u_7 H locs hw hC => ?_)
          refine cx_callSiE (As := [.int r_6]) (rest := [.int x1_1]) ⟨hx, hb, hml, hown, hts⟩ (c_X6_bits l D cI _ r_6 _ hw) (va_cwS 1 hts gX6_found_X6_bits rfl rfl rfl (by decide +kernel) ⟨Nat.le_of_ble_eq_true rfl, Nat.le_of_ble_eq_true rfl⟩) hK hC hA rfl hl.1 rfl (Nat.le_of_ble_eq_true rfl) dX6_found_33 ⟨Nat.zero_le _, Nat.zero_le _⟩ (fun r_8 H locs hw hC => ?_)
          refine lv_iconst (v := 1) hx hb dX6_found_36 (by decide) ?_
          refine lv_icmp_ne (tgt := 44) hx hb dX6_found_37 (by decide) (fun c_10 => ?_) (fun c_10 => ?_)
          · have hw := hw.1 c_10
            refine lv_iconst (v := 0) hx hb dX6_found_44 (by decide) ?_
            refine lv_iadd hx hb dX6_found_45 ?_
            refine lv_istore_n (lv' := [(1, .int (x1_1 + 0)), (0, .ref (q 0)), (2, .int x2_2)]) hx hb dX6_found_46 rfl hl (by decide) rfl (fun ls hl => ?_)
            refine lv_iinc (v := (x2_2 + 1)) (lv' := [(2, .int (x2_2 + 1)), (1, .int (x1_1 + 0)), (0, .ref (q 0))]) hx hb dX6_found_47 hl (k := 2) rfl rfl (by decide) rfl (fun ls hl => ?_)
            refine lv_goto (tgt := 9) hx hb dX6_found_50 (by decide) ?_
            exact ih (x1_1 + 0) (x2_2 + 1) u_7 _ _ _ hw hC (lv_sub hl [2, 1, 0] rfl)
          · have hw := hw.2 c_10
            refine lv_iconst (v := 1) hx hb dX6_found_40 (by decide) ?_
            refine lv_goto (tgt := 45) hx hb dX6_found_41 (by decide) ?_
            refine lv_iadd hx hb dX6_found_45 ?_
            refine lv_istore_n (lv' := [(1, .int (x1_1 + 1)), (0, .ref (q 0)), (2, .int x2_2)]) hx hb dX6_found_46 rfl hl (by decide) rfl (fun ls hl => ?_)
            refine lv_iinc (v := (x2_2 + 1)) (lv' := [(2, .int (x2_2 + 1)), (1, .int (x1_1 + 1)), (0, .ref (q 0))]) hx hb dX6_found_47 hl (k := 2) rfl rfl (by decide) rfl (fun ls hl => ?_)
            refine lv_goto (tgt := 9) hx hb dX6_found_50 (by decide) ?_
            exact ih (x1_1 + 1) (x2_2 + 1) u_7 _ _ _ hw hC (lv_sub hl [2, 1, 0] rfl)
  refine lv_aload_n hx hb dX6_found_0 rfl (lv_at hl 0 rfl) ?_
  refine lv_iconst (v := 0) hx hb dX6_found_1 (by decide) ?_
  refine cx_put (v := .int 0) hx hb hts iX6 tyX6 tyX6_ok nmX6 hown hK hC 0 rfl rfl 0 (by decide) u1 rfl rfl (tyX6_ok 0 (by decide)) rfl rfl (Nat.le_of_ble_eq_true rfl) dX6_found_2 (ws' := (wM cI q ((va_up σ.1 0 0), σ.2))) (wM_i0 cI q _ _) (fun H locs hC => ?_)
  refine lv_iconst (v := 0) hx hb dX6_found_5 (by decide) ?_
  refine lv_istore_n (lv' := [(1, .int 0), (0, .ref (q 0))]) hx hb dX6_found_6 rfl hl (by decide) rfl (fun ls hl => ?_)
  refine lv_iconst (v := 0) hx hb dX6_found_7 (by decide) ?_
  refine lv_istore_n (lv' := [(2, .int 0), (1, .int 0), (0, .ref (q 0))]) hx hb dX6_found_8 rfl hl (by decide) rfl (fun ls hl => ?_)
  obtain ⟨n, hw⟩ := hw
  refine L9  _ (fun x1_11 x2_12 s_13 H locs ls hw hC hl => ?_) n 0 0 ((va_up σ.1 0 0), σ.2) _ _ _ hw hC (lv_sub hl [2, 1, 0] rfl)
  refine lv_iload_n hx hb dX6_found_53 rfl (lv_at hl 1 rfl) ?_
  exact cx_ret_i (u := s_13) hx hb hr hlocks hK hC hw dX6_found_54

/-! PictureHeapModel.strange()I (X6_strange) -/
set_option maxHeartbeats 1000000 in
set_option maxRecDepth 100000 in
theorem c_X6_strange (l : Launch) (D : va_G) (cI : ClassId) (q : Nat → Nat) (sz : Nat) (σ : St) (post : Int32 → St → Prop) (hw : w_X6_strange σ post) : Ci l yX6_strange wsX6_strange 1 21 D cI (wM cI q σ) sz [.ref (q 0)] (wM cI q) post := by
  refine mo_i (cc := cX6_strange) (maxL := 3) (ret := (some .int)) (by decide) rfl (Nat.le_of_ble_eq_true rfl) ?_
  intro p e s m below meth c hx hb hr hml hts hown hlocks hK A hA hC ls hl
  have hown : s.vm.findClass RX6 = some m.cls := hown
  have hl : lv_has ls 3 [(0, .ref (q 0))] := hl
  have u1 : (Cond.fieldLink RX6 74 "PictureHeapModel" "thrown" "I").before [.ref (q 0)].toArray s = true := hts _ (List.mem_of_getElem? (i := 1) rfl)
  have u2 : (Cond.fieldLink RX6 93 "PictureHeapModel" "pictures" "I").before [.ref (q 0)].toArray s = true := hts _ (List.mem_of_getElem? (i := 2) rfl)
  have u3 : (Cond.fieldLink RX6 29 "PictureHeapModel" "place" "[I").before [.ref (q 0)].toArray s = true := hts _ (List.mem_of_getElem? (i := 3) rfl)
  have u4 : (Cond.fieldLink RX6 20 "PictureHeapModel" "camera" "[I").before [.ref (q 0)].toArray s = true := hts _ (List.mem_of_getElem? (i := 4) rfl)
  have u5 : (Cond.fieldLink RX6 23 "PictureHeapModel" "clock" "[I").before [.ref (q 0)].toArray s = true := hts _ (List.mem_of_getElem? (i := 5) rfl)
  have u6 : (Cond.methodLink RX6 202 Lib.Math.abs.name).before [.ref (q 0)].toArray s = true := hts _ (List.mem_of_getElem? (i := 6) rfl)
  have u7 : (Cond.static Lib.Math.abs.name).before [.ref (q 0)].toArray s = true := hts _ (List.mem_of_getElem? (i := 7) rfl)
  have u8 : (Cond.initialized "java/lang/Math").before [.ref (q 0)].toArray s = true := hts _ (List.mem_of_getElem? (i := 8) rfl)
  have u9 : (Cond.code Lib.Math.abs.name Lib.Math.abs.code 1 (some .int)).before [.ref (q 0)].toArray s = true := hts _ (List.mem_of_getElem? (i := 9) rfl)
  have u10 : (Cond.fieldLink RX6 16 "PictureHeapModel" "way" "[I").before [.ref (q 0)].toArray s = true := hts _ (List.mem_of_getElem? (i := 10) rfl)
  have iX6 : ∀ w ∈ wsX60, w ∈ wsX6_strange := fun _ h => List.mem_cons_of_mem _ (List.mem_append_right _ h)
  have L17 : ∀ (x1_4 : Int32) (K : Int32 → St → Prop) (hKK : ∀ (x2_5 : Int32) (s_6 : St) (H : Heap) (locs : List Loc) (ls : Array Slot), K x2_5 s_6 → Cx D A s.heap (wM cI q s_6) H locs → lv_has ls 3 [(0, .ref (q 0)), (1, .int x1_4), (2, .int x2_5)] → W p l e (Rm 1 21) s m [.ref (q 0)].toArray below meth c H locs 0 0 (QI below D cI A (wM cI q) post [.ref (q 0)].toArray s) (F0 m 111 ls [])) (n : Nat), ∀ (x2_5 : Int32) (s_6 : St) (H : Heap) (locs : List Loc) (ls : Array Slot), w_X6_strange_L17 x1_4 post K n x2_5 s_6 → Cx D A s.heap (wM cI q s_6) H locs → lv_has ls 3 [(0, .ref (q 0)), (1, .int x1_4), (2, .int x2_5)] → W p l e (Rm 1 21) s m [.ref (q 0)].toArray below meth c H locs 0 0 (QI below D cI A (wM cI q) post [.ref (q 0)].toArray s) (F0 m 17 ls []) := by
    intro x1_4 K hKK n
    induction n with
    | zero => intro x2_5 s_6 H locs ls hw; exact hw.elim
    | succ n ih =>
      intro x2_5 s_6 H locs ls hw hC hl
      refine lv_iload_n hx hb dX6_strange_17 rfl (lv_at hl 2 rfl) ?_
      refine lv_aload_n hx hb dX6_strange_18 rfl (lv_at hl 0 rfl) ?_
      refine cx_get (v := .int (s_6.1 4)) hx hb hts iX6 hown hK hC 0 rfl rfl 4 (by decide) u2 rfl rfl dX6_strange_19 ?_
      refine lv_icmp_ge (tgt := 111) hx hb dX6_strange_22 (by decide) (fun c_7 => ?_) (fun c_7 => ?_)
      · have hw := hw.1 c_7
        exact hKK x2_5 s_6 _ _ _ hw hC (lv_sub hl [0, 1, 2] rfl)
      · have hw := hw.2 c_7
        refine lv_aload_n hx hb dX6_strange_25 rfl (lv_at hl 0 rfl) ?_
        refine cx_get (v := .ref (q 5)) hx hb hts iX6 hown hK hC 0 rfl rfl 13 (by decide) u3 rfl rfl dX6_strange_26 ?_
        refine lv_iload_n hx hb dX6_strange_29 rfl (lv_at hl 1 rfl) ?_
        refine cx_iald (f := s_6.2 4) hx hb hK hC 5 rfl hw.1 dX6_strange_30 ?_
        have hw := hw.2
        refine lv_iconst (v := (-1)) hx hb dX6_strange_31 (by decide) ?_
        refine lv_icmp_eq (tgt := 111) hx hb dX6_strange_32 (by decide) (fun c_8 => ?_) (fun c_8 => ?_)
        · have hw := hw.1 c_8
          exact hKK x2_5 s_6 _ _ _ hw hC (lv_sub hl [0, 1, 2] rfl)
        · have hw := hw.2 c_8
          refine lv_aload_n hx hb dX6_strange_35 rfl (lv_at hl 0 rfl) ?_
          refine cx_get (v := .ref (q 5)) hx hb hts iX6 hown hK hC 0 rfl rfl 13 (by decide) u3 rfl rfl dX6_strange_36 ?_
          refine lv_iload_n hx hb dX6_strange_39 rfl (lv_at hl 2 rfl) ?_
          refine cx_iald (f := s_6.2 4) hx hb hK hC 5 rfl hw.1 dX6_strange_40 ?_
          have hw := hw.2
          refine lv_iconst (v := (-1)) hx hb dX6_strange_41 (by decide) ?_
          refine lv_icmp_eq (tgt := 105) hx hb dX6_strange_42 (by decide) (fun c_9 => ?_) (fun c_9 => ?_)
          · have hw := hw.1 c_9
            refine lv_iinc (v := (x2_5 + 1)) (lv' := [(2, .int (x2_5 + 1)), (0, .ref (q 0)), (1, .int x1_4)]) hx hb dX6_strange_105 hl (k := 2) rfl rfl (by decide) rfl (fun ls hl => ?_)
            refine lv_goto (tgt := 17) hx hb dX6_strange_108 (by decide) ?_
            exact ih (x2_5 + 1) s_6 _ _ _ hw hC (lv_sub hl [1, 2, 0] rfl)
          · have hw := hw.2 c_9
            refine lv_aload_n hx hb dX6_strange_45 rfl (lv_at hl 0 rfl) ?_
            refine cx_get (v := .ref (q 2)) hx hb hts iX6 hown hK hC 0 rfl rfl 10 (by decide) u4 rfl rfl dX6_strange_46 ?_
            refine lv_iload_n hx hb dX6_strange_49 rfl (lv_at hl 1 rfl) ?_
            refine cx_iald (f := s_6.2 1) hx hb hK hC 2 rfl hw.1 dX6_strange_50 ?_
            have hw := hw.2
            refine lv_aload_n hx hb dX6_strange_51 rfl (lv_at hl 0 rfl) ?_
            refine cx_get (v := .ref (q 2)) hx hb hts iX6 hown hK hC 0 rfl rfl 10 (by decide) u4 rfl rfl dX6_strange_52 ?_
            refine lv_iload_n hx hb dX6_strange_55 rfl (lv_at hl 2 rfl) ?_
            refine cx_iald (f := s_6.2 1) hx hb hK hC 2 rfl hw.1 dX6_strange_56 ?_
            have hw := hw.2
            refine lv_icmp_eq (tgt := 63) hx hb dX6_strange_57 (by decide) (fun c_10 => ?_) (fun c_10 => ?_)
            · have hw := hw.1 c_10
              refine lv_aload_n hx hb dX6_strange_63 rfl (lv_at hl 0 rfl) ?_
              refine cx_get (v := .ref (q 3)) hx hb hts iX6 hown hK hC 0 rfl rfl 11 (by decide) u5 rfl rfl dX6_strange_64 ?_
              refine lv_iload_n hx hb dX6_strange_67 rfl (lv_at hl 1 rfl) ?_
              refine cx_iald (f := s_6.2 2) hx hb hK hC 3 rfl hw.1 dX6_strange_68 ?_
              have hw := hw.2
              refine lv_aload_n hx hb dX6_strange_69 rfl (lv_at hl 0 rfl) ?_
              refine cx_get (v := .ref (q 3)) hx hb hts iX6 hown hK hC 0 rfl rfl 11 (by decide) u5 rfl rfl dX6_strange_70 ?_
              refine lv_iload_n hx hb dX6_strange_73 rfl (lv_at hl 2 rfl) ?_
              refine cx_iald (f := s_6.2 2) hx hb hK hC 3 rfl hw.1 dX6_strange_74 ?_
              have hw := hw.2
              refine lv_isub hx hb dX6_strange_75 ?_
              refine va_mabs hx hb (hml.trans hl.1.symm) hown u6 u7 u8 u9 (Nat.le_of_ble_eq_true rfl) (Nat.le_of_ble_eq_true rfl) (Nat.le_refl 0) (Nat.le_refl 0) dX6_strange_76 ?_
              refine lv_aload_n hx hb dX6_strange_79 rfl (lv_at hl 0 rfl) ?_
              refine cx_get (v := .ref (q 1)) hx hb hts iX6 hown hK hC 0 rfl rfl 9 (by decide) u10 rfl rfl dX6_strange_80 ?_
              refine lv_bipush (v := 10) hx hb dX6_strange_83 (by decide) ?_
              refine lv_aload_n hx hb dX6_strange_85 rfl (lv_at hl 0 rfl) ?_
              refine cx_get (v := .ref (q 5)) hx hb hts iX6 hown hK hC 0 rfl rfl 13 (by decide) u3 rfl rfl dX6_strange_86 ?_
              refine lv_iload_n hx hb dX6_strange_89 rfl (lv_at hl 1 rfl) ?_
              refine cx_iald (f := s_6.2 4) hx hb hK hC 5 rfl hw.1 dX6_strange_90 ?_
              have hw := hw.2
              refine lv_imul hx hb dX6_strange_91 ?_
              refine lv_aload_n hx hb dX6_strange_92 rfl (lv_at hl 0 rfl) ?_
              refine cx_get (v := .ref (q 5)) hx hb hts iX6 hown hK hC 0 rfl rfl 13 (by decide) u3 rfl rfl dX6_strange_93 ?_
              refine lv_iload_n hx hb dX6_strange_96 rfl (lv_at hl 2 rfl) ?_
              refine cx_iald (f := s_6.2 4) hx hb hK hC 5 rfl hw.1 dX6_strange_97 ?_
              have hw := hw.2
              refine lv_iadd hx hb dX6_strange_98 ?_
              refine cx_iald (f := s_6.2 0) hx hb hK hC 1 rfl hw.1 dX6_strange_99 ?_
              have hw := hw.2
              refine lv_icmp_ge (tgt := 105) hx hb dX6_strange_100 (by decide) (fun c_11 => ?_) (fun c_11 => ?_)
              · have hw := hw.1 c_11
                refine lv_iinc (v := (x2_5 + 1)) (lv' := [(2, .int (x2_5 + 1)), (0, .ref (q 0)), (1, .int x1_4)]) hx hb dX6_strange_105 hl (k := 2) rfl rfl (by decide) rfl (fun ls hl => ?_)
                refine lv_goto (tgt := 17) hx hb dX6_strange_108 (by decide) ?_
                exact ih (x2_5 + 1) s_6 _ _ _ hw hC (lv_sub hl [1, 2, 0] rfl)
              · have hw := hw.2 c_11
                refine lv_iload_n hx hb dX6_strange_103 rfl (lv_at hl 1 rfl) ?_
                exact cx_ret_i (u := s_6) hx hb hr hlocks hK hC hw dX6_strange_104
            · have hw := hw.2 c_10
              refine lv_goto (tgt := 105) hx hb dX6_strange_60 (by decide) ?_
              refine lv_iinc (v := (x2_5 + 1)) (lv' := [(2, .int (x2_5 + 1)), (0, .ref (q 0)), (1, .int x1_4)]) hx hb dX6_strange_105 hl (k := 2) rfl rfl (by decide) rfl (fun ls hl => ?_)
              refine lv_goto (tgt := 17) hx hb dX6_strange_108 (by decide) ?_
              exact ih (x2_5 + 1) s_6 _ _ _ hw hC (lv_sub hl [1, 2, 0] rfl)
  have L7 : ∀ (K : Int32 → St → Prop) (hKK : ∀ (x1_1 : Int32) (s_2 : St) (H : Heap) (locs : List Loc) (ls : Array Slot), K x1_1 s_2 → Cx D A s.heap (wM cI q s_2) H locs → lv_has ls 3 [(0, .ref (q 0)), (1, .int x1_1)] → W p l e (Rm 1 21) s m [.ref (q 0)].toArray below meth c H locs 0 0 (QI below D cI A (wM cI q) post [.ref (q 0)].toArray s) (F0 m 117 ls [])) (n : Nat), ∀ (x1_1 : Int32) (s_2 : St) (H : Heap) (locs : List Loc) (ls : Array Slot), w_X6_strange_L7 post K n x1_1 s_2 → Cx D A s.heap (wM cI q s_2) H locs → lv_has ls 3 [(0, .ref (q 0)), (1, .int x1_1)] → W p l e (Rm 1 21) s m [.ref (q 0)].toArray below meth c H locs 0 0 (QI below D cI A (wM cI q) post [.ref (q 0)].toArray s) (F0 m 7 ls []) := by
    intro  K hKK n
    induction n with
    | zero => intro x1_1 s_2 H locs ls hw; exact hw.elim
    | succ n ih =>
      intro x1_1 s_2 H locs ls hw hC hl
      refine lv_iload_n hx hb dX6_strange_7 rfl (lv_at hl 1 rfl) ?_
      refine lv_aload_n hx hb dX6_strange_8 rfl (lv_at hl 0 rfl) ?_
      refine cx_get (v := .int (s_2.1 4)) hx hb hts iX6 hown hK hC 0 rfl rfl 4 (by decide) u2 rfl rfl dX6_strange_9 ?_
      refine lv_icmp_ge (tgt := 117) hx hb dX6_strange_12 (by decide) (fun c_3 => ?_) (fun c_3 => ?_)
      · have hw := hw.1 c_3
        exact hKK x1_1 s_2 _ _ _ hw hC (lv_sub hl [0, 1] rfl)
      · have hw := hw.2 c_3
        refine lv_iconst (v := 0) hx hb dX6_strange_15 (by decide) ?_
        refine lv_istore_n (lv' := [(2, .int 0), (0, .ref (q 0)), (1, .int x1_1)]) hx hb dX6_strange_16 rfl hl (by decide) rfl (fun ls hl => ?_)
        obtain ⟨n, hw⟩ := hw
        refine L17 x1_1 _ (fun x2_12 s_13 H locs ls hw hC hl => ?_) n 0 s_2 _ _ _ hw hC (lv_sub hl [1, 2, 0] rfl)
        refine lv_iinc (v := (x1_1 + 1)) (lv' := [(1, .int (x1_1 + 1)), (0, .ref (q 0)), (2, .int x2_12)]) hx hb dX6_strange_111 hl (k := 1) rfl rfl (by decide) rfl (fun ls hl => ?_)
        refine lv_goto (tgt := 7) hx hb dX6_strange_114 (by decide) ?_
        exact ih (x1_1 + 1) s_13 _ _ _ hw hC (lv_sub hl [1, 0] rfl)
  refine lv_aload_n hx hb dX6_strange_0 rfl (lv_at hl 0 rfl) ?_
  refine lv_iconst (v := 0) hx hb dX6_strange_1 (by decide) ?_
  refine cx_put (v := .int 0) hx hb hts iX6 tyX6 tyX6_ok nmX6 hown hK hC 0 rfl rfl 0 (by decide) u1 rfl rfl (tyX6_ok 0 (by decide)) rfl rfl (Nat.le_of_ble_eq_true rfl) dX6_strange_2 (ws' := (wM cI q ((va_up σ.1 0 0), σ.2))) (wM_i0 cI q _ _) (fun H locs hC => ?_)
  refine lv_iconst (v := 0) hx hb dX6_strange_5 (by decide) ?_
  refine lv_istore_n (lv' := [(1, .int 0), (0, .ref (q 0))]) hx hb dX6_strange_6 rfl hl (by decide) rfl (fun ls hl => ?_)
  obtain ⟨n, hw⟩ := hw
  refine L7  _ (fun x1_15 s_16 H locs ls hw hC hl => ?_) n 0 ((va_up σ.1 0 0), σ.2) _ _ _ hw hC (lv_sub hl [1, 0] rfl)
  refine lv_bipush (v := (-2)) hx hb dX6_strange_117 (by decide) ?_
  exact cx_ret_i (u := s_16) hx hb hr hlocks hK hC hw dX6_strange_119

/-! PictureHeapModel.count(I)I (X6_count) -/
set_option maxHeartbeats 1000000 in
set_option maxRecDepth 100000 in
theorem c_X6_count (l : Launch) (D : va_G) (cI : ClassId) (q : Nat → Nat) (sz : Nat) (σ : St) (x1 : Int32) (post : Int32 → St → Prop) (hw : w_X6_count σ x1 post) : Ci l yX6_count wsX6_count 0 0 D cI (wM cI q σ) sz [.ref (q 0), .int x1] (wM cI q) post := by
  refine mo_i (cc := cX6_count) (maxL := 2) (ret := (some .int)) (by decide) rfl (Nat.le_of_ble_eq_true rfl) ?_
  intro p e s m below meth c hx hb hr hml hts hown hlocks hK A hA hC ls hl
  have hown : s.vm.findClass RX6 = some m.cls := hown
  have hl : lv_has ls 2 [(0, .ref (q 0)), (1, .int x1)] := hl
  have u1 : (Cond.fieldLink RX6 74 "PictureHeapModel" "thrown" "I").before [.ref (q 0), .int x1].toArray s = true := hts _ (List.mem_of_getElem? (i := 1) rfl)
  have u2 : (Cond.fieldLink RX6 80 "PictureHeapModel" "cameras" "I").before [.ref (q 0), .int x1].toArray s = true := hts _ (List.mem_of_getElem? (i := 2) rfl)
  have u3 : (Cond.fieldLink RX6 90 "PictureHeapModel" "places" "I").before [.ref (q 0), .int x1].toArray s = true := hts _ (List.mem_of_getElem? (i := 3) rfl)
  have u4 : (Cond.fieldLink RX6 93 "PictureHeapModel" "pictures" "I").before [.ref (q 0), .int x1].toArray s = true := hts _ (List.mem_of_getElem? (i := 4) rfl)
  have u5 : (Cond.fieldLink RX6 132 "PictureHeapModel" "ties" "I").before [.ref (q 0), .int x1].toArray s = true := hts _ (List.mem_of_getElem? (i := 5) rfl)
  have u6 : (Cond.fieldLink RX6 155 "PictureHeapModel" "tiesEver" "I").before [.ref (q 0), .int x1].toArray s = true := hts _ (List.mem_of_getElem? (i := 6) rfl)
  have iX6 : ∀ w ∈ wsX60, w ∈ wsX6_count := fun _ h => List.mem_cons_of_mem _ (List.mem_append_right _ h)
  refine lv_aload_n hx hb dX6_count_0 rfl (lv_at hl 0 rfl) ?_
  refine lv_iconst (v := 0) hx hb dX6_count_1 (by decide) ?_
  refine cx_put (v := .int 0) hx hb hts iX6 tyX6 tyX6_ok nmX6 hown hK hC 0 rfl rfl 0 (by decide) u1 rfl rfl (tyX6_ok 0 (by decide)) rfl rfl (Nat.le_of_ble_eq_true rfl) dX6_count_2 (ws' := (wM cI q ((va_up σ.1 0 0), σ.2))) (wM_i0 cI q _ _) (fun H locs hC => ?_)
  refine lv_iload_n hx hb dX6_count_5 rfl (lv_at hl 1 rfl) ?_
  rcases sw_5 x1 with c0 | c0 | c0 | c0 | c0 | c0
  · refine lv_tableOut (tgt := 65) hx hb dX6_count_6 c0 (by decide) ?_
    have hw := hw.1 c0
    refine lv_iconst (v := (-1)) hx hb dX6_count_65 (by decide) ?_
    exact cx_ret_i (u := ((va_up σ.1 0 0), σ.2)) hx hb hr hlocks hK hC hw dX6_count_66
  · refine lv_tableIn (off := 34) (tgt := 40) hx hb dX6_count_6 (by rw [c0]; decide) (by rw [c0]; decide) (by rw [c0]; rfl) (by decide) ?_
    have hw := hw.2.1 c0
    refine lv_aload_n hx hb dX6_count_40 rfl (lv_at hl 0 rfl) ?_
    refine cx_get (v := .int (σ.1 2)) hx hb hts iX6 hown hK hC 0 rfl rfl 2 (by decide) u2 rfl rfl dX6_count_41 ?_
    exact cx_ret_i (u := ((va_up σ.1 0 0), σ.2)) hx hb hr hlocks hK hC hw dX6_count_44
  · refine lv_tableIn (off := 39) (tgt := 45) hx hb dX6_count_6 (by rw [c0]; decide) (by rw [c0]; decide) (by rw [c0]; rfl) (by decide) ?_
    have hw := hw.2.2.1 c0
    refine lv_aload_n hx hb dX6_count_45 rfl (lv_at hl 0 rfl) ?_
    refine cx_get (v := .int (σ.1 3)) hx hb hts iX6 hown hK hC 0 rfl rfl 3 (by decide) u3 rfl rfl dX6_count_46 ?_
    exact cx_ret_i (u := ((va_up σ.1 0 0), σ.2)) hx hb hr hlocks hK hC hw dX6_count_49
  · refine lv_tableIn (off := 44) (tgt := 50) hx hb dX6_count_6 (by rw [c0]; decide) (by rw [c0]; decide) (by rw [c0]; rfl) (by decide) ?_
    have hw := hw.2.2.2.1 c0
    refine lv_aload_n hx hb dX6_count_50 rfl (lv_at hl 0 rfl) ?_
    refine cx_get (v := .int (σ.1 4)) hx hb hts iX6 hown hK hC 0 rfl rfl 4 (by decide) u4 rfl rfl dX6_count_51 ?_
    exact cx_ret_i (u := ((va_up σ.1 0 0), σ.2)) hx hb hr hlocks hK hC hw dX6_count_54
  · refine lv_tableIn (off := 49) (tgt := 55) hx hb dX6_count_6 (by rw [c0]; decide) (by rw [c0]; decide) (by rw [c0]; rfl) (by decide) ?_
    have hw := hw.2.2.2.2.1 c0
    refine lv_aload_n hx hb dX6_count_55 rfl (lv_at hl 0 rfl) ?_
    refine cx_get (v := .int (σ.1 5)) hx hb hts iX6 hown hK hC 0 rfl rfl 5 (by decide) u5 rfl rfl dX6_count_56 ?_
    exact cx_ret_i (u := ((va_up σ.1 0 0), σ.2)) hx hb hr hlocks hK hC hw dX6_count_59
  · refine lv_tableIn (off := 54) (tgt := 60) hx hb dX6_count_6 (by rw [c0]; decide) (by rw [c0]; decide) (by rw [c0]; rfl) (by decide) ?_
    have hw := hw.2.2.2.2.2 c0
    refine lv_aload_n hx hb dX6_count_60 rfl (lv_at hl 0 rfl) ?_
    refine cx_get (v := .int (σ.1 6)) hx hb hts iX6 hown hK hC 0 rfl rfl 6 (by decide) u6 rfl rfl dX6_count_61 ?_
    exact cx_ret_i (u := ((va_up σ.1 0 0), σ.2)) hx hb hr hlocks hK hC hw dX6_count_64

/-! PictureHeapModel.trouble()I (X6_trouble) -/
set_option maxHeartbeats 1000000 in
set_option maxRecDepth 100000 in
theorem c_X6_trouble (l : Launch) (D : va_G) (cI : ClassId) (q : Nat → Nat) (sz : Nat) (σ : St) (post : Int32 → St → Prop) (hw : w_X6_trouble σ post) : Ci l yX6_trouble wsX6_trouble 0 0 D cI (wM cI q σ) sz [.ref (q 0)] (wM cI q) post := by
  refine mo_i (cc := cX6_trouble) (maxL := 1) (ret := (some .int)) (by decide) rfl (Nat.le_of_ble_eq_true rfl) ?_
  intro p e s m below meth c hx hb hr hml hts hown hlocks hK A hA hC ls hl
  have hown : s.vm.findClass RX6 = some m.cls := hown
  have hl : lv_has ls 1 [(0, .ref (q 0))] := hl
  have u1 : (Cond.fieldLink RX6 74 "PictureHeapModel" "thrown" "I").before [.ref (q 0)].toArray s = true := hts _ (List.mem_of_getElem? (i := 1) rfl)
  have u2 : (Cond.fieldLink RX6 77 "PictureHeapModel" "trouble" "I").before [.ref (q 0)].toArray s = true := hts _ (List.mem_of_getElem? (i := 2) rfl)
  have iX6 : ∀ w ∈ wsX60, w ∈ wsX6_trouble := fun _ h => List.mem_cons_of_mem _ (List.mem_append_right _ h)
  refine lv_aload_n hx hb dX6_trouble_0 rfl (lv_at hl 0 rfl) ?_
  refine lv_iconst (v := 0) hx hb dX6_trouble_1 (by decide) ?_
  refine cx_put (v := .int 0) hx hb hts iX6 tyX6 tyX6_ok nmX6 hown hK hC 0 rfl rfl 0 (by decide) u1 rfl rfl (tyX6_ok 0 (by decide)) rfl rfl (Nat.le_of_ble_eq_true rfl) dX6_trouble_2 (ws' := (wM cI q ((va_up σ.1 0 0), σ.2))) (wM_i0 cI q _ _) (fun H locs hC => ?_)
  refine lv_aload_n hx hb dX6_trouble_5 rfl (lv_at hl 0 rfl) ?_
  refine cx_get (v := .int (σ.1 1)) hx hb hts iX6 hown hK hC 0 rfl rfl 1 (by decide) u2 rfl rfl dX6_trouble_6 ?_
  exact cx_ret_i (u := ((va_up σ.1 0 0), σ.2)) hx hb hr hlocks hK hC hw dX6_trouble_9

/-! PictureHeapModel.row(I)I (X6_row) -/
set_option maxHeartbeats 1000000 in
set_option maxRecDepth 100000 in
theorem c_X6_row (l : Launch) (D : va_G) (cI : ClassId) (q : Nat → Nat) (sz : Nat) (σ : St) (x1 : Int32) (post : Int32 → St → Prop) (hw : w_X6_row σ x1 post) : Ci l yX6_row wsX6_row 0 0 D cI (wM cI q σ) sz [.ref (q 0), .int x1] (wM cI q) post := by
  refine mo_i (cc := cX6_row) (maxL := 2) (ret := (some .int)) (by decide) rfl (Nat.le_of_ble_eq_true rfl) ?_
  intro p e s m below meth c hx hb hr hml hts hown hlocks hK A hA hC ls hl
  have hown : s.vm.findClass RX6 = some m.cls := hown
  have hl : lv_has ls 2 [(0, .ref (q 0)), (1, .int x1)] := hl
  have u2 : (Cond.fieldLink RX6 74 "PictureHeapModel" "thrown" "I").before [.ref (q 0), .int x1].toArray s = true := hts _ (List.mem_of_getElem? (i := 2) rfl)
  have u3 : (Cond.fieldLink RX6 71 "PictureHeapModel" "row" "[I").before [.ref (q 0), .int x1].toArray s = true := hts _ (List.mem_of_getElem? (i := 3) rfl)
  have u1 : (Cond.fieldLink RX6 65 "PictureHeapModel" "rows" "I").before [.ref (q 0), .int x1].toArray s = true := hts _ (List.mem_of_getElem? (i := 1) rfl)
  have iX6 : ∀ w ∈ wsX60, w ∈ wsX6_row := fun _ h => List.mem_cons_of_mem _ (List.mem_append_right _ h)
  have J18 : ∀ (x1_4 : Int32) (z_6 : Int32) (s_5 : St) (H : Heap) (locs : List Loc) (ls : Array Slot), w_X6_row_J18 post x1_4 z_6 s_5 → Cx D A s.heap (wM cI q s_5) H locs → lv_has ls 2 [(0, .ref (q 0)), (1, .int x1_4)] → W p l e (Rm 0 0) s m [.ref (q 0), .int x1].toArray below meth c H locs 0 0 (QI below D cI A (wM cI q) post [.ref (q 0), .int x1].toArray s) (F0 m 18 ls [.int z_6, .ref (q 0)]) := by
    intro x1_4 z_6 s_5  H locs ls hw hC hl
    refine cx_put (v := .int z_6) hx hb hts iX6 tyX6 tyX6_ok nmX6 hown hK hC 0 rfl rfl 0 (by decide) u2 rfl rfl (tyX6_ok 0 (by decide)) rfl rfl (Nat.le_of_ble_eq_true rfl) dX6_row_18 (ws' := (wM cI q ((va_up s_5.1 0 z_6), s_5.2))) (wM_i0 cI q _ _) (fun H locs hC => ?_)
    refine lv_aload_n hx hb dX6_row_21 rfl (lv_at hl 0 rfl) ?_
    refine cx_get (v := .int z_6) hx hb hts iX6 hown hK hC 0 rfl rfl 0 (by decide) u2 rfl rfl dX6_row_22 ?_
    refine lv_if_le (tgt := 32) hx hb dX6_row_25 (by decide) (fun c_7 => ?_) (fun c_7 => ?_)
    · have hw := hw.1 c_7
      refine lv_aload_n hx hb dX6_row_32 rfl (lv_at hl 0 rfl) ?_
      refine cx_get (v := .ref (q 18)) hx hb hts iX6 hown hK hC 0 rfl rfl 28 (by decide) u3 rfl rfl dX6_row_33 ?_
      refine lv_iload_n hx hb dX6_row_36 rfl (lv_at hl 1 rfl) ?_
      refine cx_iald (f := s_5.2 17) hx hb hK hC 18 rfl hw.1 dX6_row_37 ?_
      have hw := hw.2
      exact cx_ret_i (u := ((va_up s_5.1 0 z_6), s_5.2)) hx hb hr hlocks hK hC hw dX6_row_38
    · have hw := hw.2 c_7
      refine lv_iconst (v := 0) hx hb dX6_row_28 (by decide) ?_
      refine lv_goto (tgt := 38) hx hb dX6_row_29 (by decide) ?_
      exact cx_ret_i (u := ((va_up s_5.1 0 z_6), s_5.2)) hx hb hr hlocks hK hC hw dX6_row_38
  have J13 : ∀ (x1_2 : Int32) (s_3 : St) (H : Heap) (locs : List Loc) (ls : Array Slot), w_X6_row_J13 post x1_2 s_3 → Cx D A s.heap (wM cI q s_3) H locs → lv_has ls 2 [(0, .ref (q 0)), (1, .int x1_2)] → W p l e (Rm 0 0) s m [.ref (q 0), .int x1].toArray below meth c H locs 0 0 (QI below D cI A (wM cI q) post [.ref (q 0), .int x1].toArray s) (F0 m 13 ls [.ref (q 0)]) := by
    intro x1_2 s_3  H locs ls hw hC hl
    refine lv_iconst (v := 1) hx hb dX6_row_13 (by decide) ?_
    refine lv_goto (tgt := 18) hx hb dX6_row_14 (by decide) ?_
    exact J18 x1_2 1 s_3   _ _ _ hw hC (lv_sub hl [0, 1] rfl)
  refine lv_aload_n hx hb dX6_row_0 rfl (lv_at hl 0 rfl) ?_
  refine lv_iload_n hx hb dX6_row_1 rfl (lv_at hl 1 rfl) ?_
  refine lv_if_lt (tgt := 13) hx hb dX6_row_2 (by decide) (fun c_1 => ?_) (fun c_1 => ?_)
  · have hw := hw.1 c_1
    exact J13 x1 σ   _ _ _ hw hC (lv_sub hl [0, 1] rfl)
  · have hw := hw.2 c_1
    refine lv_iload_n hx hb dX6_row_5 rfl (lv_at hl 1 rfl) ?_
    refine lv_aload_n hx hb dX6_row_6 rfl (lv_at hl 0 rfl) ?_
    refine cx_get (v := .int (σ.1 9)) hx hb hts iX6 hown hK hC 0 rfl rfl 25 (by decide) u1 rfl rfl dX6_row_7 ?_
    refine lv_icmp_lt (tgt := 17) hx hb dX6_row_10 (by decide) (fun c_8 => ?_) (fun c_8 => ?_)
    · have hw := hw.1 c_8
      refine lv_iconst (v := 0) hx hb dX6_row_17 (by decide) ?_
      exact J18 x1 0 σ   _ _ _ hw hC (lv_sub hl [0, 1] rfl)
    · have hw := hw.2 c_8
      exact J13 x1 σ   _ _ _ hw hC (lv_sub hl [0, 1] rfl)

/-! PictureHeapModel.thrown()I (X6_thrown) -/
set_option maxHeartbeats 1000000 in
set_option maxRecDepth 100000 in
theorem c_X6_thrown (l : Launch) (D : va_G) (cI : ClassId) (q : Nat → Nat) (sz : Nat) (σ : St) (post : Int32 → St → Prop) (hw : w_X6_thrown σ post) : Ci l yX6_thrown wsX6_thrown 0 0 D cI (wM cI q σ) sz [.ref (q 0)] (wM cI q) post := by
  refine mo_i (cc := cX6_thrown) (maxL := 1) (ret := (some .int)) (by decide) rfl (Nat.le_of_ble_eq_true rfl) ?_
  intro p e s m below meth c hx hb hr hml hts hown hlocks hK A hA hC ls hl
  have hown : s.vm.findClass RX6 = some m.cls := hown
  have hl : lv_has ls 1 [(0, .ref (q 0))] := hl
  have u1 : (Cond.fieldLink RX6 74 "PictureHeapModel" "thrown" "I").before [.ref (q 0)].toArray s = true := hts _ (List.mem_of_getElem? (i := 1) rfl)
  have iX6 : ∀ w ∈ wsX60, w ∈ wsX6_thrown := fun _ h => List.mem_cons_of_mem _ (List.mem_append_right _ h)
  refine lv_aload_n hx hb dX6_thrown_0 rfl (lv_at hl 0 rfl) ?_
  refine cx_get (v := .int (σ.1 0)) hx hb hts iX6 hown hK hC 0 rfl rfl 0 (by decide) u1 rfl rfl dX6_thrown_1 ?_
  exact cx_ret_i (u := σ) hx hb hr hlocks hK hC hw dX6_thrown_4
