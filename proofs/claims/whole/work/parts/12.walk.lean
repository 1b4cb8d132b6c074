/-! PictureHeap$Timeline.settle(ILPictureHeap$Offsets;)V (X4_settle_a6) -/
set_option maxHeartbeats 1000000 in
set_option maxRecDepth 100000 in
theorem c_X4_settle_a6 (l : Launch) (D : va_G) (cI : ClassId) (q : Nat → Nat) (sz : Nat) (σ : St) (x1 : Int32) (post : St → Prop) (hw : w_X4_settle_a6 σ x1 post) : Cv l yX4_settle wsX4_settle 1 22 D cI (wX cI q σ) sz [.ref (q 4), .int x1, .ref (q 6)] (wX cI q) post := by
  refine mo_v (cc := cX4_settle) (maxL := 7) (ret := none) (by decide) rfl (Nat.le_of_ble_eq_true rfl) ?_
  intro p e s m below meth c hx hb hr hml hts hown hlocks hK A hA hC ls hl
  have hown : s.vm.findClass RX4 = some m.cls := hown
  have hl : lv_has ls 7 [(0, .ref (q 4)), (1, .int x1), (2, .ref (q 6))] := hl
  have u1 : (Cond.fieldLink RX4 21 "PictureHeap$Timeline" "isPut" "Z").before [.ref (q 4), .int x1, .ref (q 6)].toArray s = true := hts _ (List.mem_of_getElem? (i := 1) rfl)
  have u2 : (Cond.fieldLink RX4 29 "PictureHeap$Timeline" "cameras" "I").before [.ref (q 4), .int x1, .ref (q 6)].toArray s = true := hts _ (List.mem_of_getElem? (i := 2) rfl)
  have u3 : (Cond.fieldLink RX4 9 "PictureHeap$Timeline" "offsetOf" "[I").before [.ref (q 4), .int x1, .ref (q 6)].toArray s = true := hts _ (List.mem_of_getElem? (i := 3) rfl)
  have u4 : (Cond.methodLink RX4 41 Lib.Math.max.name).before [.ref (q 4), .int x1, .ref (q 6)].toArray s = true := hts _ (List.mem_of_getElem? (i := 4) rfl)
  have u5 : (Cond.static Lib.Math.max.name).before [.ref (q 4), .int x1, .ref (q 6)].toArray s = true := hts _ (List.mem_of_getElem? (i := 5) rfl)
  have u6 : (Cond.initialized "java/lang/Math").before [.ref (q 4), .int x1, .ref (q 6)].toArray s = true := hts _ (List.mem_of_getElem? (i := 6) rfl)
  have u7 : (Cond.code Lib.Math.max.name Lib.Math.max.code 2 (some .int)).before [.ref (q 4), .int x1, .ref (q 6)].toArray s = true := hts _ (List.mem_of_getElem? (i := 7) rfl)
  have u8 : (Cond.methodLink RX4 46 Lib.Math.min.name).before [.ref (q 4), .int x1, .ref (q 6)].toArray s = true := hts _ (List.mem_of_getElem? (i := 8) rfl)
  have u9 : (Cond.static Lib.Math.min.name).before [.ref (q 4), .int x1, .ref (q 6)].toArray s = true := hts _ (List.mem_of_getElem? (i := 9) rfl)
  have u10 : (Cond.code Lib.Math.min.name Lib.Math.min.code 2 (some .int)).before [.ref (q 4), .int x1, .ref (q 6)].toArray s = true := hts _ (List.mem_of_getElem? (i := 10) rfl)
  have iX4 : ∀ w ∈ wsX40, w ∈ wsX4_settle := fun _ h => List.mem_cons_of_mem _ (List.mem_append_left _ (List.mem_append_right _ h))
  have L46 : ∀ (x3_8 : Int32) (K : Int32 → Int32 → Int32 → St → Prop) (hKK : ∀ (x4_9 : Int32) (x5_10 : Int32) (x6_11 : Int32) (s_12 : St) (H : Heap) (locs : List Loc) (ls : Array Slot), K x4_9 x5_10 x6_11 s_12 → Cx D A s.heap (wX cI q s_12) H locs → lv_has ls 7 [(0, .ref (q 4)), (2, .ref (q 6)), (3, .int x3_8), (4, .int x4_9), (5, .int x5_10), (6, .int x6_11)] → W p l e (Rm 1 22) s m [.ref (q 4), .int x1, .ref (q 6)].toArray below meth c H locs 0 0 (QV below D cI A (wX cI q) post [.ref (q 4), .int x1, .ref (q 6)].toArray s) (F0 m 102 ls [])) (n : Nat), ∀ (x4_9 : Int32) (x5_10 : Int32) (x6_11 : Int32) (s_12 : St) (H : Heap) (locs : List Loc) (ls : Array Slot), w_X4_settle_a6_L46 x3_8 post K n x4_9 x5_10 x6_11 s_12 → Cx D A s.heap (wX cI q s_12) H locs → lv_has ls 7 [(0, .ref (q 4)), (2, .ref (q 6)), (3, .int x3_8), (4, .int x4_9), (5, .int x5_10), (6, .int x6_11)] → W p l e (Rm 1 22) s m [.ref (q 4), .int x1, .ref (q 6)].toArray below meth c H locs 0 0 (QV below D cI A (wX cI q) post [.ref (q 4), .int x1, .ref (q 6)].toArray s) (F0 m 46 ls []) := by
    intro x3_8 K hKK n
    induction n with
    | zero => intro x4_9 x5_10 x6_11 s_12 H locs ls hw; exact hw.elim
    | succ n ih =>
      intro x4_9 x5_10 x6_11 s_12 H locs ls hw hC hl
      refine lv_iload hx hb dX4_settle_46 (lv_at hl 5 rfl) ?_
      refine lv_iload_n hx hb dX4_settle_48 rfl (lv_at hl 2 rfl) ?_
      refine lv_icmp_ge (tgt := 102) hx hb dX4_settle_49 (by decide) (fun c_13 => ?_) (fun c_13 => ?_)
      · have hw := hw.1 c_13
        exact hKK x4_9 x5_10 x6_11 s_12 _ _ _ hw hC (lv_sub hl [0, 1, 2, 3, 4, 5] rfl)
      · have hw := hw.2 c_13
        refine lv_iload hx hb dX4_settle_52 (lv_at hl 3 rfl) ?_
        refine lv_aload_n hx hb dX4_settle_54 rfl (lv_at hl 0 rfl) ?_
        refine cx_get (v := .ref (q 19)) hx hb hts iX4 hown hK hC 4 rfl rfl 0 (by decide) u3 rfl rfl dX4_settle_55 ?_
        refine lv_iload hx hb dX4_settle_58 (lv_at hl 5 rfl) ?_
        refine cx_iald (f := s_12.2 12) hx hb hK hC 19 rfl hw.1 dX4_settle_60 ?_
        have hw := hw.2
        refine lv_aload_n hx hb dX4_settle_61 rfl (lv_at hl 1 rfl) ?_
        refine lv_iload hx hb dX4_settle_62 (lv_at hl 5 rfl) ?_
        refine lv_iload_n hx hb dX4_settle_64 rfl (lv_at hl 2 rfl) ?_
        refine cx_callVi (As := [.int x6_11, .int x3_8]) (rest := [.int (s_12.2 12 (Int32.toNatClampNeg x6_11)), .int x4_9]) (ws' := fun u_15 => (wX cI q (s_12.1, (va_up s_12.2 16 u_15)))) ⟨hx, hb, hml, hown, hts⟩ (c_X2_least l D cI (q 6) (q 23) _ (s_12.2 16) x6_11 x3_8 _ hw) (cwV 2 hts gX4_settle_X2_least rfl rfl rfl (by decide +kernel) ⟨Nat.le_of_ble_eq_true rfl, Nat.le_of_ble_eq_true rfl⟩) hK hC hA [6, 23] [0, 1, 2, 3, 4, 5, 7, 8, 9, 10, 11, 12, 13, 14, 15, 16, 17, 18, 19, 20, 21, 22] (by decide) rfl (wr := [_, _, _, _, _, _, _, _, _, _, _, _, _, _, _, _, _, _, _, _, _, _]) rfl (by decide) (by decide) 6 rfl rfl rfl rfl hl.1 rfl (Nat.le_of_ble_eq_true rfl) dX4_settle_65 ⟨Nat.zero_le _, Nat.zero_le _⟩ [0, 1, 2, 3, 4, 5, 22, 6, 7, 8, 9, 10, 11, 12, 13, 14, 15, 16, 17, 18, 19, 20, 21, 23] (by decide) (fun _ => rfl) (fun r_14 u_15 H locs hw hC => ?_)
        refine lv_iadd hx hb dX4_settle_68 ?_
        refine va_mmax hx hb (hml.trans hl.1.symm) hown u4 u5 u6 u7 (Nat.le_of_ble_eq_true rfl) (Nat.le_of_ble_eq_true rfl) (Nat.le_refl 0) (Nat.le_refl 0) dX4_settle_69 ?_
        refine lv_istore (lv' := [(4, .int (if x4_9 < ((s_12.2 12 (Int32.toNatClampNeg x6_11)) + r_14) then ((s_12.2 12 (Int32.toNatClampNeg x6_11)) + r_14) else x4_9)), (0, .ref (q 4)), (2, .ref (q 6)), (3, .int x3_8), (5, .int x5_10), (6, .int x6_11)]) hx hb dX4_settle_72 hl (by decide) rfl (fun ls hl => ?_)
        refine lv_iload hx hb dX4_settle_74 (lv_at hl 4 rfl) ?_
        refine lv_aload_n hx hb dX4_settle_76 rfl (lv_at hl 1 rfl) ?_
        refine cx_get (v := .ref (q 19)) hx hb hts iX4 hown hK hC 4 rfl rfl 0 (by decide) u3 rfl rfl dX4_settle_77 ?_
        refine lv_iload hx hb dX4_settle_80 (lv_at hl 5 rfl) ?_
        refine cx_iald (f := s_12.2 12) hx hb hK hC 19 rfl hw.1 dX4_settle_82 ?_
        have hw := hw.2
        refine lv_aload_n hx hb dX4_settle_83 rfl (lv_at hl 2 rfl) ?_
        refine lv_iload hx hb dX4_settle_84 (lv_at hl 5 rfl) ?_
        refine lv_iload_n hx hb dX4_settle_86 rfl (lv_at hl 3 rfl) ?_
        refine cx_callVi (As := [.int x6_11, .int x3_8]) (rest := [.int (s_12.2 12 (Int32.toNatClampNeg x6_11)), .int x5_10]) (ws' := fun u_17 => (wX cI q (s_12.1, (va_up (va_up s_12.2 16 u_15) 16 u_17)))) ⟨hx, hb, hml, hown, hts⟩ (c_X2_most l D cI (q 6) (q 23) _ (u_15) x6_11 x3_8 _ hw) (cwV 2 hts gX4_settle_X2_most rfl rfl rfl (by decide +kernel) ⟨Nat.le_of_ble_eq_true rfl, Nat.le_of_ble_eq_true rfl⟩) hK hC hA [6, 23] [0, 1, 2, 3, 4, 5, 7, 8, 9, 10, 11, 12, 13, 14, 15, 16, 17, 18, 19, 20, 21, 22] (by decide) rfl (wr := [_, _, _, _, _, _, _, _, _, _, _, _, _, _, _, _, _, _, _, _, _, _]) rfl (by decide) (by decide) 6 rfl rfl rfl rfl hl.1 rfl (Nat.le_of_ble_eq_true rfl) dX4_settle_87 ⟨Nat.zero_le _, Nat.zero_le _⟩ [0, 1, 2, 3, 4, 5, 22, 6, 7, 8, 9, 10, 11, 12, 13, 14, 15, 16, 17, 18, 19, 20, 21, 23] (by decide) (fun _ => rfl) (fun r_16 u_17 H locs hw hC => ?_)
        refine lv_iadd hx hb dX4_settle_90 ?_
        refine va_mmin hx hb (hml.trans hl.1.symm) hown u8 u9 u6 u10 (Nat.le_of_ble_eq_true rfl) (Nat.le_of_ble_eq_true rfl) (Nat.le_refl 0) (Nat.le_refl 0) dX4_settle_91 ?_
        refine lv_istore (lv' := [(5, .int (if ((s_12.2 12 (Int32.toNatClampNeg x6_11)) + r_16) < x5_10 then ((s_12.2 12 (Int32.toNatClampNeg x6_11)) + r_16) else x5_10)), (4, .int (if x4_9 < ((s_12.2 12 (Int32.toNatClampNeg x6_11)) + r_14) then ((s_12.2 12 (Int32.toNatClampNeg x6_11)) + r_14) else x4_9)), (0, .ref (q 4)), (2, .ref (q 6)), (3, .int x3_8), (6, .int x6_11)]) hx hb dX4_settle_94 hl (by decide) rfl (fun ls hl => ?_)
        refine lv_iinc (v := (x6_11 + 1)) (lv' := [(6, .int (x6_11 + 1)), (5, .int (if ((s_12.2 12 (Int32.toNatClampNeg x6_11)) + r_16) < x5_10 then ((s_12.2 12 (Int32.toNatClampNeg x6_11)) + r_16) else x5_10)), (4, .int (if x4_9 < ((s_12.2 12 (Int32.toNatClampNeg x6_11)) + r_14) then ((s_12.2 12 (Int32.toNatClampNeg x6_11)) + r_14) else x4_9)), (0, .ref (q 4)), (2, .ref (q 6)), (3, .int x3_8)]) hx hb dX4_settle_96 hl (k := 5) rfl rfl (by decide) rfl (fun ls hl => ?_)
        refine lv_goto (tgt := 46) hx hb dX4_settle_99 (by decide) ?_
        exact ih (if x4_9 < ((s_12.2 12 (Int32.toNatClampNeg x6_11)) + r_14) then ((s_12.2 12 (Int32.toNatClampNeg x6_11)) + r_14) else x4_9) (if ((s_12.2 12 (Int32.toNatClampNeg x6_11)) + r_16) < x5_10 then ((s_12.2 12 (Int32.toNatClampNeg x6_11)) + r_16) else x5_10) (x6_11 + 1) (s_12.1, (va_up (va_up s_12.2 16 u_15) 16 u_17)) _ _ _ hw hC (lv_sub hl [3, 4, 5, 2, 1, 0] rfl)
  have L19 : ∀ (K : Int32 → St → Prop) (hKK : ∀ (x3_1 : Int32) (s_2 : St) (H : Heap) (locs : List Loc) (ls : Array Slot), K x3_1 s_2 → Cx D A s.heap (wX cI q s_2) H locs → lv_has ls 7 [(0, .ref (q 4)), (2, .ref (q 6)), (3, .int x3_1)] → W p l e (Rm 1 22) s m [.ref (q 4), .int x1, .ref (q 6)].toArray below meth c H locs 0 0 (QV below D cI A (wX cI q) post [.ref (q 4), .int x1, .ref (q 6)].toArray s) (F0 m 130 ls [])) (n : Nat), ∀ (x3_1 : Int32) (s_2 : St) (H : Heap) (locs : List Loc) (ls : Array Slot), w_X4_settle_a6_L19 post K n x3_1 s_2 → Cx D A s.heap (wX cI q s_2) H locs → lv_has ls 7 [(0, .ref (q 4)), (2, .ref (q 6)), (3, .int x3_1)] → W p l e (Rm 1 22) s m [.ref (q 4), .int x1, .ref (q 6)].toArray below meth c H locs 0 0 (QV below D cI A (wX cI q) post [.ref (q 4), .int x1, .ref (q 6)].toArray s) (F0 m 19 ls []) := by
    intro  K hKK n
    induction n with
    | zero => intro x3_1 s_2 H locs ls hw; exact hw.elim
    | succ n ih =>
      intro x3_1 s_2 H locs ls hw hC hl
      refine lv_iload_n hx hb dX4_settle_19 rfl (lv_at hl 2 rfl) ?_
      refine lv_aload_n hx hb dX4_settle_20 rfl (lv_at hl 0 rfl) ?_
      refine cx_get (v := .int (s_2.1 10)) hx hb hts iX4 hown hK hC 4 rfl rfl 5 (by decide) u2 rfl rfl dX4_settle_21 ?_
      refine lv_icmp_ge (tgt := 130) hx hb dX4_settle_24 (by decide) (fun c_3 => ?_) (fun c_3 => ?_)
      · have hw := hw.1 c_3
        exact hKK x3_1 s_2 _ _ _ hw hC (lv_sub hl [0, 1, 2] rfl)
      · have hw := hw.2 c_3
        refine lv_aload_n hx hb dX4_settle_27 rfl (lv_at hl 1 rfl) ?_
        refine lv_iconst (v := 0) hx hb dX4_settle_28 (by decide) ?_
        refine lv_iload_n hx hb dX4_settle_29 rfl (lv_at hl 2 rfl) ?_
        refine cx_callVi (As := [.int 0, .int x3_1]) (rest := []) (ws' := fun u_5 => (wX cI q (s_2.1, (va_up s_2.2 16 u_5)))) ⟨hx, hb, hml, hown, hts⟩ (c_X2_least l D cI (q 6) (q 23) _ (s_2.2 16) 0 x3_1 _ hw) (cwV 2 hts gX4_settle_X2_least rfl rfl rfl (by decide +kernel) ⟨Nat.le_of_ble_eq_true rfl, Nat.le_of_ble_eq_true rfl⟩) hK hC hA [6, 23] [0, 1, 2, 3, 4, 5, 7, 8, 9, 10, 11, 12, 13, 14, 15, 16, 17, 18, 19, 20, 21, 22] (by decide) rfl (wr := [_, _, _, _, _, _, _, _, _, _, _, _, _, _, _, _, _, _, _, _, _, _]) rfl (by decide) (by decide) 6 rfl rfl rfl rfl hl.1 rfl (Nat.le_of_ble_eq_true rfl) dX4_settle_30 ⟨Nat.zero_le _, Nat.zero_le _⟩ [0, 1, 2, 3, 4, 5, 22, 6, 7, 8, 9, 10, 11, 12, 13, 14, 15, 16, 17, 18, 19, 20, 21, 23] (by decide) (fun _ => rfl) (fun r_4 u_5 H locs hw hC => ?_)
        refine lv_istore (lv' := [(4, .int r_4), (0, .ref (q 4)), (2, .ref (q 6)), (3, .int x3_1)]) hx hb dX4_settle_33 hl (by decide) rfl (fun ls hl => ?_)
        refine lv_aload_n hx hb dX4_settle_35 rfl (lv_at hl 2 rfl) ?_
        refine lv_iconst (v := 0) hx hb dX4_settle_36 (by decide) ?_
        refine lv_iload_n hx hb dX4_settle_37 rfl (lv_at hl 3 rfl) ?_
        refine cx_callVi (As := [.int 0, .int x3_1]) (rest := []) (ws' := fun u_7 => (wX cI q (s_2.1, (va_up (va_up s_2.2 16 u_5) 16 u_7)))) ⟨hx, hb, hml, hown, hts⟩ (c_X2_most l D cI (q 6) (q 23) _ (u_5) 0 x3_1 _ hw) (cwV 2 hts gX4_settle_X2_most rfl rfl rfl (by decide +kernel) ⟨Nat.le_of_ble_eq_true rfl, Nat.le_of_ble_eq_true rfl⟩) hK hC hA [6, 23] [0, 1, 2, 3, 4, 5, 7, 8, 9, 10, 11, 12, 13, 14, 15, 16, 17, 18, 19, 20, 21, 22] (by decide) rfl (wr := [_, _, _, _, _, _, _, _, _, _, _, _, _, _, _, _, _, _, _, _, _, _]) rfl (by decide) (by decide) 6 rfl rfl rfl rfl hl.1 rfl (Nat.le_of_ble_eq_true rfl) dX4_settle_38 ⟨Nat.zero_le _, Nat.zero_le _⟩ [0, 1, 2, 3, 4, 5, 22, 6, 7, 8, 9, 10, 11, 12, 13, 14, 15, 16, 17, 18, 19, 20, 21, 23] (by decide) (fun _ => rfl) (fun r_6 u_7 H locs hw hC => ?_)
        refine lv_istore (lv' := [(5, .int r_6), (4, .int r_4), (0, .ref (q 4)), (2, .ref (q 6)), (3, .int x3_1)]) hx hb dX4_settle_41 hl (by decide) rfl (fun ls hl => ?_)
        refine lv_iconst (v := 1) hx hb dX4_settle_43 (by decide) ?_
        refine lv_istore (lv' := [(6, .int 1), (5, .int r_6), (4, .int r_4), (0, .ref (q 4)), (2, .ref (q 6)), (3, .int x3_1)]) hx hb dX4_settle_44 hl (by decide) rfl (fun ls hl => ?_)
        obtain ⟨n, hw⟩ := hw
        refine L46 x3_1 _ (fun x4_18 x5_19 x6_20 s_21 H locs ls hw hC hl => ?_) n r_4 r_6 1 (s_2.1, (va_up (va_up s_2.2 16 u_5) 16 u_7)) _ _ _ hw hC (lv_sub hl [3, 4, 5, 2, 1, 0] rfl)
        refine lv_aload_n hx hb dX4_settle_102 rfl (lv_at hl 0 rfl) ?_
        refine cx_get (v := .ref (q 19)) hx hb hts iX4 hown hK hC 4 rfl rfl 0 (by decide) u3 rfl rfl dX4_settle_103 ?_
        refine lv_iload_n hx hb dX4_settle_106 rfl (lv_at hl 2 rfl) ?_
        refine lv_iload hx hb dX4_settle_107 (lv_at hl 3 rfl) ?_
        refine lv_if_le (tgt := 117) hx hb dX4_settle_109 (by decide) (fun c_22 => ?_) (fun c_22 => ?_)
        · have hw := hw.1 c_22
          refine lv_iload hx hb dX4_settle_117 (lv_at hl 4 rfl) ?_
          refine lv_iconst (v := 0) hx hb dX4_settle_119 (by decide) ?_
          refine va_mmin hx hb (hml.trans hl.1.symm) hown u8 u9 u6 u10 (Nat.le_of_ble_eq_true rfl) (Nat.le_of_ble_eq_true rfl) (Nat.le_refl 0) (Nat.le_refl 0) dX4_settle_120 ?_
          refine cx_iast (f := s_21.2 12) hx hb hK hC 19 rfl hw.1 dX4_settle_123 (ws' := (wX cI q (s_21.1, (va_up s_21.2 12 (upd (s_21.2 12) (Int32.toNatClampNeg x3_1) (if 0 < x5_19 then 0 else x5_19)))))) (wX_a12 cI q _ _) (fun H locs hC => ?_)
          have hw := hw.2
          refine lv_iinc (v := (x3_1 + 1)) (lv' := [(3, .int (x3_1 + 1)), (0, .ref (q 4)), (2, .ref (q 6)), (4, .int x4_18), (5, .int x5_19), (6, .int x6_20)]) hx hb dX4_settle_124 hl (k := 2) rfl rfl (by decide) rfl (fun ls hl => ?_)
          refine lv_goto (tgt := 19) hx hb dX4_settle_127 (by decide) ?_
          exact ih (x3_1 + 1) (s_21.1, (va_up s_21.2 12 (upd (s_21.2 12) (Int32.toNatClampNeg x3_1) (if 0 < x5_19 then 0 else x5_19)))) _ _ _ hw hC (lv_sub hl [1, 2, 0] rfl)
        · have hw := hw.2 c_22
          refine lv_iload hx hb dX4_settle_112 (lv_at hl 3 rfl) ?_
          refine lv_goto (tgt := 123) hx hb dX4_settle_114 (by decide) ?_
          refine cx_iast (f := s_21.2 12) hx hb hK hC 19 rfl hw.1 dX4_settle_123 (ws' := (wX cI q (s_21.1, (va_up s_21.2 12 (upd (s_21.2 12) (Int32.toNatClampNeg x3_1) x4_18))))) (wX_a12 cI q _ _) (fun H locs hC => ?_)
          have hw := hw.2
          refine lv_iinc (v := (x3_1 + 1)) (lv' := [(3, .int (x3_1 + 1)), (0, .ref (q 4)), (2, .ref (q 6)), (4, .int x4_18), (5, .int x5_19), (6, .int x6_20)]) hx hb dX4_settle_124 hl (k := 2) rfl rfl (by decide) rfl (fun ls hl => ?_)
          refine lv_goto (tgt := 19) hx hb dX4_settle_127 (by decide) ?_
          exact ih (x3_1 + 1) (s_21.1, (va_up s_21.2 12 (upd (s_21.2 12) (Int32.toNatClampNeg x3_1) x4_18))) _ _ _ hw hC (lv_sub hl [1, 2, 0] rfl)
  refine lv_aload_n hx hb dX4_settle_0 rfl (lv_at hl 0 rfl) ?_
  refine lv_iconst (v := 1) hx hb dX4_settle_1 (by decide) ?_
  refine cx_put (v := .int 1) hx hb hts iX4 tyX4 tyX4_ok nmX4 hown hK hC 4 rfl rfl 3 (by decide) u1 rfl rfl (tyX4_ok 3 (by decide)) rfl rfl (Nat.le_of_ble_eq_true rfl) dX4_settle_2 (ws' := (wX cI q ((va_up σ.1 8 1), σ.2))) (wX_i8 cI q _ _) (fun H locs hC => ?_)
  refine lv_aload_n hx hb dX4_settle_5 rfl (lv_at hl 0 rfl) ?_
  refine lv_iload_n hx hb dX4_settle_6 rfl (lv_at hl 1 rfl) ?_
  refine cx_put (v := .int x1) hx hb hts iX4 tyX4 tyX4_ok nmX4 hown hK hC 4 rfl rfl 5 (by decide) u2 rfl rfl (tyX4_ok 5 (by decide)) rfl rfl (Nat.le_of_ble_eq_true rfl) dX4_settle_7 (ws' := (wX cI q ((va_up (va_up σ.1 8 1) 10 x1), σ.2))) (wX_i10 cI q _ _) (fun H locs hC => ?_)
  refine lv_aload_n hx hb dX4_settle_10 rfl (lv_at hl 0 rfl) ?_
  refine cx_get (v := .ref (q 19)) hx hb hts iX4 hown hK hC 4 rfl rfl 0 (by decide) u3 rfl rfl dX4_settle_11 ?_
  refine lv_iconst (v := 0) hx hb dX4_settle_14 (by decide) ?_
  refine lv_iconst (v := 0) hx hb dX4_settle_15 (by decide) ?_
  refine cx_iast (f := σ.2 12) hx hb hK hC 19 rfl hw.1 dX4_settle_16 (ws' := (wX cI q ((va_up (va_up σ.1 8 1) 10 x1), (va_up σ.2 12 (upd (σ.2 12) (Int32.toNatClampNeg 0) 0))))) (wX_a12 cI q _ _) (fun H locs hC => ?_)
  have hw := hw.2
  refine lv_iconst (v := 1) hx hb dX4_settle_17 (by decide) ?_
  refine lv_istore_n (lv' := [(3, .int 1), (0, .ref (q 4)), (1, .int x1), (2, .ref (q 6))]) hx hb dX4_settle_18 rfl hl (by decide) rfl (fun ls hl => ?_)
  obtain ⟨n, hw⟩ := hw
  refine L19  _ (fun x3_24 s_25 H locs ls hw hC hl => ?_) n 1 ((va_up (va_up σ.1 8 1) 10 x1), (va_up σ.2 12 (upd (σ.2 12) (Int32.toNatClampNeg 0) 0))) _ _ _ hw hC (lv_sub hl [1, 3, 0] rfl)
  exact cx_ret_v (u := s_25) hx hb hr hlocks hK hC hw dX4_settle_130

/-! PictureHeap$Timeline.comesAfter(IILPictureHeap$Album;)Z (X4_comesAfter) -/
set_option maxHeartbeats 1000000 in
set_option maxRecDepth 100000 in
theorem c_X4_comesAfter (l : Launch) (D : va_G) (cI : ClassId) (q : Nat → Nat) (sz : Nat) (σ : St) (x1 : Int32) (x2 : Int32) (post : Int32 → St → Prop) (hw : w_X4_comesAfter σ x1 x2 post) : Ci l yX4_comesAfter wsX4_comesAfter 0 0 D cI (wX cI q σ) sz [.ref (q 4), .int x1, .int x2, .ref (q 1)] (wX cI q) post := by
  refine mo_i (cc := cX4_comesAfter) (maxL := 4) (ret := (some .boolean)) (by decide) rfl (Nat.le_of_ble_eq_true rfl) ?_
  intro p e s m below meth c hx hb hr hml hts hown hlocks hK A hA hC ls hl
  have hown : s.vm.findClass RX4 = some m.cls := hown
  have hl : lv_has ls 4 [(0, .ref (q 4)), (1, .int x1), (2, .int x2), (3, .ref (q 1))] := hl
  have u1 : (Cond.fieldLink RX4 15 "PictureHeap$Timeline" "timeOf" "[I").before [.ref (q 4), .int x1, .int x2, .ref (q 1)].toArray s = true := hts _ (List.mem_of_getElem? (i := 1) rfl)
  have u2 : (Cond.fieldLink RX4 55 "PictureHeap$Album" "cameraOf" "[I").before [.ref (q 4), .int x1, .int x2, .ref (q 1)].toArray s = true := hts _ (List.mem_of_getElem? (i := 2) rfl)
  have iX0 : ∀ w ∈ wsX00, w ∈ wsX4_comesAfter := fun _ h => List.mem_cons_of_mem _ (List.mem_append_right _ h)
  have iX4 : ∀ w ∈ wsX40, w ∈ wsX4_comesAfter := fun _ h => List.mem_cons_of_mem _ (List.mem_append_left _ (List.mem_append_right _ h))
  refine lv_aload_n hx hb dX4_comesAfter_0 rfl (lv_at hl 0 rfl) ?_
  refine cx_get (v := .ref (q 20)) hx hb hts iX4 hown hK hC 4 rfl rfl 1 (by decide) u1 rfl rfl dX4_comesAfter_1 ?_
  refine lv_iload_n hx hb dX4_comesAfter_4 rfl (lv_at hl 1 rfl) ?_
  refine cx_iald (f := σ.2 13) hx hb hK hC 20 rfl hw.1 dX4_comesAfter_5 ?_
  have hw := hw.2
  refine lv_aload_n hx hb dX4_comesAfter_6 rfl (lv_at hl 0 rfl) ?_
  refine cx_get (v := .ref (q 20)) hx hb hts iX4 hown hK hC 4 rfl rfl 1 (by decide) u1 rfl rfl dX4_comesAfter_7 ?_
  refine lv_iload_n hx hb dX4_comesAfter_10 rfl (lv_at hl 2 rfl) ?_
  refine cx_iald (f := σ.2 13) hx hb hK hC 20 rfl hw.1 dX4_comesAfter_11 ?_
  have hw := hw.2
  refine lv_icmp_eq (tgt := 36) hx hb dX4_comesAfter_12 (by decide) (fun c_1 => ?_) (fun c_1 => ?_)
  · have hw := hw.1 c_1
    refine lv_aload_n hx hb dX4_comesAfter_36 rfl (lv_at hl 3 rfl) ?_
    refine cx_get (v := .ref (q 7)) hx hb hts iX0 hown hK hC 1 rfl rfl 0 (by decide) u2 rfl rfl dX4_comesAfter_37 ?_
    refine lv_iload_n hx hb dX4_comesAfter_40 rfl (lv_at hl 1 rfl) ?_
    refine cx_iald (f := σ.2 0) hx hb hK hC 7 rfl hw.1 dX4_comesAfter_41 ?_
    have hw := hw.2
    refine lv_aload_n hx hb dX4_comesAfter_42 rfl (lv_at hl 3 rfl) ?_
    refine cx_get (v := .ref (q 7)) hx hb hts iX0 hown hK hC 1 rfl rfl 0 (by decide) u2 rfl rfl dX4_comesAfter_43 ?_
    refine lv_iload_n hx hb dX4_comesAfter_46 rfl (lv_at hl 2 rfl) ?_
    refine cx_iald (f := σ.2 0) hx hb hK hC 7 rfl hw.1 dX4_comesAfter_47 ?_
    have hw := hw.2
    refine lv_icmp_le (tgt := 55) hx hb dX4_comesAfter_48 (by decide) (fun c_2 => ?_) (fun c_2 => ?_)
    · have hw := hw.1 c_2
      refine lv_iconst (v := 0) hx hb dX4_comesAfter_55 (by decide) ?_
      exact cx_ret_z (u := σ) hx hb hr hlocks hK hC rfl hw dX4_comesAfter_56
    · have hw := hw.2 c_2
      refine lv_iconst (v := 1) hx hb dX4_comesAfter_51 (by decide) ?_
      refine lv_goto (tgt := 56) hx hb dX4_comesAfter_52 (by decide) ?_
      exact cx_ret_z (u := σ) hx hb hr hlocks hK hC rfl hw dX4_comesAfter_56
  · have hw := hw.2 c_1
    refine lv_aload_n hx hb dX4_comesAfter_15 rfl (lv_at hl 0 rfl) ?_
    refine cx_get (v := .ref (q 20)) hx hb hts iX4 hown hK hC 4 rfl rfl 1 (by decide) u1 rfl rfl dX4_comesAfter_16 ?_
    refine lv_iload_n hx hb dX4_comesAfter_19 rfl (lv_at hl 1 rfl) ?_
    refine cx_iald (f := σ.2 13) hx hb hK hC 20 rfl hw.1 dX4_comesAfter_20 ?_
    have hw := hw.2
    refine lv_aload_n hx hb dX4_comesAfter_21 rfl (lv_at hl 0 rfl) ?_
    refine cx_get (v := .ref (q 20)) hx hb hts iX4 hown hK hC 4 rfl rfl 1 (by decide) u1 rfl rfl dX4_comesAfter_22 ?_
    refine lv_iload_n hx hb dX4_comesAfter_25 rfl (lv_at hl 2 rfl) ?_
    refine cx_iald (f := σ.2 13) hx hb hK hC 20 rfl hw.1 dX4_comesAfter_26 ?_
    have hw := hw.2
    refine lv_icmp_le (tgt := 34) hx hb dX4_comesAfter_27 (by decide) (fun c_3 => ?_) (fun c_3 => ?_)
    · have hw := hw.1 c_3
      refine lv_iconst (v := 0) hx hb dX4_comesAfter_34 (by decide) ?_
      exact cx_ret_z (u := σ) hx hb hr hlocks hK hC rfl hw dX4_comesAfter_35
    · have hw := hw.2 c_3
      refine lv_iconst (v := 1) hx hb dX4_comesAfter_30 (by decide) ?_
      refine lv_goto (tgt := 35) hx hb dX4_comesAfter_31 (by decide) ?_
      exact cx_ret_z (u := σ) hx hb hr hlocks hK hC rfl hw dX4_comesAfter_35

/-! PictureHeap$Timeline.line(LPictureHeap$Album;)V (X4_line) -/
set_option maxHeartbeats 1000000 in
set_option maxRecDepth 100000 in
theorem c_X4_line (l : Launch) (D : va_G) (cI : ClassId) (q : Nat → Nat) (sz : Nat) (σ : St) (post : St → Prop) (hw : w_X4_line σ post) : Cv l yX4_line wsX4_line 1 23 D cI (wX cI q σ) sz [.ref (q 4), .ref (q 1)] (wX cI q) post := by
  refine mo_v (cc := cX4_line) (maxL := 4) (ret := none) (by decide) rfl (Nat.le_of_ble_eq_true rfl) ?_
  intro p e s m below meth c hx hb hr hml hts hown hlocks hK A hA hC ls hl
  have hown : s.vm.findClass RX4 = some m.cls := hown
  have hl : lv_has ls 4 [(0, .ref (q 4)), (1, .ref (q 1))] := hl
  have u1 : (Cond.fieldLink RX4 49 "PictureHeap$Album" "size" "I").before [.ref (q 4), .ref (q 1)].toArray s = true := hts _ (List.mem_of_getElem? (i := 1) rfl)
  have u2 : (Cond.fieldLink RX4 25 "PictureHeap$Timeline" "size" "I").before [.ref (q 4), .ref (q 1)].toArray s = true := hts _ (List.mem_of_getElem? (i := 2) rfl)
  have u3 : (Cond.fieldLink RX4 15 "PictureHeap$Timeline" "timeOf" "[I").before [.ref (q 4), .ref (q 1)].toArray s = true := hts _ (List.mem_of_getElem? (i := 3) rfl)
  have u4 : (Cond.fieldLink RX4 52 "PictureHeap$Album" "clockOf" "[I").before [.ref (q 4), .ref (q 1)].toArray s = true := hts _ (List.mem_of_getElem? (i := 4) rfl)
  have u5 : (Cond.fieldLink RX4 9 "PictureHeap$Timeline" "offsetOf" "[I").before [.ref (q 4), .ref (q 1)].toArray s = true := hts _ (List.mem_of_getElem? (i := 5) rfl)
  have u6 : (Cond.fieldLink RX4 55 "PictureHeap$Album" "cameraOf" "[I").before [.ref (q 4), .ref (q 1)].toArray s = true := hts _ (List.mem_of_getElem? (i := 6) rfl)
  have u7 : (Cond.fieldLink RX4 18 "PictureHeap$Timeline" "sequence" "[I").before [.ref (q 4), .ref (q 1)].toArray s = true := hts _ (List.mem_of_getElem? (i := 7) rfl)
  have iX0 : ∀ w ∈ wsX00, w ∈ wsX4_line := fun _ h => List.mem_cons_of_mem _ (List.mem_append_left _ (List.mem_append_right _ h))
  have iX4 : ∀ w ∈ wsX40, w ∈ wsX4_line := fun _ h => List.mem_cons_of_mem _ (List.mem_append_right _ h)
  have L44 : ∀ (x2_4 : Int32) (K : Int32 → St → Prop) (hKK : ∀ (x3_5 : Int32) (s_6 : St) (H : Heap) (locs : List Loc) (ls : Array Slot), K x3_5 s_6 → Cx D A s.heap (wX cI q s_6) H locs → lv_has ls 4 [(0, .ref (q 4)), (1, .ref (q 1)), (2, .int x2_4), (3, .int x3_5)] → W p l e (Rm 1 23) s m [.ref (q 4), .ref (q 1)].toArray below meth c H locs 0 0 (QV below D cI A (wX cI q) post [.ref (q 4), .ref (q 1)].toArray s) (F0 m 85 ls [])) (n : Nat), ∀ (x3_5 : Int32) (s_6 : St) (H : Heap) (locs : List Loc) (ls : Array Slot), w_X4_line_L44 x2_4 post K n x3_5 s_6 → Cx D A s.heap (wX cI q s_6) H locs → lv_has ls 4 [(0, .ref (q 4)), (1, .ref (q 1)), (2, .int x2_4), (3, .int x3_5)] → W p l e (Rm 1 23) s m [.ref (q 4), .ref (q 1)].toArray below meth c H locs 0 0 (QV below D cI A (wX cI q) post [.ref (q 4), .ref (q 1)].toArray s) (F0 m 44 ls []) := by
    intro x2_4 K hKK n
    induction n with
    | zero => intro x3_5 s_6 H locs ls hw; exact hw.elim
    | succ n ih =>
      intro x3_5 s_6 H locs ls hw hC hl
      refine lv_iload_n hx hb dX4_line_44 rfl (lv_at hl 3 rfl) ?_
      refine lv_if_le (tgt := 85) hx hb dX4_line_45 (by decide) (fun c_7 => ?_) (fun c_7 => ?_)
      · have hw := hw.1 c_7
        exact hKK x3_5 s_6 _ _ _ hw hC (lv_sub hl [0, 1, 2, 3] rfl)
      · have hw := hw.2 c_7
        refine lv_aload_n hx hb dX4_line_48 rfl (lv_at hl 0 rfl) ?_
        refine lv_aload_n hx hb dX4_line_49 rfl (lv_at hl 0 rfl) ?_
        refine cx_get (v := .ref (q 21)) hx hb hts iX4 hown hK hC 4 rfl rfl 2 (by decide) u7 rfl rfl dX4_line_50 ?_
        refine lv_iload_n hx hb dX4_line_53 rfl (lv_at hl 3 rfl) ?_
        refine lv_iconst (v := 1) hx hb dX4_line_54 (by decide) ?_
        refine lv_isub hx hb dX4_line_55 ?_
        refine cx_iald (f := s_6.2 14) hx hb hK hC 21 rfl hw.1 dX4_line_56 ?_
        have hw := hw.2
        refine lv_iload_n hx hb dX4_line_57 rfl (lv_at hl 2 rfl) ?_
        refine lv_aload_n hx hb dX4_line_58 rfl (lv_at hl 1 rfl) ?_
        refine cx_callVi0 (As := [.int (s_6.2 14 (Int32.toNatClampNeg (x3_5 - 1))), .int x2_4, .ref (q 1)]) (rest := []) ⟨hx, hb, hml, hown, hts⟩ (c_X4_comesAfter l D cI q _ s_6 (s_6.2 14 (Int32.toNatClampNeg (x3_5 - 1))) x2_4 _ hw) (cwV 3 hts gX4_line_X4_comesAfter rfl rfl rfl (by decide +kernel) ⟨Nat.le_of_ble_eq_true rfl, Nat.le_of_ble_eq_true rfl⟩) hK hC hA 4 rfl rfl rfl rfl hl.1 rfl (Nat.le_of_ble_eq_true rfl) dX4_line_59 ⟨Nat.zero_le _, Nat.zero_le _⟩ (fun r_8 u_9 H locs hw hC => ?_)
        refine lv_if_eq (tgt := 85) hx hb dX4_line_62 (by decide) (fun c_10 => ?_) (fun c_10 => ?_)
        · have hw := hw.1 c_10
          exact hKK x3_5 u_9 _ _ _ hw hC (lv_sub hl [0, 1, 2, 3] rfl)
        · have hw := hw.2 c_10
          refine lv_aload_n hx hb dX4_line_65 rfl (lv_at hl 0 rfl) ?_
          refine cx_get (v := .ref (q 21)) hx hb hts iX4 hown hK hC 4 rfl rfl 2 (by decide) u7 rfl rfl dX4_line_66 ?_
          refine lv_iload_n hx hb dX4_line_69 rfl (lv_at hl 3 rfl) ?_
          refine lv_aload_n hx hb dX4_line_70 rfl (lv_at hl 0 rfl) ?_
          refine cx_get (v := .ref (q 21)) hx hb hts iX4 hown hK hC 4 rfl rfl 2 (by decide) u7 rfl rfl dX4_line_71 ?_
          refine lv_iload_n hx hb dX4_line_74 rfl (lv_at hl 3 rfl) ?_
          refine lv_iconst (v := 1) hx hb dX4_line_75 (by decide) ?_
          refine lv_isub hx hb dX4_line_76 ?_
          refine cx_iald (f := u_9.2 14) hx hb hK hC 21 rfl hw.1 dX4_line_77 ?_
          have hw := hw.2
          refine cx_iast (f := u_9.2 14) hx hb hK hC 21 rfl hw.1 dX4_line_78 (ws' := (wX cI q (u_9.1, (va_up u_9.2 14 (upd (u_9.2 14) (Int32.toNatClampNeg x3_5) (u_9.2 14 (Int32.toNatClampNeg (x3_5 - 1)))))))) (wX_a14 cI q _ _) (fun H locs hC => ?_)
          have hw := hw.2
          refine lv_iinc (v := (x3_5 + (-1))) (lv' := [(3, .int (x3_5 + (-1))), (0, .ref (q 4)), (1, .ref (q 1)), (2, .int x2_4)]) hx hb dX4_line_79 hl (k := 3) rfl rfl (by decide) rfl (fun ls hl => ?_)
          refine lv_goto (tgt := 44) hx hb dX4_line_82 (by decide) ?_
          exact ih (x3_5 + (-1)) (u_9.1, (va_up u_9.2 14 (upd (u_9.2 14) (Int32.toNatClampNeg x3_5) (u_9.2 14 (Int32.toNatClampNeg (x3_5 - 1)))))) _ _ _ hw hC (lv_sub hl [1, 2, 3, 0] rfl)
  have J85 : ∀ (x2_13 : Int32) (x3_14 : Int32) (s_15 : St) (K10 : Int32 → St → Prop) (hK10 : ∀ (x2 : Int32) (u : St) (H : Heap) (locs : List Loc) (ls : Array Slot), K10 x2 u → Cx D A s.heap (wX cI q u) H locs → lv_has ls 4 [(0, .ref (q 4)), (1, .ref (q 1)), (2, .int x2)] → W p l e (Rm 1 23) s m [.ref (q 4), .ref (q 1)].toArray below meth c H locs 0 0 (QV below D cI A (wX cI q) post [.ref (q 4), .ref (q 1)].toArray s) (F0 m 10 ls [])) (H : Heap) (locs : List Loc) (ls : Array Slot), w_X4_line_J85 post K10 x2_13 x3_14 s_15 → Cx D A s.heap (wX cI q s_15) H locs → lv_has ls 4 [(0, .ref (q 4)), (1, .ref (q 1)), (2, .int x2_13), (3, .int x3_14)] → W p l e (Rm 1 23) s m [.ref (q 4), .ref (q 1)].toArray below meth c H locs 0 0 (QV below D cI A (wX cI q) post [.ref (q 4), .ref (q 1)].toArray s) (F0 m 85 ls []) := by
    intro x2_13 x3_14 s_15 K10 hK10 H locs ls hw hC hl
    refine lv_aload_n hx hb dX4_line_85 rfl (lv_at hl 0 rfl) ?_
    refine cx_get (v := .ref (q 21)) hx hb hts iX4 hown hK hC 4 rfl rfl 2 (by decide) u7 rfl rfl dX4_line_86 ?_
    refine lv_iload_n hx hb dX4_line_89 rfl (lv_at hl 3 rfl) ?_
    refine lv_iload_n hx hb dX4_line_90 rfl (lv_at hl 2 rfl) ?_
    refine cx_iast (f := s_15.2 14) hx hb hK hC 21 rfl hw.1 dX4_line_91 (ws' := (wX cI q (s_15.1, (va_up s_15.2 14 (upd (s_15.2 14) (Int32.toNatClampNeg x3_14) x2_13))))) (wX_a14 cI q _ _) (fun H locs hC => ?_)
    have hw := hw.2
    refine lv_iinc (v := (x2_13 + 1)) (lv' := [(2, .int (x2_13 + 1)), (0, .ref (q 4)), (1, .ref (q 1)), (3, .int x3_14)]) hx hb dX4_line_92 hl (k := 2) rfl rfl (by decide) rfl (fun ls hl => ?_)
    refine lv_goto (tgt := 10) hx hb dX4_line_95 (by decide) ?_
    exact hK10 (x2_13 + 1) (s_15.1, (va_up s_15.2 14 (upd (s_15.2 14) (Int32.toNatClampNeg x3_14) x2_13))) _ _ _ hw hC (lv_sub hl [1, 2, 0] rfl)
  have L10 : ∀ (K : Int32 → St → Prop) (hKK : ∀ (x2_1 : Int32) (s_2 : St) (H : Heap) (locs : List Loc) (ls : Array Slot), K x2_1 s_2 → Cx D A s.heap (wX cI q s_2) H locs → lv_has ls 4 [(0, .ref (q 4)), (1, .ref (q 1)), (2, .int x2_1)] → W p l e (Rm 1 23) s m [.ref (q 4), .ref (q 1)].toArray below meth c H locs 0 0 (QV below D cI A (wX cI q) post [.ref (q 4), .ref (q 1)].toArray s) (F0 m 98 ls [])) (n : Nat), ∀ (x2_1 : Int32) (s_2 : St) (H : Heap) (locs : List Loc) (ls : Array Slot), w_X4_line_L10 post K n x2_1 s_2 → Cx D A s.heap (wX cI q s_2) H locs → lv_has ls 4 [(0, .ref (q 4)), (1, .ref (q 1)), (2, .int x2_1)] → W p l e (Rm 1 23) s m [.ref (q 4), .ref (q 1)].toArray below meth c H locs 0 0 (QV below D cI A (wX cI q) post [.ref (q 4), .ref (q 1)].toArray s) (F0 m 10 ls []) := by
    intro  K hKK n
    induction n with
    | zero => intro x2_1 s_2 H locs ls hw; exact hw.elim
    | succ n ih =>
      intro x2_1 s_2 H locs ls hw hC hl
      refine lv_iload_n hx hb dX4_line_10 rfl (lv_at hl 2 rfl) ?_
      refine lv_aload_n hx hb dX4_line_11 rfl (lv_at hl 0 rfl) ?_
      refine cx_get (v := .int (s_2.1 9)) hx hb hts iX4 hown hK hC 4 rfl rfl 4 (by decide) u2 rfl rfl dX4_line_12 ?_
      refine lv_icmp_ge (tgt := 98) hx hb dX4_line_15 (by decide) (fun c_3 => ?_) (fun c_3 => ?_)
      · have hw := hw.1 c_3
        exact hKK x2_1 s_2 _ _ _ hw hC (lv_sub hl [0, 1, 2] rfl)
      · have hw := hw.2 c_3
        refine lv_aload_n hx hb dX4_line_18 rfl (lv_at hl 0 rfl) ?_
        refine cx_get (v := .ref (q 20)) hx hb hts iX4 hown hK hC 4 rfl rfl 1 (by decide) u3 rfl rfl dX4_line_19 ?_
        refine lv_iload_n hx hb dX4_line_22 rfl (lv_at hl 2 rfl) ?_
        refine lv_aload_n hx hb dX4_line_23 rfl (lv_at hl 1 rfl) ?_
        refine cx_get (v := .ref (q 8)) hx hb hts iX0 hown hK hC 1 rfl rfl 1 (by decide) u4 rfl rfl dX4_line_24 ?_
        refine lv_iload_n hx hb dX4_line_27 rfl (lv_at hl 2 rfl) ?_
        refine cx_iald (f := s_2.2 1) hx hb hK hC 8 rfl hw.1 dX4_line_28 ?_
        have hw := hw.2
        refine lv_aload_n hx hb dX4_line_29 rfl (lv_at hl 0 rfl) ?_
        refine cx_get (v := .ref (q 19)) hx hb hts iX4 hown hK hC 4 rfl rfl 0 (by decide) u5 rfl rfl dX4_line_30 ?_
        refine lv_aload_n hx hb dX4_line_33 rfl (lv_at hl 1 rfl) ?_
        refine cx_get (v := .ref (q 7)) hx hb hts iX0 hown hK hC 1 rfl rfl 0 (by decide) u6 rfl rfl dX4_line_34 ?_
        refine lv_iload_n hx hb dX4_line_37 rfl (lv_at hl 2 rfl) ?_
        refine cx_iald (f := s_2.2 0) hx hb hK hC 7 rfl hw.1 dX4_line_38 ?_
        have hw := hw.2
        refine cx_iald (f := s_2.2 12) hx hb hK hC 19 rfl hw.1 dX4_line_39 ?_
        have hw := hw.2
        refine lv_iadd hx hb dX4_line_40 ?_
        refine cx_iast (f := s_2.2 13) hx hb hK hC 20 rfl hw.1 dX4_line_41 (ws' := (wX cI q (s_2.1, (va_up s_2.2 13 (upd (s_2.2 13) (Int32.toNatClampNeg x2_1) ((s_2.2 1 (Int32.toNatClampNeg x2_1)) + (s_2.2 12 (Int32.toNatClampNeg (s_2.2 0 (Int32.toNatClampNeg x2_1)))))))))) (wX_a13 cI q _ _) (fun H locs hC => ?_)
        have hw := hw.2
        refine lv_iload_n hx hb dX4_line_42 rfl (lv_at hl 2 rfl) ?_
        refine lv_istore_n (lv' := [(3, .int x2_1), (0, .ref (q 4)), (1, .ref (q 1)), (2, .int x2_1)]) hx hb dX4_line_43 rfl hl (by decide) rfl (fun ls hl => ?_)
        obtain ⟨n, hw⟩ := hw
        refine L44 x2_1 _ (fun x3_11 s_12 H locs ls hw hC hl => ?_) n x2_1 (s_2.1, (va_up s_2.2 13 (upd (s_2.2 13) (Int32.toNatClampNeg x2_1) ((s_2.2 1 (Int32.toNatClampNeg x2_1)) + (s_2.2 12 (Int32.toNatClampNeg (s_2.2 0 (Int32.toNatClampNeg x2_1)))))))) _ _ _ hw hC (lv_sub hl [1, 2, 3, 0] rfl)
        exact J85 x2_1 x3_11 s_12 _ (fun x2_16 u_17 H locs ls hw hC hl => by exact ih x2_16 u_17 _ _ _ hw hC (lv_sub hl [0, 1, 2] rfl)) _ _ _ hw hC (lv_sub hl [0, 1, 2, 3] rfl)
  refine lv_aload_n hx hb dX4_line_0 rfl (lv_at hl 0 rfl) ?_
  refine lv_aload_n hx hb dX4_line_1 rfl (lv_at hl 1 rfl) ?_
  refine cx_get (v := .int (σ.1 4)) hx hb hts iX0 hown hK hC 1 rfl rfl 4 (by decide) u1 rfl rfl dX4_line_2 ?_
  refine cx_put (v := .int (σ.1 4)) hx hb hts iX4 tyX4 tyX4_ok nmX4 hown hK hC 4 rfl rfl 4 (by decide) u2 rfl rfl (tyX4_ok 4 (by decide)) rfl rfl (Nat.le_of_ble_eq_true rfl) dX4_line_5 (ws' := (wX cI q ((va_up σ.1 9 (σ.1 4)), σ.2))) (wX_i9 cI q _ _) (fun H locs hC => ?_)
  refine lv_iconst (v := 0) hx hb dX4_line_8 (by decide) ?_
  refine lv_istore_n (lv' := [(2, .int 0), (0, .ref (q 4)), (1, .ref (q 1))]) hx hb dX4_line_9 rfl hl (by decide) rfl (fun ls hl => ?_)
  obtain ⟨n, hw⟩ := hw
  refine L10  _ (fun x2_19 s_20 H locs ls hw hC hl => ?_) n 0 ((va_up σ.1 9 (σ.1 4)), σ.2) _ _ _ hw hC (lv_sub hl [1, 2, 0] rfl)
  exact cx_ret_v (u := s_20) hx hb hr hlocks hK hC hw dX4_line_98

/-! PictureHeap$Timeline.hasCamera(I)Z (X4_hasCamera) -/
set_option maxHeartbeats 1000000 in
set_option maxRecDepth 100000 in
theorem c_X4_hasCamera (l : Launch) (D : va_G) (cI : ClassId) (q : Nat → Nat) (sz : Nat) (σ : St) (x1 : Int32) (post : Int32 → St → Prop) (hw : w_X4_hasCamera σ x1 post) : Ci l yX4_hasCamera wsX4_hasCamera 0 0 D cI (wX cI q σ) sz [.ref (q 4), .int x1] (wX cI q) post := by
  refine mo_i (cc := cX4_hasCamera) (maxL := 2) (ret := (some .boolean)) (by decide) rfl (Nat.le_of_ble_eq_true rfl) ?_
  intro p e s m below meth c hx hb hr hml hts hown hlocks hK A hA hC ls hl
  have hown : s.vm.findClass RX4 = some m.cls := hown
  have hl : lv_has ls 2 [(0, .ref (q 4)), (1, .int x1)] := hl
  have u1 : (Cond.fieldLink RX4 29 "PictureHeap$Timeline" "cameras" "I").before [.ref (q 4), .int x1].toArray s = true := hts _ (List.mem_of_getElem? (i := 1) rfl)
  have iX4 : ∀ w ∈ wsX40, w ∈ wsX4_hasCamera := fun _ h => List.mem_cons_of_mem _ (List.mem_append_right _ h)
  refine lv_iload_n hx hb dX4_hasCamera_0 rfl (lv_at hl 1 rfl) ?_
  refine lv_if_lt (tgt := 16) hx hb dX4_hasCamera_1 (by decide) (fun c_1 => ?_) (fun c_1 => ?_)
  · have hw := hw.1 c_1
    refine lv_iconst (v := 0) hx hb dX4_hasCamera_16 (by decide) ?_
    exact cx_ret_z (u := σ) hx hb hr hlocks hK hC rfl hw dX4_hasCamera_17
  · have hw := hw.2 c_1
    refine lv_iload_n hx hb dX4_hasCamera_4 rfl (lv_at hl 1 rfl) ?_
    refine lv_aload_n hx hb dX4_hasCamera_5 rfl (lv_at hl 0 rfl) ?_
    refine cx_get (v := .int (σ.1 10)) hx hb hts iX4 hown hK hC 4 rfl rfl 5 (by decide) u1 rfl rfl dX4_hasCamera_6 ?_
    refine lv_icmp_ge (tgt := 16) hx hb dX4_hasCamera_9 (by decide) (fun c_2 => ?_) (fun c_2 => ?_)
    · have hw := hw.1 c_2
      refine lv_iconst (v := 0) hx hb dX4_hasCamera_16 (by decide) ?_
      exact cx_ret_z (u := σ) hx hb hr hlocks hK hC rfl hw dX4_hasCamera_17
    · have hw := hw.2 c_2
      refine lv_iconst (v := 1) hx hb dX4_hasCamera_12 (by decide) ?_
      refine lv_goto (tgt := 17) hx hb dX4_hasCamera_13 (by decide) ?_
      exact cx_ret_z (u := σ) hx hb hr hlocks hK hC rfl hw dX4_hasCamera_17

/-! PictureHeap$Timeline.has(I)Z (X4_has) -/
set_option maxHeartbeats 1000000 in
set_option maxRecDepth 100000 in
theorem c_X4_has (l : Launch) (D : va_G) (cI : ClassId) (q : Nat → Nat) (sz : Nat) (σ : St) (x1 : Int32) (post : Int32 → St → Prop) (hw : w_X4_has σ x1 post) : Ci l yX4_has wsX4_has 0 0 D cI (wX cI q σ) sz [.ref (q 4), .int x1] (wX cI q) post := by
  refine mo_i (cc := cX4_has) (maxL := 2) (ret := (some .boolean)) (by decide) rfl (Nat.le_of_ble_eq_true rfl) ?_
  intro p e s m below meth c hx hb hr hml hts hown hlocks hK A hA hC ls hl
  have hown : s.vm.findClass RX4 = some m.cls := hown
  have hl : lv_has ls 2 [(0, .ref (q 4)), (1, .int x1)] := hl
  have u1 : (Cond.fieldLink RX4 25 "PictureHeap$Timeline" "size" "I").before [.ref (q 4), .int x1].toArray s = true := hts _ (List.mem_of_getElem? (i := 1) rfl)
  have iX4 : ∀ w ∈ wsX40, w ∈ wsX4_has := fun _ h => List.mem_cons_of_mem _ (List.mem_append_right _ h)
  refine lv_iload_n hx hb dX4_has_0 rfl (lv_at hl 1 rfl) ?_
  refine lv_if_lt (tgt := 16) hx hb dX4_has_1 (by decide) (fun c_1 => ?_) (fun c_1 => ?_)
  · have hw := hw.1 c_1
    refine lv_iconst (v := 0) hx hb dX4_has_16 (by decide) ?_
    exact cx_ret_z (u := σ) hx hb hr hlocks hK hC rfl hw dX4_has_17
  · have hw := hw.2 c_1
    refine lv_iload_n hx hb dX4_has_4 rfl (lv_at hl 1 rfl) ?_
    refine lv_aload_n hx hb dX4_has_5 rfl (lv_at hl 0 rfl) ?_
    refine cx_get (v := .int (σ.1 9)) hx hb hts iX4 hown hK hC 4 rfl rfl 4 (by decide) u1 rfl rfl dX4_has_6 ?_
    refine lv_icmp_ge (tgt := 16) hx hb dX4_has_9 (by decide) (fun c_2 => ?_) (fun c_2 => ?_)
    · have hw := hw.1 c_2
      refine lv_iconst (v := 0) hx hb dX4_has_16 (by decide) ?_
      exact cx_ret_z (u := σ) hx hb hr hlocks hK hC rfl hw dX4_has_17
    · have hw := hw.2 c_2
      refine lv_iconst (v := 1) hx hb dX4_has_12 (by decide) ?_
      refine lv_goto (tgt := 17) hx hb dX4_has_13 (by decide) ?_
      exact cx_ret_z (u := σ) hx hb hr hlocks hK hC rfl hw dX4_has_17

/-! PictureHeap$Timeline.minutesFrom(II)I (X4_minutesFrom) -/
set_option maxHeartbeats 1000000 in
set_option maxRecDepth 100000 in
theorem c_X4_minutesFrom (l : Launch) (D : va_G) (cI : ClassId) (q : Nat → Nat) (sz : Nat) (σ : St) (x1 : Int32) (x2 : Int32) (post : Int32 → St → Prop) (hw : w_X4_minutesFrom σ x1 x2 post) : Ci l yX4_minutesFrom wsX4_minutesFrom 0 0 D cI (wX cI q σ) sz [.ref (q 4), .int x1, .int x2] (wX cI q) post := by
  refine mo_i (cc := cX4_minutesFrom) (maxL := 3) (ret := (some .int)) (by decide) rfl (Nat.le_of_ble_eq_true rfl) ?_
  intro p e s m below meth c hx hb hr hml hts hown hlocks hK A hA hC ls hl
  have hown : s.vm.findClass RX4 = some m.cls := hown
  have hl : lv_has ls 3 [(0, .ref (q 4)), (1, .int x1), (2, .int x2)] := hl
  have u1 : (Cond.fieldLink RX4 15 "PictureHeap$Timeline" "timeOf" "[I").before [.ref (q 4), .int x1, .int x2].toArray s = true := hts _ (List.mem_of_getElem? (i := 1) rfl)
  have u2 : (Cond.fieldLink RX4 18 "PictureHeap$Timeline" "sequence" "[I").before [.ref (q 4), .int x1, .int x2].toArray s = true := hts _ (List.mem_of_getElem? (i := 2) rfl)
  have iX4 : ∀ w ∈ wsX40, w ∈ wsX4_minutesFrom := fun _ h => List.mem_cons_of_mem _ (List.mem_append_right _ h)
  refine lv_aload_n hx hb dX4_minutesFrom_0 rfl (lv_at hl 0 rfl) ?_
  refine cx_get (v := .ref (q 20)) hx hb hts iX4 hown hK hC 4 rfl rfl 1 (by decide) u1 rfl rfl dX4_minutesFrom_1 ?_
  refine lv_aload_n hx hb dX4_minutesFrom_4 rfl (lv_at hl 0 rfl) ?_
  refine cx_get (v := .ref (q 21)) hx hb hts iX4 hown hK hC 4 rfl rfl 2 (by decide) u2 rfl rfl dX4_minutesFrom_5 ?_
  refine lv_iload_n hx hb dX4_minutesFrom_8 rfl (lv_at hl 2 rfl) ?_
  refine cx_iald (f := σ.2 14) hx hb hK hC 21 rfl hw.1 dX4_minutesFrom_9 ?_
  have hw := hw.2
  refine cx_iald (f := σ.2 13) hx hb hK hC 20 rfl hw.1 dX4_minutesFrom_10 ?_
  have hw := hw.2
  refine lv_aload_n hx hb dX4_minutesFrom_11 rfl (lv_at hl 0 rfl) ?_
  refine cx_get (v := .ref (q 20)) hx hb hts iX4 hown hK hC 4 rfl rfl 1 (by decide) u1 rfl rfl dX4_minutesFrom_12 ?_
  refine lv_aload_n hx hb dX4_minutesFrom_15 rfl (lv_at hl 0 rfl) ?_
  refine cx_get (v := .ref (q 21)) hx hb hts iX4 hown hK hC 4 rfl rfl 2 (by decide) u2 rfl rfl dX4_minutesFrom_16 ?_
  refine lv_iload_n hx hb dX4_minutesFrom_19 rfl (lv_at hl 1 rfl) ?_
  refine cx_iald (f := σ.2 14) hx hb hK hC 21 rfl hw.1 dX4_minutesFrom_20 ?_
  have hw := hw.2
  refine cx_iald (f := σ.2 13) hx hb hK hC 20 rfl hw.1 dX4_minutesFrom_21 ?_
  have hw := hw.2
  refine lv_isub hx hb dX4_minutesFrom_22 ?_
  exact cx_ret_i (u := σ) hx hb hr hlocks hK hC hw dX4_minutesFrom_23

/-! PictureHeap$Timeline.startsDay(II)Z (X4_startsDay) -/
set_option maxHeartbeats 1000000 in
set_option maxRecDepth 100000 in
theorem c_X4_startsDay (l : Launch) (D : va_G) (cI : ClassId) (q : Nat → Nat) (sz : Nat) (σ : St) (x1 : Int32) (x2 : Int32) (post : Int32 → St → Prop) (hw : w_X4_startsDay σ x1 x2 post) : Ci l yX4_startsDay wsX4_startsDay 1 22 D cI (wX cI q σ) sz [.ref (q 4), .int x1, .int x2] (wX cI q) post := by
  refine mo_i (cc := cX4_startsDay) (maxL := 3) (ret := (some .boolean)) (by decide) rfl (Nat.le_of_ble_eq_true rfl) ?_
  intro p e s m below meth c hx hb hr hml hts hown hlocks hK A hA hC ls hl
  have hown : s.vm.findClass RX4 = some m.cls := hown
  have hl : lv_has ls 3 [(0, .ref (q 4)), (1, .int x1), (2, .int x2)] := hl
  refine lv_iload_n hx hb dX4_startsDay_0 rfl (lv_at hl 1 rfl) ?_
  refine lv_if_eq (tgt := 16) hx hb dX4_startsDay_1 (by decide) (fun c_1 => ?_) (fun c_1 => ?_)
  · have hw := hw.1 c_1
    refine lv_iconst (v := 1) hx hb dX4_startsDay_16 (by decide) ?_
    refine lv_goto (tgt := 21) hx hb dX4_startsDay_17 (by decide) ?_
    exact cx_ret_z (u := σ) hx hb hr hlocks hK hC rfl hw dX4_startsDay_21
  · have hw := hw.2 c_1
    refine lv_aload_n hx hb dX4_startsDay_4 rfl (lv_at hl 0 rfl) ?_
    refine lv_iload_n hx hb dX4_startsDay_5 rfl (lv_at hl 1 rfl) ?_
    refine lv_iconst (v := 1) hx hb dX4_startsDay_6 (by decide) ?_
    refine lv_isub hx hb dX4_startsDay_7 ?_
    refine lv_iload_n hx hb dX4_startsDay_8 rfl (lv_at hl 1 rfl) ?_
    refine cx_callVi0 (As := [.int (x1 - 1), .int x1]) (rest := []) ⟨hx, hb, hml, hown, hts⟩ (c_X4_minutesFrom l D cI q _ σ (x1 - 1) x1 _ hw) (cwV 2 hts gX4_startsDay_X4_minutesFrom rfl rfl rfl (by decide +kernel) ⟨Nat.le_of_ble_eq_true rfl, Nat.le_of_ble_eq_true rfl⟩) hK hC hA 4 rfl rfl rfl rfl hl.1 rfl (Nat.le_of_ble_eq_true rfl) dX4_startsDay_9 ⟨Nat.zero_le _, Nat.zero_le _⟩ (fun r_2 u_3 H locs hw hC => ?_)
    refine lv_iload_n hx hb dX4_startsDay_12 rfl (lv_at hl 2 rfl) ?_
    refine lv_icmp_le (tgt := 20) hx hb dX4_startsDay_13 (by decide) (fun c_4 => ?_) (fun c_4 => ?_)
    · have hw := hw.1 c_4
      refine lv_iconst (v := 0) hx hb dX4_startsDay_20 (by decide) ?_
      exact cx_ret_z (u := u_3) hx hb hr hlocks hK hC rfl hw dX4_startsDay_21
    · have hw := hw.2 c_4
      refine lv_iconst (v := 1) hx hb dX4_startsDay_16 (by decide) ?_
      refine lv_goto (tgt := 21) hx hb dX4_startsDay_17 (by decide) ?_
      exact cx_ret_z (u := u_3) hx hb hr hlocks hK hC rfl hw dX4_startsDay_21

/-! PictureHeap$Timeline.dayTally(I)I (X4_dayTally) -/
set_option maxHeartbeats 1000000 in
set_option maxRecDepth 100000 in
theorem c_X4_dayTally (l : Launch) (D : va_G) (cI : ClassId) (q : Nat → Nat) (sz : Nat) (σ : St) (x1 : Int32) (post : Int32 → St → Prop) (hw : w_X4_dayTally σ x1 post) : Ci l yX4_dayTally wsX4_dayTally 2 44 D cI (wX cI q σ) sz [.ref (q 4), .int x1] (wX cI q) post := by
  refine mo_i (cc := cX4_dayTally) (maxL := 4) (ret := (some .int)) (by decide) rfl (Nat.le_of_ble_eq_true rfl) ?_
  intro p e s m below meth c hx hb hr hml hts hown hlocks hK A hA hC ls hl
  have hown : s.vm.findClass RX4 = some m.cls := hown
  have hl : lv_has ls 4 [(0, .ref (q 4)), (1, .int x1)] := hl
  have u1 : (Cond.fieldLink RX4 25 "PictureHeap$Timeline" "size" "I").before [.ref (q 4), .int x1].toArray s = true := hts _ (List.mem_of_getElem? (i := 1) rfl)
  have iX4 : ∀ w ∈ wsX40, w ∈ wsX4_dayTally := fun _ h => List.mem_cons_of_mem _ (List.mem_append_right _ h)
  have L4 : ∀ (x1_1 : Int32) (K : Int32 → Int32 → St → Prop) (hKK : ∀ (x2_2 : Int32) (x3_3 : Int32) (s_4 : St) (H : Heap) (locs : List Loc) (ls : Array Slot), K x2_2 x3_3 s_4 → Cx D A s.heap (wX cI q s_4) H locs → lv_has ls 4 [(0, .ref (q 4)), (1, .int x1_1), (2, .int x2_2), (3, .int x3_3)] → W p l e (Rm 2 44) s m [.ref (q 4), .int x1].toArray below meth c H locs 0 0 (QI below D cI A (wX cI q) post [.ref (q 4), .int x1].toArray s) (F0 m 30 ls [])) (n : Nat), ∀ (x2_2 : Int32) (x3_3 : Int32) (s_4 : St) (H : Heap) (locs : List Loc) (ls : Array Slot), w_X4_dayTally_L4 x1_1 post K n x2_2 x3_3 s_4 → Cx D A s.heap (wX cI q s_4) H locs → lv_has ls 4 [(0, .ref (q 4)), (1, .int x1_1), (2, .int x2_2), (3, .int x3_3)] → W p l e (Rm 2 44) s m [.ref (q 4), .int x1].toArray below meth c H locs 0 0 (QI below D cI A (wX cI q) post [.ref (q 4), .int x1].toArray s) (F0 m 4 ls []) := by
    intro x1_1 K hKK n
    induction n with
    | zero => intro x2_2 x3_3 s_4 H locs ls hw; exact hw.elim
    | succ n ih =>
      intro x2_2 x3_3 s_4 H locs ls hw hC hl
      refine lv_iload_n hx hb dX4_dayTally_4 rfl (lv_at hl 3 rfl) ?_
      refine lv_aload_n hx hb dX4_dayTally_5 rfl (lv_at hl 0 rfl) ?_
      refine cx_get (v := .int (s_4.1 9)) hx hb hts iX4 hown hK hC 4 rfl rfl 4 (by decide) u1 rfl rfl dX4_dayTally_6 ?_
      refine lv_icmp_ge (tgt := 30) hx hb dX4_dayTally_9 (by decide) (fun c_5 => ?_) (fun c_5 => ?_)
      · have hw := hw.1 c_5
        exact hKK x2_2 x3_3 s_4 _ _ _ hw hC (lv_sub hl [0, 1, 2, 3] rfl)
      · have hw := hw.2 c_5
        refine lv_aload_n hx hb dX4_dayTally_12 rfl (lv_at hl 0 rfl) ?_
        refine lv_iload_n hx hb dX4_dayTally_13 rfl (lv_at hl 3 rfl) ?_
        refine lv_iload_n hx hb dX4_dayTally_14 rfl (lv_at hl 1 rfl) ?_
        refine cx_callVi0 (As := [.int x3_3, .int x1_1]) (rest := []) ⟨hx, hb, hml, hown, hts⟩ (c_X4_startsDay l D cI q _ s_4 x3_3 x1_1 _ hw) (cwV 2 hts gX4_dayTally_X4_startsDay rfl rfl rfl (by decide +kernel) ⟨Nat.le_of_ble_eq_true rfl, Nat.le_of_ble_eq_true rfl⟩) hK hC hA 4 rfl rfl rfl rfl hl.1 rfl (Nat.le_of_ble_eq_true rfl) dX4_dayTally_15 ⟨Nat.zero_le _, Nat.zero_le _⟩ (fun r_6 u_7 H locs hw hC => ?_)
        refine lv_if_eq (tgt := 24) hx hb dX4_dayTally_18 (by decide) (fun c_8 => ?_) (fun c_8 => ?_)
        · have hw := hw.1 c_8
          refine lv_iinc (v := (x3_3 + 1)) (lv' := [(3, .int (x3_3 + 1)), (0, .ref (q 4)), (1, .int x1_1), (2, .int x2_2)]) hx hb dX4_dayTally_24 hl (k := 3) rfl rfl (by decide) rfl (fun ls hl => ?_)
          refine lv_goto (tgt := 4) hx hb dX4_dayTally_27 (by decide) ?_
          exact ih x2_2 (x3_3 + 1) u_7 _ _ _ hw hC (lv_sub hl [1, 2, 3, 0] rfl)
        · have hw := hw.2 c_8
          refine lv_iinc (v := (x2_2 + 1)) (lv' := [(2, .int (x2_2 + 1)), (0, .ref (q 4)), (1, .int x1_1), (3, .int x3_3)]) hx hb dX4_dayTally_21 hl (k := 2) rfl rfl (by decide) rfl (fun ls hl => ?_)
          refine lv_iinc (v := (x3_3 + 1)) (lv' := [(3, .int (x3_3 + 1)), (2, .int (x2_2 + 1)), (0, .ref (q 4)), (1, .int x1_1)]) hx hb dX4_dayTally_24 hl (k := 3) rfl rfl (by decide) rfl (fun ls hl => ?_)
          refine lv_goto (tgt := 4) hx hb dX4_dayTally_27 (by decide) ?_
          exact ih (x2_2 + 1) (x3_3 + 1) u_7 _ _ _ hw hC (lv_sub hl [2, 3, 1, 0] rfl)
  refine lv_iconst (v := 0) hx hb dX4_dayTally_0 (by decide) ?_
  refine lv_istore_n (lv' := [(2, .int 0), (0, .ref (q 4)), (1, .int x1)]) hx hb dX4_dayTally_1 rfl hl (by decide) rfl (fun ls hl => ?_)
  refine lv_iconst (v := 0) hx hb dX4_dayTally_2 (by decide) ?_
  refine lv_istore_n (lv' := [(3, .int 0), (2, .int 0), (0, .ref (q 4)), (1, .int x1)]) hx hb dX4_dayTally_3 rfl hl (by decide) rfl (fun ls hl => ?_)
  obtain ⟨n, hw⟩ := hw
  refine L4 x1 _ (fun x2_9 x3_10 s_11 H locs ls hw hC hl => ?_) n 0 0 σ _ _ _ hw hC (lv_sub hl [2, 3, 1, 0] rfl)
  refine lv_iload_n hx hb dX4_dayTally_30 rfl (lv_at hl 2 rfl) ?_
  exact cx_ret_i (u := s_11) hx hb hr hlocks hK hC hw dX4_dayTally_31

/-! PictureHeap$Timeline.startOfDay(II)I (X4_startOfDay) -/
set_option maxHeartbeats 1000000 in
set_option maxRecDepth 100000 in
theorem c_X4_startOfDay (l : Launch) (D : va_G) (cI : ClassId) (q : Nat → Nat) (sz : Nat) (σ : St) (x1 : Int32) (x2 : Int32) (post : Int32 → St → Prop) (hw : w_X4_startOfDay σ x1 x2 post) : Ci l yX4_startOfDay wsX4_startOfDay 2 44 D cI (wX cI q σ) sz [.ref (q 4), .int x1, .int x2] (wX cI q) post := by
  refine mo_i (cc := cX4_startOfDay) (maxL := 5) (ret := (some .int)) (by decide) rfl (Nat.le_of_ble_eq_true rfl) ?_
  intro p e s m below meth c hx hb hr hml hts hown hlocks hK A hA hC ls hl
  have hown : s.vm.findClass RX4 = some m.cls := hown
  have hl : lv_has ls 5 [(0, .ref (q 4)), (1, .int x1), (2, .int x2)] := hl
  have u1 : (Cond.fieldLink RX4 25 "PictureHeap$Timeline" "size" "I").before [.ref (q 4), .int x1, .int x2].toArray s = true := hts _ (List.mem_of_getElem? (i := 1) rfl)
  have iX4 : ∀ w ∈ wsX40, w ∈ wsX4_startOfDay := fun _ h => List.mem_cons_of_mem _ (List.mem_append_right _ h)
  have L5 : ∀ (x2_1 : Int32) (K : Int32 → Int32 → St → Prop) (hKK : ∀ (x3_2 : Int32) (x4_3 : Int32) (s_4 : St) (H : Heap) (locs : List Loc) (ls : Array Slot), K x3_2 x4_3 s_4 → Cx D A s.heap (wX cI q s_4) H locs → lv_has ls 5 [(0, .ref (q 4)), (2, .int x2_1), (3, .int x3_2), (4, .int x4_3)] → W p l e (Rm 2 44) s m [.ref (q 4), .int x1, .int x2].toArray below meth c H locs 0 0 (QI below D cI A (wX cI q) post [.ref (q 4), .int x1, .int x2].toArray s) (F0 m 40 ls [])) (n : Nat), ∀ (x3_2 : Int32) (x4_3 : Int32) (s_4 : St) (H : Heap) (locs : List Loc) (ls : Array Slot), w_X4_startOfDay_L5 x2_1 post K n x3_2 x4_3 s_4 → Cx D A s.heap (wX cI q s_4) H locs → lv_has ls 5 [(0, .ref (q 4)), (2, .int x2_1), (3, .int x3_2), (4, .int x4_3)] → W p l e (Rm 2 44) s m [.ref (q 4), .int x1, .int x2].toArray below meth c H locs 0 0 (QI below D cI A (wX cI q) post [.ref (q 4), .int x1, .int x2].toArray s) (F0 m 5 ls []) := by
    intro x2_1 K hKK n
    induction n with
    | zero => intro x3_2 x4_3 s_4 H locs ls hw; exact hw.elim
    | succ n ih =>
      intro x3_2 x4_3 s_4 H locs ls hw hC hl
      refine lv_iload hx hb dX4_startOfDay_5 (lv_at hl 3 rfl) ?_
      refine lv_aload_n hx hb dX4_startOfDay_7 rfl (lv_at hl 0 rfl) ?_
      refine cx_get (v := .int (s_4.1 9)) hx hb hts iX4 hown hK hC 4 rfl rfl 4 (by decide) u1 rfl rfl dX4_startOfDay_8 ?_
      refine lv_icmp_ge (tgt := 40) hx hb dX4_startOfDay_11 (by decide) (fun c_5 => ?_) (fun c_5 => ?_)
      · have hw := hw.1 c_5
        exact hKK x3_2 x4_3 s_4 _ _ _ hw hC (lv_sub hl [0, 1, 2, 3] rfl)
      · have hw := hw.2 c_5
        refine lv_aload_n hx hb dX4_startOfDay_14 rfl (lv_at hl 0 rfl) ?_
        refine lv_iload hx hb dX4_startOfDay_15 (lv_at hl 3 rfl) ?_
        refine lv_iload_n hx hb dX4_startOfDay_17 rfl (lv_at hl 1 rfl) ?_
        refine cx_callVi0 (As := [.int x4_3, .int x2_1]) (rest := []) ⟨hx, hb, hml, hown, hts⟩ (c_X4_startsDay l D cI q _ s_4 x4_3 x2_1 _ hw) (cwV 2 hts gX4_startOfDay_X4_startsDay rfl rfl rfl (by decide +kernel) ⟨Nat.le_of_ble_eq_true rfl, Nat.le_of_ble_eq_true rfl⟩) hK hC hA 4 rfl rfl rfl rfl hl.1 rfl (Nat.le_of_ble_eq_true rfl) dX4_startOfDay_18 ⟨Nat.zero_le _, Nat.zero_le _⟩ (fun r_6 u_7 H locs hw hC => ?_)
        refine lv_if_eq (tgt := 34) hx hb dX4_startOfDay_21 (by decide) (fun c_8 => ?_) (fun c_8 => ?_)
        · have hw := hw.1 c_8
          refine lv_iinc (v := (x4_3 + 1)) (lv' := [(4, .int (x4_3 + 1)), (0, .ref (q 4)), (2, .int x2_1), (3, .int x3_2)]) hx hb dX4_startOfDay_34 hl (k := 3) rfl rfl (by decide) rfl (fun ls hl => ?_)
          refine lv_goto (tgt := 5) hx hb dX4_startOfDay_37 (by decide) ?_
          exact ih x3_2 (x4_3 + 1) u_7 _ _ _ hw hC (lv_sub hl [1, 2, 3, 0] rfl)
        · have hw := hw.2 c_8
          refine lv_iload_n hx hb dX4_startOfDay_24 rfl (lv_at hl 2 rfl) ?_
          refine lv_if_ne (tgt := 31) hx hb dX4_startOfDay_25 (by decide) (fun c_9 => ?_) (fun c_9 => ?_)
          · have hw := hw.1 c_9
            refine lv_iinc (v := (x3_2 + (-1))) (lv' := [(3, .int (x3_2 + (-1))), (0, .ref (q 4)), (2, .int x2_1), (4, .int x4_3)]) hx hb dX4_startOfDay_31 hl (k := 2) rfl rfl (by decide) rfl (fun ls hl => ?_)
            refine lv_iinc (v := (x4_3 + 1)) (lv' := [(4, .int (x4_3 + 1)), (3, .int (x3_2 + (-1))), (0, .ref (q 4)), (2, .int x2_1)]) hx hb dX4_startOfDay_34 hl (k := 3) rfl rfl (by decide) rfl (fun ls hl => ?_)
            refine lv_goto (tgt := 5) hx hb dX4_startOfDay_37 (by decide) ?_
            exact ih (x3_2 + (-1)) (x4_3 + 1) u_7 _ _ _ hw hC (lv_sub hl [2, 3, 1, 0] rfl)
          · have hw := hw.2 c_9
            refine lv_iload hx hb dX4_startOfDay_28 (lv_at hl 3 rfl) ?_
            exact cx_ret_i (u := u_7) hx hb hr hlocks hK hC hw dX4_startOfDay_30
  refine lv_iload_n hx hb dX4_startOfDay_0 rfl (lv_at hl 1 rfl) ?_
  refine lv_istore_n (lv' := [(3, .int x1), (0, .ref (q 4)), (1, .int x1), (2, .int x2)]) hx hb dX4_startOfDay_1 rfl hl (by decide) rfl (fun ls hl => ?_)
  refine lv_iconst (v := 0) hx hb dX4_startOfDay_2 (by decide) ?_
  refine lv_istore (lv' := [(4, .int 0), (3, .int x1), (0, .ref (q 4)), (1, .int x1), (2, .int x2)]) hx hb dX4_startOfDay_3 hl (by decide) rfl (fun ls hl => ?_)
  obtain ⟨n, hw⟩ := hw
  refine L5 x2 _ (fun x3_10 x4_11 s_12 H locs ls hw hC hl => ?_) n x1 0 σ _ _ _ hw hC (lv_sub hl [2, 4, 1, 0] rfl)
  refine lv_iconst (v := (-1)) hx hb dX4_startOfDay_40 (by decide) ?_
  exact cx_ret_i (u := s_12) hx hb hr hlocks hK hC hw dX4_startOfDay_41

/-! PictureHeap$Timeline.endOfDay(II)I (X4_endOfDay) -/
set_option maxHeartbeats 1000000 in
set_option maxRecDepth 100000 in
theorem c_X4_endOfDay (l : Launch) (D : va_G) (cI : ClassId) (q : Nat → Nat) (sz : Nat) (σ : St) (x1 : Int32) (x2 : Int32) (post : Int32 → St → Prop) (hw : w_X4_endOfDay σ x1 x2 post) : Ci l yX4_endOfDay wsX4_endOfDay 2 44 D cI (wX cI q σ) sz [.ref (q 4), .int x1, .int x2] (wX cI q) post := by
  refine mo_i (cc := cX4_endOfDay) (maxL := 4) (ret := (some .int)) (by decide) rfl (Nat.le_of_ble_eq_true rfl) ?_
  intro p e s m below meth c hx hb hr hml hts hown hlocks hK A hA hC ls hl
  have hown : s.vm.findClass RX4 = some m.cls := hown
  have hl : lv_has ls 4 [(0, .ref (q 4)), (1, .int x1), (2, .int x2)] := hl
  have u1 : (Cond.fieldLink RX4 25 "PictureHeap$Timeline" "size" "I").before [.ref (q 4), .int x1, .int x2].toArray s = true := hts _ (List.mem_of_getElem? (i := 1) rfl)
  have iX4 : ∀ w ∈ wsX40, w ∈ wsX4_endOfDay := fun _ h => List.mem_cons_of_mem _ (List.mem_append_right _ h)
  have L2 : ∀ (x2_1 : Int32) (K : Int32 → St → Prop) (hKK : ∀ (x3_2 : Int32) (s_3 : St) (H : Heap) (locs : List Loc) (ls : Array Slot), K x3_2 s_3 → Cx D A s.heap (wX cI q s_3) H locs → lv_has ls 4 [(0, .ref (q 4)), (2, .int x2_1), (3, .int x3_2)] → W p l e (Rm 2 44) s m [.ref (q 4), .int x1, .int x2].toArray below meth c H locs 0 0 (QI below D cI A (wX cI q) post [.ref (q 4), .int x1, .int x2].toArray s) (F0 m 29 ls [])) (n : Nat), ∀ (x3_2 : Int32) (s_3 : St) (H : Heap) (locs : List Loc) (ls : Array Slot), w_X4_endOfDay_L2 x2_1 post K n x3_2 s_3 → Cx D A s.heap (wX cI q s_3) H locs → lv_has ls 4 [(0, .ref (q 4)), (2, .int x2_1), (3, .int x3_2)] → W p l e (Rm 2 44) s m [.ref (q 4), .int x1, .int x2].toArray below meth c H locs 0 0 (QI below D cI A (wX cI q) post [.ref (q 4), .int x1, .int x2].toArray s) (F0 m 2 ls []) := by
    intro x2_1 K hKK n
    induction n with
    | zero => intro x3_2 s_3 H locs ls hw; exact hw.elim
    | succ n ih =>
      intro x3_2 s_3 H locs ls hw hC hl
      refine lv_iload_n hx hb dX4_endOfDay_2 rfl (lv_at hl 2 rfl) ?_
      refine lv_iconst (v := 1) hx hb dX4_endOfDay_3 (by decide) ?_
      refine lv_iadd hx hb dX4_endOfDay_4 ?_
      refine lv_aload_n hx hb dX4_endOfDay_5 rfl (lv_at hl 0 rfl) ?_
      refine cx_get (v := .int (s_3.1 9)) hx hb hts iX4 hown hK hC 4 rfl rfl 4 (by decide) u1 rfl rfl dX4_endOfDay_6 ?_
      refine lv_icmp_ge (tgt := 29) hx hb dX4_endOfDay_9 (by decide) (fun c_4 => ?_) (fun c_4 => ?_)
      · have hw := hw.1 c_4
        exact hKK x3_2 s_3 _ _ _ hw hC (lv_sub hl [0, 1, 2] rfl)
      · have hw := hw.2 c_4
        refine lv_aload_n hx hb dX4_endOfDay_12 rfl (lv_at hl 0 rfl) ?_
        refine lv_iload_n hx hb dX4_endOfDay_13 rfl (lv_at hl 2 rfl) ?_
        refine lv_iconst (v := 1) hx hb dX4_endOfDay_14 (by decide) ?_
        refine lv_iadd hx hb dX4_endOfDay_15 ?_
        refine lv_iload_n hx hb dX4_endOfDay_16 rfl (lv_at hl 1 rfl) ?_
        refine cx_callVi0 (As := [.int (x3_2 + 1), .int x2_1]) (rest := []) ⟨hx, hb, hml, hown, hts⟩ (c_X4_startsDay l D cI q _ s_3 (x3_2 + 1) x2_1 _ hw) (cwV 2 hts gX4_endOfDay_X4_startsDay rfl rfl rfl (by decide +kernel) ⟨Nat.le_of_ble_eq_true rfl, Nat.le_of_ble_eq_true rfl⟩) hK hC hA 4 rfl rfl rfl rfl hl.1 rfl (Nat.le_of_ble_eq_true rfl) dX4_endOfDay_17 ⟨Nat.zero_le _, Nat.zero_le _⟩ (fun r_5 u_6 H locs hw hC => ?_)
        refine lv_if_ne (tgt := 29) hx hb dX4_endOfDay_20 (by decide) (fun c_7 => ?_) (fun c_7 => ?_)
        · have hw := hw.1 c_7
          exact hKK x3_2 u_6 _ _ _ hw hC (lv_sub hl [0, 1, 2] rfl)
        · have hw := hw.2 c_7
          refine lv_iinc (v := (x3_2 + 1)) (lv' := [(3, .int (x3_2 + 1)), (0, .ref (q 4)), (2, .int x2_1)]) hx hb dX4_endOfDay_23 hl (k := 2) rfl rfl (by decide) rfl (fun ls hl => ?_)
          refine lv_goto (tgt := 2) hx hb dX4_endOfDay_26 (by decide) ?_
          exact ih (x3_2 + 1) u_6 _ _ _ hw hC (lv_sub hl [1, 2, 0] rfl)
  refine lv_iload_n hx hb dX4_endOfDay_0 rfl (lv_at hl 1 rfl) ?_
  refine lv_istore_n (lv' := [(3, .int x1), (0, .ref (q 4)), (1, .int x1), (2, .int x2)]) hx hb dX4_endOfDay_1 rfl hl (by decide) rfl (fun ls hl => ?_)
  obtain ⟨n, hw⟩ := hw
  refine L2 x2 _ (fun x3_8 s_9 H locs ls hw hC hl => ?_) n x1 σ _ _ _ hw hC (lv_sub hl [1, 3, 0] rfl)
  refine lv_iload_n hx hb dX4_endOfDay_29 rfl (lv_at hl 2 rfl) ?_
  exact cx_ret_i (u := s_9) hx hb hr hlocks hK hC hw dX4_endOfDay_30

/-! PictureHeap$Timeline.followsOn(IILPictureHeap$Album;)Z (X4_followsOn) -/
set_option maxHeartbeats 1000000 in
set_option maxRecDepth 100000 in
theorem c_X4_followsOn (l : Launch) (D : va_G) (cI : ClassId) (q : Nat → Nat) (sz : Nat) (σ : St) (x1 : Int32) (x2 : Int32) (post : Int32 → St → Prop) (hw : w_X4_followsOn σ x1 x2 post) : Ci l yX4_followsOn wsX4_followsOn 1 20 D cI (wX cI q σ) sz [.ref (q 4), .int x1, .int x2, .ref (q 1)] (wX cI q) post := by
  refine mo_i (cc := cX4_followsOn) (maxL := 5) (ret := (some .boolean)) (by decide) rfl (Nat.le_of_ble_eq_true rfl) ?_
  intro p e s m below meth c hx hb hr hml hts hown hlocks hK A hA hC ls hl
  have hown : s.vm.findClass RX4 = some m.cls := hown
  have hl : lv_has ls 5 [(0, .ref (q 4)), (1, .int x1), (2, .int x2), (3, .ref (q 1))] := hl
  have u1 : (Cond.fieldLink RX4 72 "PictureHeap$Album" "marksOf" "[I").before [.ref (q 4), .int x1, .int x2, .ref (q 1)].toArray s = true := hts _ (List.mem_of_getElem? (i := 1) rfl)
  have u2 : (Cond.fieldLink RX4 15 "PictureHeap$Timeline" "timeOf" "[I").before [.ref (q 4), .int x1, .int x2, .ref (q 1)].toArray s = true := hts _ (List.mem_of_getElem? (i := 2) rfl)
  have iX0 : ∀ w ∈ wsX00, w ∈ wsX4_followsOn := fun _ h => List.mem_cons_of_mem _ (List.mem_append_left _ (List.mem_append_right _ h))
  have iX4 : ∀ w ∈ wsX40, w ∈ wsX4_followsOn := fun _ h => List.mem_cons_of_mem _ (List.mem_append_right _ h)
  refine lv_aload_n hx hb dX4_followsOn_0 rfl (lv_at hl 3 rfl) ?_
  refine cx_get (v := .ref (q 9)) hx hb hts iX0 hown hK hC 1 rfl rfl 2 (by decide) u1 rfl rfl dX4_followsOn_1 ?_
  refine lv_iload_n hx hb dX4_followsOn_4 rfl (lv_at hl 1 rfl) ?_
  refine cx_iald (f := σ.2 2) hx hb hK hC 9 rfl hw.1 dX4_followsOn_5 ?_
  have hw := hw.2
  refine lv_aload_n hx hb dX4_followsOn_6 rfl (lv_at hl 3 rfl) ?_
  refine cx_get (v := .ref (q 9)) hx hb hts iX0 hown hK hC 1 rfl rfl 2 (by decide) u1 rfl rfl dX4_followsOn_7 ?_
  refine lv_iload_n hx hb dX4_followsOn_10 rfl (lv_at hl 2 rfl) ?_
  refine cx_iald (f := σ.2 2) hx hb hK hC 9 rfl hw.1 dX4_followsOn_11 ?_
  have hw := hw.2
  refine lv_ixor hx hb dX4_followsOn_12 ?_
  refine lv_istore (lv' := [(4, .int ((σ.2 2 (Int32.toNatClampNeg x1)) ^^^ (σ.2 2 (Int32.toNatClampNeg x2)))), (0, .ref (q 4)), (1, .int x1), (2, .int x2), (3, .ref (q 1))]) hx hb dX4_followsOn_13 hl (by decide) rfl (fun ls hl => ?_)
  refine lv_aload_n hx hb dX4_followsOn_15 rfl (lv_at hl 1 rfl) ?_
  refine cx_get (v := .ref (q 20)) hx hb hts iX4 hown hK hC 4 rfl rfl 1 (by decide) u2 rfl rfl dX4_followsOn_16 ?_
  refine lv_iload_n hx hb dX4_followsOn_19 rfl (lv_at hl 3 rfl) ?_
  refine cx_iald (f := σ.2 13) hx hb hK hC 20 rfl hw.1 dX4_followsOn_20 ?_
  have hw := hw.2
  refine lv_aload_n hx hb dX4_followsOn_21 rfl (lv_at hl 1 rfl) ?_
  refine cx_get (v := .ref (q 20)) hx hb hts iX4 hown hK hC 4 rfl rfl 1 (by decide) u2 rfl rfl dX4_followsOn_22 ?_
  refine lv_iload_n hx hb dX4_followsOn_25 rfl (lv_at hl 2 rfl) ?_
  refine cx_iald (f := σ.2 13) hx hb hK hC 20 rfl hw.1 dX4_followsOn_26 ?_
  have hw := hw.2
  refine lv_isub hx hb dX4_followsOn_27 ?_
  refine lv_iconst (v := 2) hx hb dX4_followsOn_28 (by decide) ?_
  refine lv_icmp_gt (tgt := 45) hx hb dX4_followsOn_29 (by decide) (fun c_1 => ?_) (fun c_1 => ?_)
  · have hw := hw.1 c_1
    refine lv_iconst (v := 0) hx hb dX4_followsOn_45 (by decide) ?_
    exact cx_ret_z (u := σ) hx hb hr hlocks hK hC rfl hw dX4_followsOn_46
  · have hw := hw.2 c_1
    refine lv_iload hx hb dX4_followsOn_32 (lv_at hl 0 rfl) ?_
    refine cx_callSiE (As := [.int ((σ.2 2 (Int32.toNatClampNeg x1)) ^^^ (σ.2 2 (Int32.toNatClampNeg x2)))]) (rest := []) ⟨hx, hb, hml, hown, hts⟩ (c_J6_bitCount_0f7a4 l D cI _ ((σ.2 2 (Int32.toNatClampNeg x1)) ^^^ (σ.2 2 (Int32.toNatClampNeg x2))) _ hw) (va_cwS 1 hts gX4_followsOn_J6_bitCount_0f7a4 rfl rfl rfl (by decide +kernel) ⟨Nat.le_of_ble_eq_true rfl, Nat.le_of_ble_eq_true rfl⟩) hK hC hA rfl hl.1 rfl (Nat.le_of_ble_eq_true rfl) dX4_followsOn_34 ⟨Nat.zero_le _, Nat.zero_le _⟩ (fun r_2 H locs hw hC => ?_)
    refine lv_iconst (v := 2) hx hb dX4_followsOn_37 (by decide) ?_
    refine lv_icmp_gt (tgt := 45) hx hb dX4_followsOn_38 (by decide) (fun c_4 => ?_) (fun c_4 => ?_)
    · have hw := hw.1 c_4
      refine lv_iconst (v := 0) hx hb dX4_followsOn_45 (by decide) ?_
      exact cx_ret_z (u := σ) hx hb hr hlocks hK hC rfl hw dX4_followsOn_46
    · have hw := hw.2 c_4
      refine lv_iconst (v := 1) hx hb dX4_followsOn_41 (by decide) ?_
      refine lv_goto (tgt := 46) hx hb dX4_followsOn_42 (by decide) ?_
      exact cx_ret_z (u := σ) hx hb hr hlocks hK hC rfl hw dX4_followsOn_46

/-! PictureHeap$Timeline.burstLengthAt(ILPictureHeap$Album;)I (X4_burstLengthAt) -/
set_option maxHeartbeats 1000000 in
set_option maxRecDepth 100000 in
theorem c_X4_burstLengthAt (l : Launch) (D : va_G) (cI : ClassId) (q : Nat → Nat) (sz : Nat) (σ : St) (x1 : Int32) (post : Int32 → St → Prop) (hw : w_X4_burstLengthAt σ x1 post) : Ci l yX4_burstLengthAt wsX4_burstLengthAt 2 44 D cI (wX cI q σ) sz [.ref (q 4), .int x1, .ref (q 1)] (wX cI q) post := by
  refine mo_i (cc := cX4_burstLengthAt) (maxL := 7) (ret := (some .int)) (by decide) rfl (Nat.le_of_ble_eq_true rfl) ?_
  intro p e s m below meth c hx hb hr hml hts hown hlocks hK A hA hC ls hl
  have hown : s.vm.findClass RX4 = some m.cls := hown
  have hl : lv_has ls 7 [(0, .ref (q 4)), (1, .int x1), (2, .ref (q 1))] := hl
  have u1 : (Cond.fieldLink RX4 18 "PictureHeap$Timeline" "sequence" "[I").before [.ref (q 4), .int x1, .ref (q 1)].toArray s = true := hts _ (List.mem_of_getElem? (i := 1) rfl)
  have u2 : (Cond.fieldLink RX4 55 "PictureHeap$Album" "cameraOf" "[I").before [.ref (q 4), .int x1, .ref (q 1)].toArray s = true := hts _ (List.mem_of_getElem? (i := 2) rfl)
  have iX0 : ∀ w ∈ wsX00, w ∈ wsX4_burstLengthAt := fun _ h => List.mem_cons_of_mem _ (List.mem_append_right _ h)
  have iX4 : ∀ w ∈ wsX40, w ∈ wsX4_burstLengthAt := fun _ h => List.mem_cons_of_mem _ (List.mem_append_left _ (List.mem_append_right _ h))
  have L15 : ∀ (K : Int32 → Int32 → Int32 → St → Prop) (hKK : ∀ (x3_1 : Int32) (x4_2 : Int32) (x5_3 : Int32) (s_4 : St) (H : Heap) (locs : List Loc) (ls : Array Slot), K x3_1 x4_2 x5_3 s_4 → Cx D A s.heap (wX cI q s_4) H locs → lv_has ls 7 [(0, .ref (q 4)), (2, .ref (q 1)), (3, .int x3_1), (4, .int x4_2), (5, .int x5_3)] → W p l e (Rm 2 44) s m [.ref (q 4), .int x1, .ref (q 1)].toArray below meth c H locs 0 0 (QI below D cI A (wX cI q) post [.ref (q 4), .int x1, .ref (q 1)].toArray s) (F0 m 73 ls [])) (n : Nat), ∀ (x3_1 : Int32) (x4_2 : Int32) (x5_3 : Int32) (s_4 : St) (H : Heap) (locs : List Loc) (ls : Array Slot), w_X4_burstLengthAt_L15 post K n x3_1 x4_2 x5_3 s_4 → Cx D A s.heap (wX cI q s_4) H locs → lv_has ls 7 [(0, .ref (q 4)), (2, .ref (q 1)), (3, .int x3_1), (4, .int x4_2), (5, .int x5_3)] → W p l e (Rm 2 44) s m [.ref (q 4), .int x1, .ref (q 1)].toArray below meth c H locs 0 0 (QI below D cI A (wX cI q) post [.ref (q 4), .int x1, .ref (q 1)].toArray s) (F0 m 15 ls []) := by
    intro  K hKK n
    induction n with
    | zero => intro x3_1 x4_2 x5_3 s_4 H locs ls hw; exact hw.elim
    | succ n ih =>
      intro x3_1 x4_2 x5_3 s_4 H locs ls hw hC hl
      refine lv_iload hx hb dX4_burstLengthAt_15 (lv_at hl 4 rfl) ?_
      refine lv_if_lt (tgt := 73) hx hb dX4_burstLengthAt_17 (by decide) (fun c_5 => ?_) (fun c_5 => ?_)
      · have hw := hw.1 c_5
        exact hKK x3_1 x4_2 x5_3 s_4 _ _ _ hw hC (lv_sub hl [0, 1, 2, 3, 4] rfl)
      · have hw := hw.2 c_5
        refine lv_aload_n hx hb dX4_burstLengthAt_20 rfl (lv_at hl 0 rfl) ?_
        refine cx_get (v := .ref (q 21)) hx hb hts iX4 hown hK hC 4 rfl rfl 2 (by decide) u1 rfl rfl dX4_burstLengthAt_21 ?_
        refine lv_iload hx hb dX4_burstLengthAt_24 (lv_at hl 4 rfl) ?_
        refine cx_iald (f := s_4.2 14) hx hb hK hC 21 rfl hw.1 dX4_burstLengthAt_26 ?_
        have hw := hw.2
        refine lv_istore (lv' := [(6, .int (s_4.2 14 (Int32.toNatClampNeg x5_3))), (0, .ref (q 4)), (2, .ref (q 1)), (3, .int x3_1), (4, .int x4_2), (5, .int x5_3)]) hx hb dX4_burstLengthAt_27 hl (by decide) rfl (fun ls hl => ?_)
        refine lv_aload_n hx hb dX4_burstLengthAt_29 rfl (lv_at hl 2 rfl) ?_
        refine cx_get (v := .ref (q 7)) hx hb hts iX0 hown hK hC 1 rfl rfl 0 (by decide) u2 rfl rfl dX4_burstLengthAt_30 ?_
        refine lv_iload hx hb dX4_burstLengthAt_33 (lv_at hl 0 rfl) ?_
        refine cx_iald (f := s_4.2 0) hx hb hK hC 7 rfl hw.1 dX4_burstLengthAt_35 ?_
        have hw := hw.2
        refine lv_aload_n hx hb dX4_burstLengthAt_36 rfl (lv_at hl 2 rfl) ?_
        refine cx_get (v := .ref (q 7)) hx hb hts iX0 hown hK hC 1 rfl rfl 0 (by decide) u2 rfl rfl dX4_burstLengthAt_37 ?_
        refine lv_iload hx hb dX4_burstLengthAt_40 (lv_at hl 4 rfl) ?_
        refine cx_iald (f := s_4.2 0) hx hb hK hC 7 rfl hw.1 dX4_burstLengthAt_42 ?_
        have hw := hw.2
        refine lv_icmp_ne (tgt := 67) hx hb dX4_burstLengthAt_43 (by decide) (fun c_6 => ?_) (fun c_6 => ?_)
        · have hw := hw.1 c_6
          refine lv_iinc (v := (x5_3 + (-1))) (lv' := [(5, .int (x5_3 + (-1))), (6, .int (s_4.2 14 (Int32.toNatClampNeg x5_3))), (0, .ref (q 4)), (2, .ref (q 1)), (3, .int x3_1), (4, .int x4_2)]) hx hb dX4_burstLengthAt_67 hl (k := 5) rfl rfl (by decide) rfl (fun ls hl => ?_)
          refine lv_goto (tgt := 15) hx hb dX4_burstLengthAt_70 (by decide) ?_
          exact ih x3_1 x4_2 (x5_3 + (-1)) s_4 _ _ _ hw hC (lv_sub hl [2, 3, 4, 5, 0] rfl)
        · have hw := hw.2 c_6
          refine lv_aload_n hx hb dX4_burstLengthAt_46 rfl (lv_at hl 1 rfl) ?_
          refine lv_iload hx hb dX4_burstLengthAt_47 (lv_at hl 0 rfl) ?_
          refine lv_iload hx hb dX4_burstLengthAt_49 (lv_at hl 4 rfl) ?_
          refine lv_aload_n hx hb dX4_burstLengthAt_51 rfl (lv_at hl 2 rfl) ?_
          refine cx_callVi0 (As := [.int (s_4.2 14 (Int32.toNatClampNeg x5_3)), .int x4_2, .ref (q 1)]) (rest := []) ⟨hx, hb, hml, hown, hts⟩ (c_X4_followsOn l D cI q _ s_4 (s_4.2 14 (Int32.toNatClampNeg x5_3)) x4_2 _ hw) (cwV 3 hts gX4_burstLengthAt_X4_followsOn rfl rfl rfl (by decide +kernel) ⟨Nat.le_of_ble_eq_true rfl, Nat.le_of_ble_eq_true rfl⟩) hK hC hA 4 rfl rfl rfl rfl hl.1 rfl (Nat.le_of_ble_eq_true rfl) dX4_burstLengthAt_52 ⟨Nat.zero_le _, Nat.zero_le _⟩ (fun r_7 u_8 H locs hw hC => ?_)
          refine lv_if_ne (tgt := 60) hx hb dX4_burstLengthAt_55 (by decide) (fun c_9 => ?_) (fun c_9 => ?_)
          · have hw := hw.1 c_9
            refine lv_iinc (v := (x3_1 + 1)) (lv' := [(3, .int (x3_1 + 1)), (6, .int (s_4.2 14 (Int32.toNatClampNeg x5_3))), (0, .ref (q 4)), (2, .ref (q 1)), (4, .int x4_2), (5, .int x5_3)]) hx hb dX4_burstLengthAt_60 hl (k := 3) rfl rfl (by decide) rfl (fun ls hl => ?_)
            refine lv_iload hx hb dX4_burstLengthAt_63 (lv_at hl 1 rfl) ?_
            refine lv_istore (lv' := [(4, .int (s_4.2 14 (Int32.toNatClampNeg x5_3))), (3, .int (x3_1 + 1)), (6, .int (s_4.2 14 (Int32.toNatClampNeg x5_3))), (0, .ref (q 4)), (2, .ref (q 1)), (5, .int x5_3)]) hx hb dX4_burstLengthAt_65 hl (by decide) rfl (fun ls hl => ?_)
            refine lv_iinc (v := (x5_3 + (-1))) (lv' := [(5, .int (x5_3 + (-1))), (4, .int (s_4.2 14 (Int32.toNatClampNeg x5_3))), (3, .int (x3_1 + 1)), (6, .int (s_4.2 14 (Int32.toNatClampNeg x5_3))), (0, .ref (q 4)), (2, .ref (q 1))]) hx hb dX4_burstLengthAt_67 hl (k := 5) rfl rfl (by decide) rfl (fun ls hl => ?_)
            refine lv_goto (tgt := 15) hx hb dX4_burstLengthAt_70 (by decide) ?_
            exact ih (x3_1 + 1) (s_4.2 14 (Int32.toNatClampNeg x5_3)) (x5_3 + (-1)) u_8 _ _ _ hw hC (lv_sub hl [4, 5, 2, 1, 0] rfl)
          · have hw := hw.2 c_9
            refine lv_iload_n hx hb dX4_burstLengthAt_58 rfl (lv_at hl 3 rfl) ?_
            exact cx_ret_i (u := u_8) hx hb hr hlocks hK hC hw dX4_burstLengthAt_59
  refine lv_iconst (v := 1) hx hb dX4_burstLengthAt_0 (by decide) ?_
  refine lv_istore_n (lv' := [(3, .int 1), (0, .ref (q 4)), (1, .int x1), (2, .ref (q 1))]) hx hb dX4_burstLengthAt_1 rfl hl (by decide) rfl (fun ls hl => ?_)
  refine lv_aload_n hx hb dX4_burstLengthAt_2 rfl (lv_at hl 1 rfl) ?_
  refine cx_get (v := .ref (q 21)) hx hb hts iX4 hown hK hC 4 rfl rfl 2 (by decide) u1 rfl rfl dX4_burstLengthAt_3 ?_
  refine lv_iload_n hx hb dX4_burstLengthAt_6 rfl (lv_at hl 2 rfl) ?_
  refine cx_iald (f := σ.2 14) hx hb hK hC 21 rfl hw.1 dX4_burstLengthAt_7 ?_
  have hw := hw.2
  refine lv_istore (lv' := [(4, .int (σ.2 14 (Int32.toNatClampNeg x1))), (3, .int 1), (0, .ref (q 4)), (1, .int x1), (2, .ref (q 1))]) hx hb dX4_burstLengthAt_8 hl (by decide) rfl (fun ls hl => ?_)
  refine lv_iload_n hx hb dX4_burstLengthAt_10 rfl (lv_at hl 3 rfl) ?_
  refine lv_iconst (v := 1) hx hb dX4_burstLengthAt_11 (by decide) ?_
  refine lv_isub hx hb dX4_burstLengthAt_12 ?_
  refine lv_istore (lv' := [(5, .int (x1 - 1)), (4, .int (σ.2 14 (Int32.toNatClampNeg x1))), (3, .int 1), (0, .ref (q 4)), (1, .int x1), (2, .ref (q 1))]) hx hb dX4_burstLengthAt_13 hl (by decide) rfl (fun ls hl => ?_)
  obtain ⟨n, hw⟩ := hw
  refine L15  _ (fun x3_10 x4_11 x5_12 s_13 H locs ls hw hC hl => ?_) n 1 (σ.2 14 (Int32.toNatClampNeg x1)) (x1 - 1) σ _ _ _ hw hC (lv_sub hl [3, 5, 2, 1, 0] rfl)
  refine lv_iload_n hx hb dX4_burstLengthAt_73 rfl (lv_at hl 2 rfl) ?_
  exact cx_ret_i (u := s_13) hx hb hr hlocks hK hC hw dX4_burstLengthAt_74

/-! PictureHeap$Timeline.isAlike(IILPictureHeap$Album;)Z (X4_isAlike) -/
set_option maxHeartbeats 1000000 in
set_option maxRecDepth 100000 in
theorem c_X4_isAlike (l : Launch) (D : va_G) (cI : ClassId) (q : Nat → Nat) (sz : Nat) (σ : St) (x0 : Int32) (x1 : Int32) (post : Int32 → St → Prop) (hw : w_X4_isAlike σ x0 x1 post) : Ci l yX4_isAlike wsX4_isAlike 0 0 D cI (wX cI q σ) sz [.int x0, .int x1, .ref (q 1)] (wX cI q) post := by
  refine mo_i (cc := cX4_isAlike) (maxL := 3) (ret := (some .boolean)) (by decide) rfl (Nat.le_of_ble_eq_true rfl) ?_
  intro p e s m below meth c hx hb hr hml hts hown hlocks hK A hA hC ls hl
  have hown : s.vm.findClass RX4 = some m.cls := hown
  have hl : lv_has ls 3 [(0, .int x0), (1, .int x1), (2, .ref (q 1))] := hl
  have u1 : (Cond.fieldLink RX4 55 "PictureHeap$Album" "cameraOf" "[I").before [.int x0, .int x1, .ref (q 1)].toArray s = true := hts _ (List.mem_of_getElem? (i := 1) rfl)
  have u2 : (Cond.fieldLink RX4 72 "PictureHeap$Album" "marksOf" "[I").before [.int x0, .int x1, .ref (q 1)].toArray s = true := hts _ (List.mem_of_getElem? (i := 2) rfl)
  have iX0 : ∀ w ∈ wsX00, w ∈ wsX4_isAlike := fun _ h => List.mem_cons_of_mem _ (List.mem_append_right _ h)
  refine lv_aload_n hx hb dX4_isAlike_0 rfl (lv_at hl 2 rfl) ?_
  refine cx_get (v := .ref (q 7)) hx hb hts iX0 hown hK hC 1 rfl rfl 0 (by decide) u1 rfl rfl dX4_isAlike_1 ?_
  refine lv_iload_n hx hb dX4_isAlike_4 rfl (lv_at hl 0 rfl) ?_
  refine cx_iald (f := σ.2 0) hx hb hK hC 7 rfl hw.1 dX4_isAlike_5 ?_
  have hw := hw.2
  refine lv_aload_n hx hb dX4_isAlike_6 rfl (lv_at hl 2 rfl) ?_
  refine cx_get (v := .ref (q 7)) hx hb hts iX0 hown hK hC 1 rfl rfl 0 (by decide) u1 rfl rfl dX4_isAlike_7 ?_
  refine lv_iload_n hx hb dX4_isAlike_10 rfl (lv_at hl 1 rfl) ?_
  refine cx_iald (f := σ.2 0) hx hb hK hC 7 rfl hw.1 dX4_isAlike_11 ?_
  have hw := hw.2
  refine lv_icmp_eq (tgt := 43) hx hb dX4_isAlike_12 (by decide) (fun c_1 => ?_) (fun c_1 => ?_)
  · have hw := hw.1 c_1
    refine lv_iconst (v := 0) hx hb dX4_isAlike_43 (by decide) ?_
    exact cx_ret_z (u := σ) hx hb hr hlocks hK hC rfl hw dX4_isAlike_44
  · have hw := hw.2 c_1
    refine lv_aload_n hx hb dX4_isAlike_15 rfl (lv_at hl 2 rfl) ?_
    refine cx_get (v := .ref (q 9)) hx hb hts iX0 hown hK hC 1 rfl rfl 2 (by decide) u2 rfl rfl dX4_isAlike_16 ?_
    refine lv_iload_n hx hb dX4_isAlike_19 rfl (lv_at hl 0 rfl) ?_
    refine cx_iald (f := σ.2 2) hx hb hK hC 9 rfl hw.1 dX4_isAlike_20 ?_
    have hw := hw.2
    refine lv_aload_n hx hb dX4_isAlike_21 rfl (lv_at hl 2 rfl) ?_
    refine cx_get (v := .ref (q 9)) hx hb hts iX0 hown hK hC 1 rfl rfl 2 (by decide) u2 rfl rfl dX4_isAlike_22 ?_
    refine lv_iload_n hx hb dX4_isAlike_25 rfl (lv_at hl 1 rfl) ?_
    refine cx_iald (f := σ.2 2) hx hb hK hC 9 rfl hw.1 dX4_isAlike_26 ?_
    have hw := hw.2
    refine lv_icmp_ne (tgt := 43) hx hb dX4_isAlike_27 (by decide) (fun c_2 => ?_) (fun c_2 => ?_)
    · have hw := hw.1 c_2
      refine lv_iconst (v := 0) hx hb dX4_isAlike_43 (by decide) ?_
      exact cx_ret_z (u := σ) hx hb hr hlocks hK hC rfl hw dX4_isAlike_44
    · have hw := hw.2 c_2
      refine lv_aload_n hx hb dX4_isAlike_30 rfl (lv_at hl 2 rfl) ?_
      refine cx_get (v := .ref (q 9)) hx hb hts iX0 hown hK hC 1 rfl rfl 2 (by decide) u2 rfl rfl dX4_isAlike_31 ?_
      refine lv_iload_n hx hb dX4_isAlike_34 rfl (lv_at hl 0 rfl) ?_
      refine cx_iald (f := σ.2 2) hx hb hK hC 9 rfl hw.1 dX4_isAlike_35 ?_
      have hw := hw.2
      refine lv_if_eq (tgt := 43) hx hb dX4_isAlike_36 (by decide) (fun c_3 => ?_) (fun c_3 => ?_)
      · have hw := hw.1 c_3
        refine lv_iconst (v := 0) hx hb dX4_isAlike_43 (by decide) ?_
        exact cx_ret_z (u := σ) hx hb hr hlocks hK hC rfl hw dX4_isAlike_44
      · have hw := hw.2 c_3
        refine lv_iconst (v := 1) hx hb dX4_isAlike_39 (by decide) ?_
        refine lv_goto (tgt := 44) hx hb dX4_isAlike_40 (by decide) ?_
        exact cx_ret_z (u := σ) hx hb hr hlocks hK hC rfl hw dX4_isAlike_44

/-! PictureHeap$Timeline.doubleTally(LPictureHeap$Album;)I (X4_doubleTally) -/
set_option maxHeartbeats 1000000 in
set_option maxRecDepth 100000 in
theorem c_X4_doubleTally (l : Launch) (D : va_G) (cI : ClassId) (q : Nat → Nat) (sz : Nat) (σ : St) (post : Int32 → St → Prop) (hw : w_X4_doubleTally σ post) : Ci l yX4_doubleTally wsX4_doubleTally 1 22 D cI (wX cI q σ) sz [.ref (q 4), .ref (q 1)] (wX cI q) post := by
  refine mo_i (cc := cX4_doubleTally) (maxL := 5) (ret := (some .int)) (by decide) rfl (Nat.le_of_ble_eq_true rfl) ?_
  intro p e s m below meth c hx hb hr hml hts hown hlocks hK A hA hC ls hl
  have hown : s.vm.findClass RX4 = some m.cls := hown
  have hl : lv_has ls 5 [(0, .ref (q 4)), (1, .ref (q 1))] := hl
  have u1 : (Cond.fieldLink RX4 25 "PictureHeap$Timeline" "size" "I").before [.ref (q 4), .ref (q 1)].toArray s = true := hts _ (List.mem_of_getElem? (i := 1) rfl)
  have u2 : (Cond.fieldLink RX4 18 "PictureHeap$Timeline" "sequence" "[I").before [.ref (q 4), .ref (q 1)].toArray s = true := hts _ (List.mem_of_getElem? (i := 2) rfl)
  have iX4 : ∀ w ∈ wsX40, w ∈ wsX4_doubleTally := fun _ h => List.mem_cons_of_mem _ (List.mem_append_left _ (List.mem_append_right _ h))
  have L17 : ∀ (x3_5 : Int32) (K : Int32 → Int32 → St → Prop) (hKK : ∀ (x2_6 : Int32) (x4_7 : Int32) (s_8 : St) (H : Heap) (locs : List Loc) (ls : Array Slot), K x2_6 x4_7 s_8 → Cx D A s.heap (wX cI q s_8) H locs → lv_has ls 5 [(0, .ref (q 4)), (1, .ref (q 1)), (2, .int x2_6), (3, .int x3_5), (4, .int x4_7)] → W p l e (Rm 1 22) s m [.ref (q 4), .ref (q 1)].toArray below meth c H locs 0 0 (QI below D cI A (wX cI q) post [.ref (q 4), .ref (q 1)].toArray s) (F0 m 66 ls [])) (n : Nat), ∀ (x2_6 : Int32) (x4_7 : Int32) (s_8 : St) (H : Heap) (locs : List Loc) (ls : Array Slot), w_X4_doubleTally_L17 x3_5 post K n x2_6 x4_7 s_8 → Cx D A s.heap (wX cI q s_8) H locs → lv_has ls 5 [(0, .ref (q 4)), (1, .ref (q 1)), (2, .int x2_6), (3, .int x3_5), (4, .int x4_7)] → W p l e (Rm 1 22) s m [.ref (q 4), .ref (q 1)].toArray below meth c H locs 0 0 (QI below D cI A (wX cI q) post [.ref (q 4), .ref (q 1)].toArray s) (F0 m 17 ls []) := by
    intro x3_5 K hKK n
    induction n with
    | zero => intro x2_6 x4_7 s_8 H locs ls hw; exact hw.elim
    | succ n ih =>
      intro x2_6 x4_7 s_8 H locs ls hw hC hl
      refine lv_iload hx hb dX4_doubleTally_17 (lv_at hl 4 rfl) ?_
      refine lv_aload_n hx hb dX4_doubleTally_19 rfl (lv_at hl 0 rfl) ?_
      refine cx_get (v := .int (s_8.1 9)) hx hb hts iX4 hown hK hC 4 rfl rfl 4 (by decide) u1 rfl rfl dX4_doubleTally_20 ?_
      refine lv_icmp_ge (tgt := 66) hx hb dX4_doubleTally_23 (by decide) (fun c_9 => ?_) (fun c_9 => ?_)
      · have hw := hw.1 c_9
        exact hKK x2_6 x4_7 s_8 _ _ _ hw hC (lv_sub hl [0, 1, 2, 3, 4] rfl)
      · have hw := hw.2 c_9
        refine lv_aload_n hx hb dX4_doubleTally_26 rfl (lv_at hl 0 rfl) ?_
        refine lv_iload_n hx hb dX4_doubleTally_27 rfl (lv_at hl 3 rfl) ?_
        refine lv_iload hx hb dX4_doubleTally_28 (lv_at hl 4 rfl) ?_
        refine cx_callVi0 (As := [.int x3_5, .int x4_7]) (rest := []) ⟨hx, hb, hml, hown, hts⟩ (c_X4_minutesFrom l D cI q _ s_8 x3_5 x4_7 _ hw) (cwV 2 hts gX4_doubleTally_X4_minutesFrom rfl rfl rfl (by decide +kernel) ⟨Nat.le_of_ble_eq_true rfl, Nat.le_of_ble_eq_true rfl⟩) hK hC hA 4 rfl rfl rfl rfl hl.1 rfl (Nat.le_of_ble_eq_true rfl) dX4_doubleTally_30 ⟨Nat.zero_le _, Nat.zero_le _⟩ (fun r_10 u_11 H locs hw hC => ?_)
        refine lv_iconst (v := 5) hx hb dX4_doubleTally_33 (by decide) ?_
        refine lv_icmp_gt (tgt := 66) hx hb dX4_doubleTally_34 (by decide) (fun c_12 => ?_) (fun c_12 => ?_)
        · have hw := hw.1 c_12
          exact hKK x2_6 x4_7 u_11 _ _ _ hw hC (lv_sub hl [0, 1, 2, 3, 4] rfl)
        · have hw := hw.2 c_12
          refine lv_aload_n hx hb dX4_doubleTally_37 rfl (lv_at hl 0 rfl) ?_
          refine cx_get (v := .ref (q 21)) hx hb hts iX4 hown hK hC 4 rfl rfl 2 (by decide) u2 rfl rfl dX4_doubleTally_38 ?_
          refine lv_iload_n hx hb dX4_doubleTally_41 rfl (lv_at hl 3 rfl) ?_
          refine cx_iald (f := u_11.2 14) hx hb hK hC 21 rfl hw.1 dX4_doubleTally_42 ?_
          have hw := hw.2
          refine lv_aload_n hx hb dX4_doubleTally_43 rfl (lv_at hl 0 rfl) ?_
          refine cx_get (v := .ref (q 21)) hx hb hts iX4 hown hK hC 4 rfl rfl 2 (by decide) u2 rfl rfl dX4_doubleTally_44 ?_
          refine lv_iload hx hb dX4_doubleTally_47 (lv_at hl 4 rfl) ?_
          refine cx_iald (f := u_11.2 14) hx hb hK hC 21 rfl hw.1 dX4_doubleTally_49 ?_
          have hw := hw.2
          refine lv_aload_n hx hb dX4_doubleTally_50 rfl (lv_at hl 1 rfl) ?_
          refine cx_callSi0 (As := [.int (u_11.2 14 (Int32.toNatClampNeg x3_5)), .int (u_11.2 14 (Int32.toNatClampNeg x4_7)), .ref (q 1)]) (rest := []) ⟨hx, hb, hml, hown, hts⟩ (c_X4_isAlike l D cI q _ u_11 (u_11.2 14 (Int32.toNatClampNeg x3_5)) (u_11.2 14 (Int32.toNatClampNeg x4_7)) _ hw) (va_cwS 3 hts gX4_doubleTally_X4_isAlike rfl rfl rfl (by decide +kernel) ⟨Nat.le_of_ble_eq_true rfl, Nat.le_of_ble_eq_true rfl⟩) hK hC hA rfl hl.1 rfl (Nat.le_of_ble_eq_true rfl) dX4_doubleTally_51 ⟨Nat.zero_le _, Nat.zero_le _⟩ (fun r_13 u_14 H locs hw hC => ?_)
          refine lv_if_eq (tgt := 60) hx hb dX4_doubleTally_54 (by decide) (fun c_15 => ?_) (fun c_15 => ?_)
          · have hw := hw.1 c_15
            refine lv_iinc (v := (x4_7 + 1)) (lv' := [(4, .int (x4_7 + 1)), (0, .ref (q 4)), (1, .ref (q 1)), (2, .int x2_6), (3, .int x3_5)]) hx hb dX4_doubleTally_60 hl (k := 4) rfl rfl (by decide) rfl (fun ls hl => ?_)
            refine lv_goto (tgt := 17) hx hb dX4_doubleTally_63 (by decide) ?_
            exact ih x2_6 (x4_7 + 1) u_14 _ _ _ hw hC (lv_sub hl [1, 2, 3, 4, 0] rfl)
          · have hw := hw.2 c_15
            refine lv_iinc (v := (x2_6 + 1)) (lv' := [(2, .int (x2_6 + 1)), (0, .ref (q 4)), (1, .ref (q 1)), (3, .int x3_5), (4, .int x4_7)]) hx hb dX4_doubleTally_57 hl (k := 2) rfl rfl (by decide) rfl (fun ls hl => ?_)
            refine lv_iinc (v := (x4_7 + 1)) (lv' := [(4, .int (x4_7 + 1)), (2, .int (x2_6 + 1)), (0, .ref (q 4)), (1, .ref (q 1)), (3, .int x3_5)]) hx hb dX4_doubleTally_60 hl (k := 4) rfl rfl (by decide) rfl (fun ls hl => ?_)
            refine lv_goto (tgt := 17) hx hb dX4_doubleTally_63 (by decide) ?_
            exact ih (x2_6 + 1) (x4_7 + 1) u_14 _ _ _ hw hC (lv_sub hl [2, 3, 1, 4, 0] rfl)
  have L4 : ∀ (K : Int32 → Int32 → St → Prop) (hKK : ∀ (x2_1 : Int32) (x3_2 : Int32) (s_3 : St) (H : Heap) (locs : List Loc) (ls : Array Slot), K x2_1 x3_2 s_3 → Cx D A s.heap (wX cI q s_3) H locs → lv_has ls 5 [(0, .ref (q 4)), (1, .ref (q 1)), (2, .int x2_1), (3, .int x3_2)] → W p l e (Rm 1 22) s m [.ref (q 4), .ref (q 1)].toArray below meth c H locs 0 0 (QI below D cI A (wX cI q) post [.ref (q 4), .ref (q 1)].toArray s) (F0 m 72 ls [])) (n : Nat), ∀ (x2_1 : Int32) (x3_2 : Int32) (s_3 : St) (H : Heap) (locs : List Loc) (ls : Array Slot), w_X4_doubleTally_L4 post K n x2_1 x3_2 s_3 → Cx D A s.heap (wX cI q s_3) H locs → lv_has ls 5 [(0, .ref (q 4)), (1, .ref (q 1)), (2, .int x2_1), (3, .int x3_2)] → W p l e (Rm 1 22) s m [.ref (q 4), .ref (q 1)].toArray below meth c H locs 0 0 (QI below D cI A (wX cI q) post [.ref (q 4), .ref (q 1)].toArray s) (F0 m 4 ls []) := by
    intro  K hKK n
    induction n with
    | zero => intro x2_1 x3_2 s_3 H locs ls hw; exact hw.elim
    | succ n ih =>
      intro x2_1 x3_2 s_3 H locs ls hw hC hl
      refine lv_iload_n hx hb dX4_doubleTally_4 rfl (lv_at hl 3 rfl) ?_
      refine lv_aload_n hx hb dX4_doubleTally_5 rfl (lv_at hl 0 rfl) ?_
      refine cx_get (v := .int (s_3.1 9)) hx hb hts iX4 hown hK hC 4 rfl rfl 4 (by decide) u1 rfl rfl dX4_doubleTally_6 ?_
      refine lv_icmp_ge (tgt := 72) hx hb dX4_doubleTally_9 (by decide) (fun c_4 => ?_) (fun c_4 => ?_)
      · have hw := hw.1 c_4
        exact hKK x2_1 x3_2 s_3 _ _ _ hw hC (lv_sub hl [0, 1, 2, 3] rfl)
      · have hw := hw.2 c_4
        refine lv_iload_n hx hb dX4_doubleTally_12 rfl (lv_at hl 3 rfl) ?_
        refine lv_iconst (v := 1) hx hb dX4_doubleTally_13 (by decide) ?_
        refine lv_iadd hx hb dX4_doubleTally_14 ?_
        refine lv_istore (lv' := [(4, .int (x3_2 + 1)), (0, .ref (q 4)), (1, .ref (q 1)), (2, .int x2_1), (3, .int x3_2)]) hx hb dX4_doubleTally_15 hl (by decide) rfl (fun ls hl => ?_)
        obtain ⟨n, hw⟩ := hw
        refine L17 x3_2 _ (fun x2_16 x4_17 s_18 H locs ls hw hC hl => ?_) n x2_1 (x3_2 + 1) s_3 _ _ _ hw hC (lv_sub hl [1, 2, 3, 4, 0] rfl)
        refine lv_iinc (v := (x3_2 + 1)) (lv' := [(3, .int (x3_2 + 1)), (0, .ref (q 4)), (1, .ref (q 1)), (2, .int x2_16), (4, .int x4_17)]) hx hb dX4_doubleTally_66 hl (k := 3) rfl rfl (by decide) rfl (fun ls hl => ?_)
        refine lv_goto (tgt := 4) hx hb dX4_doubleTally_69 (by decide) ?_
        exact ih x2_16 (x3_2 + 1) s_18 _ _ _ hw hC (lv_sub hl [1, 2, 3, 0] rfl)
  refine lv_iconst (v := 0) hx hb dX4_doubleTally_0 (by decide) ?_
  refine lv_istore_n (lv' := [(2, .int 0), (0, .ref (q 4)), (1, .ref (q 1))]) hx hb dX4_doubleTally_1 rfl hl (by decide) rfl (fun ls hl => ?_)
  refine lv_iconst (v := 0) hx hb dX4_doubleTally_2 (by decide) ?_
  refine lv_istore_n (lv' := [(3, .int 0), (2, .int 0), (0, .ref (q 4)), (1, .ref (q 1))]) hx hb dX4_doubleTally_3 rfl hl (by decide) rfl (fun ls hl => ?_)
  obtain ⟨n, hw⟩ := hw
  refine L4  _ (fun x2_20 x3_21 s_22 H locs ls hw hC hl => ?_) n 0 0 σ _ _ _ hw hC (lv_sub hl [2, 3, 1, 0] rfl)
  refine lv_iload_n hx hb dX4_doubleTally_72 rfl (lv_at hl 2 rfl) ?_
  exact cx_ret_i (u := s_22) hx hb hr hlocks hK hC hw dX4_doubleTally_73
