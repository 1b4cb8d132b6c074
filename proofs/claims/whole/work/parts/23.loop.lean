theorem sw_30 (x : Int32) : (x.toInt < 0 ∨ 29 < x.toInt) ∨ x = 0 ∨ x = 1 ∨ x = 2 ∨ x = 3 ∨ x = 4 ∨ x = 5 ∨ x = 6 ∨ x = 7 ∨ x = 8 ∨ x = 9 ∨ x = 10 ∨ x = 11 ∨ x = 12 ∨ x = 13 ∨ x = 14 ∨ x = 15 ∨ x = 16 ∨ x = 17 ∨ x = 18 ∨ x = 19 ∨ x = 20 ∨ x = 21 ∨ x = 22 ∨ x = 23 ∨ x = 24 ∨ x = 25 ∨ x = 26 ∨ x = 27 ∨ x = 28 ∨ x = 29 := by
  by_cases h : x.toInt < 0 ∨ 29 < x.toInt
  · exact Or.inl h
  · refine Or.inr ?_
    have h3 : x.toInt = 0 ∨ x.toInt = 1 ∨ x.toInt = 2 ∨ x.toInt = 3 ∨ x.toInt = 4 ∨ x.toInt = 5 ∨ x.toInt = 6 ∨ x.toInt = 7 ∨ x.toInt = 8 ∨ x.toInt = 9 ∨ x.toInt = 10 ∨ x.toInt = 11 ∨ x.toInt = 12 ∨ x.toInt = 13 ∨ x.toInt = 14 ∨ x.toInt = 15 ∨ x.toInt = 16 ∨ x.toInt = 17 ∨ x.toInt = 18 ∨ x.toInt = 19 ∨ x.toInt = 20 ∨ x.toInt = 21 ∨ x.toInt = 22 ∨ x.toInt = 23 ∨ x.toInt = 24 ∨ x.toInt = 25 ∨ x.toInt = 26 ∨ x.toInt = 27 ∨ x.toInt = 28 ∨ x.toInt = 29 := by omega
    rcases h3 with h | h | h | h | h | h | h | h | h | h | h | h | h | h | h | h | h | h | h | h | h | h | h | h | h | h | h | h | h | h
    · exact (Or.inl (Int32.toInt_inj.mp h))
    · exact (Or.inr (Or.inl (Int32.toInt_inj.mp h)))
    · exact (Or.inr (Or.inr (Or.inl (Int32.toInt_inj.mp h))))
    · exact (Or.inr (Or.inr (Or.inr (Or.inl (Int32.toInt_inj.mp h)))))
    · exact (Or.inr (Or.inr (Or.inr (Or.inr (Or.inl (Int32.toInt_inj.mp h))))))
    · exact (Or.inr (Or.inr (Or.inr (Or.inr (Or.inr (Or.inl (Int32.toInt_inj.mp h)))))))
    · exact (Or.inr (Or.inr (Or.inr (Or.inr (Or.inr (Or.inr (Or.inl (Int32.toInt_inj.mp h))))))))
    · exact (Or.inr (Or.inr (Or.inr (Or.inr (Or.inr (Or.inr (Or.inr (Or.inl (Int32.toInt_inj.mp h)))))))))
    · exact (Or.inr (Or.inr (Or.inr (Or.inr (Or.inr (Or.inr (Or.inr (Or.inr (Or.inl (Int32.toInt_inj.mp h))))))))))
    · exact (Or.inr (Or.inr (Or.inr (Or.inr (Or.inr (Or.inr (Or.inr (Or.inr (Or.inr (Or.inl (Int32.toInt_inj.mp h)))))))))))
    · exact (Or.inr (Or.inr (Or.inr (Or.inr (Or.inr (Or.inr (Or.inr (Or.inr (Or.inr (Or.inr (Or.inl (Int32.toInt_inj.mp h))))))))))))
    · exact (Or.inr (Or.inr (Or.inr (Or.inr (Or.inr (Or.inr (Or.inr (Or.inr (Or.inr (Or.inr (Or.inr (Or.inl (Int32.toInt_inj.mp h)))))))))))))
    · exact (Or.inr (Or.inr (Or.inr (Or.inr (Or.inr (Or.inr (Or.inr (Or.inr (Or.inr (Or.inr (Or.inr (Or.inr (Or.inl (Int32.toInt_inj.mp h))))))))))))))
    · exact (Or.inr (Or.inr (Or.inr (Or.inr (Or.inr (Or.inr (Or.inr (Or.inr (Or.inr (Or.inr (Or.inr (Or.inr (Or.inr (Or.inl (Int32.toInt_inj.mp h)))))))))))))))
    · exact (Or.inr (Or.inr (Or.inr (Or.inr (Or.inr (Or.inr (Or.inr (Or.inr (Or.inr (Or.inr (Or.inr (Or.inr (Or.inr (Or.inr (Or.inl (Int32.toInt_inj.mp h))))))))))))))))
    · exact (Or.inr (Or.inr (Or.inr (Or.inr (Or.inr (Or.inr (Or.inr (Or.inr (Or.inr (Or.inr (Or.inr (Or.inr (Or.inr (Or.inr (Or.inr (Or.inl (Int32.toInt_inj.mp h)))))))))))))))))
    · exact (Or.inr (Or.inr (Or.inr (Or.inr (Or.inr (Or.inr (Or.inr (Or.inr (Or.inr (Or.inr (Or.inr (Or.inr (Or.inr (Or.inr (Or.inr (Or.inr (Or.inl (Int32.toInt_inj.mp h))))))))))))))))))
    · exact (Or.inr (Or.inr (Or.inr (Or.inr (Or.inr (Or.inr (Or.inr (Or.inr (Or.inr (Or.inr (Or.inr (Or.inr (Or.inr (Or.inr (Or.inr (Or.inr (Or.inr (Or.inl (Int32.toInt_inj.mp h)))))))))))))))))))
    · exact (Or.inr (Or.inr (Or.inr (Or.inr (Or.inr (Or.inr (Or.inr (Or.inr (Or.inr (Or.inr (Or.inr (Or.inr (Or.inr (Or.inr (Or.inr (Or.inr (Or.inr (Or.inr (Or.inl (Int32.toInt_inj.mp h))))))))))))))))))))
    · exact (Or.inr (Or.inr (Or.inr (Or.inr (Or.inr (Or.inr (Or.inr (Or.inr (Or.inr (Or.inr (Or.inr (Or.inr (Or.inr (Or.inr (Or.inr (Or.inr (Or.inr (Or.inr (Or.inr (Or.inl (Int32.toInt_inj.mp h)))))))))))))))))))))
    · exact (Or.inr (Or.inr (Or.inr (Or.inr (Or.inr (Or.inr (Or.inr (Or.inr (Or.inr (Or.inr (Or.inr (Or.inr (Or.inr (Or.inr (Or.inr (Or.inr (Or.inr (Or.inr (Or.inr (Or.inr (Or.inl (Int32.toInt_inj.mp h))))))))))))))))))))))
    · exact (Or.inr (Or.inr (Or.inr (Or.inr (Or.inr (Or.inr (Or.inr (Or.inr (Or.inr (Or.inr (Or.inr (Or.inr (Or.inr (Or.inr (Or.inr (Or.inr (Or.inr (Or.inr (Or.inr (Or.inr (Or.inr (Or.inl (Int32.toInt_inj.mp h)))))))))))))))))))))))
    · exact (Or.inr (Or.inr (Or.inr (Or.inr (Or.inr (Or.inr (Or.inr (Or.inr (Or.inr (Or.inr (Or.inr (Or.inr (Or.inr (Or.inr (Or.inr (Or.inr (Or.inr (Or.inr (Or.inr (Or.inr (Or.inr (Or.inr (Or.inl (Int32.toInt_inj.mp h))))))))))))))))))))))))
    · exact (Or.inr (Or.inr (Or.inr (Or.inr (Or.inr (Or.inr (Or.inr (Or.inr (Or.inr (Or.inr (Or.inr (Or.inr (Or.inr (Or.inr (Or.inr (Or.inr (Or.inr (Or.inr (Or.inr (Or.inr (Or.inr (Or.inr (Or.inr (Or.inl (Int32.toInt_inj.mp h)))))))))))))))))))))))))
    · exact (Or.inr (Or.inr (Or.inr (Or.inr (Or.inr (Or.inr (Or.inr (Or.inr (Or.inr (Or.inr (Or.inr (Or.inr (Or.inr (Or.inr (Or.inr (Or.inr (Or.inr (Or.inr (Or.inr (Or.inr (Or.inr (Or.inr (Or.inr (Or.inr (Or.inl (Int32.toInt_inj.mp h))))))))))))))))))))))))))
    · exact (Or.inr (Or.inr (Or.inr (Or.inr (Or.inr (Or.inr (Or.inr (Or.inr (Or.inr (Or.inr (Or.inr (Or.inr (Or.inr (Or.inr (Or.inr (Or.inr (Or.inr (Or.inr (Or.inr (Or.inr (Or.inr (Or.inr (Or.inr (Or.inr (Or.inr (Or.inl (Int32.toInt_inj.mp h)))))))))))))))))))))))))))
    · exact (Or.inr (Or.inr (Or.inr (Or.inr (Or.inr (Or.inr (Or.inr (Or.inr (Or.inr (Or.inr (Or.inr (Or.inr (Or.inr (Or.inr (Or.inr (Or.inr (Or.inr (Or.inr (Or.inr (Or.inr (Or.inr (Or.inr (Or.inr (Or.inr (Or.inr (Or.inr (Or.inl (Int32.toInt_inj.mp h))))))))))))))))))))))))))))
    · exact (Or.inr (Or.inr (Or.inr (Or.inr (Or.inr (Or.inr (Or.inr (Or.inr (Or.inr (Or.inr (Or.inr (Or.inr (Or.inr (Or.inr (Or.inr (Or.inr (Or.inr (Or.inr (Or.inr (Or.inr (Or.inr (Or.inr (Or.inr (Or.inr (Or.inr (Or.inr (Or.inr (Or.inl (Int32.toInt_inj.mp h)))))))))))))))))))))))))))))
    · exact (Or.inr (Or.inr (Or.inr (Or.inr (Or.inr (Or.inr (Or.inr (Or.inr (Or.inr (Or.inr (Or.inr (Or.inr (Or.inr (Or.inr (Or.inr (Or.inr (Or.inr (Or.inr (Or.inr (Or.inr (Or.inr (Or.inr (Or.inr (Or.inr (Or.inr (Or.inr (Or.inr (Or.inr (Or.inl (Int32.toInt_inj.mp h))))))))))))))))))))))))))))))
    · exact (Or.inr (Or.inr (Or.inr (Or.inr (Or.inr (Or.inr (Or.inr (Or.inr (Or.inr (Or.inr (Or.inr (Or.inr (Or.inr (Or.inr (Or.inr (Or.inr (Or.inr (Or.inr (Or.inr (Or.inr (Or.inr (Or.inr (Or.inr (Or.inr (Or.inr (Or.inr (Or.inr (Or.inr (Or.inr (Int32.toInt_inj.mp h))))))))))))))))))))))))))))))
set_option maxHeartbeats 8000000 in
set_option maxRecDepth 100000 in
theorem law_loop {p : Program} {l : Launch} {e : Env} {s : State} {m : MethodId} {below : List Frame} {meth : Method} {c : Code} {D : va_G} {cI cL : ClassId} {qx qm : Nat → Nat} {a sa b L : Nat} {xs : Nat → Int32} {R : Nat → St → St → Prop} (hL : L ≤ 2560) (C0 : lw_At p s m meth c b L xs) (hlt : l.stackTraces = false) (hK : va_K D vwCl [(cI, .int), (cL, .long)] s) (hT : Thr (fun q : Nat => s.heap.size ≤ q) sa s) (HS : LawSteps R) :
    ∀ (n j : Nat) (x4 : Int32), 5 * j ≤ L → L < 5 * j + 5 * n → x4 = nI (5 * j) → ∀ (σx σm : St) (g : Nat → Int64) (H : Heap) (locs : List Loc) (ls : Array Slot), R j σx σm → Cx D (fun q : Nat => s.heap.size ≤ q) s.heap (wL cI cL qx qm a σx σm g) H locs → lv_has ls 7 [(0, .ref b), (1, .ref (qx 0)), (2, .ref (qm 0)), (3, .ref a), (4, .int x4)] → W p l e room_1 s m #[Value.ref b] below meth c H locs (44 + j) (2733 + 6 * j) (lw_Z below #[Value.ref b] s) (F0 m 23 ls []) := by
  obtain ⟨hx, hb, hr, hml, hown, hts, hX, hbl, hlocks, hgv⟩ := id C0
  have hbA : ¬ (fun q : Nat => s.heap.size ≤ q) b := Nat.not_le.mpr hbl
  intro n
  induction n with
  | zero => intro j x4 h1 h2; omega
  | succ n ih =>
    intro j x4 hj hn ex4 σx σm g H locs ls hR hC hl
    refine lv_iload hx hb dL_law_23 (lv_at hl 4 rfl) ?_
    refine lv_aload_n hx hb dL_law_25 rfl (lv_at hl 0 rfl) ?_
    refine va_slen hx hb hX hbl hbA hC.2.2 dL_law_26 ?_
    refine lv_iconst (v := 5) hx hb dL_law_27 (by decide) ?_
    refine lv_isub hx hb dL_law_28 ?_
    have hdiff : (Int32.ofNat L - 5).toInt = (L : Int) - 5 := pk_sub_toInt (a := L) (b := 5) (by omega) (by decide)
    have hx4 : x4.toInt = 5 * (j : Int) := by rw [ex4, nI_toInt (by omega)]; omega
    refine lv_icmp_gt (tgt := 1015) hx hb dL_law_29 (by decide) (fun c_1 => ?_) (fun c_1 => ?_)
    · refine lv_iconst (v := 1) hx hb dL_law_1015 (by decide) ?_
      refine va_forget (fun q hq => hC.2.2.2.2 q hq) ?_
      refine W.widen (k := 1069) (n := 10931) (by omega) (by omega) ?_
      exact lw_ret hx hb hr hlocks dL_law_1016
    · have hi : 5 * j + 4 < L := by
        have h9 := Int32.not_lt.mp c_1
        have h8 := Int32.le_iff_toInt_le.mp h9
        rw [hdiff, hx4] at h8
        omega
      have hj5 : j < 512 := by omega
      have hcs : 44 + j + 1 ≤ 1069 ∧ 2733 + 6 * j + 6 ≤ 10931 := ⟨by omega, by omega⟩
      have hin0 : vp_in x4 L := by rw [ex4]; exact vp_in_nI (by omega) (by omega)
      have next : ∀ (σx σm : St) (g : Nat → Int64) (H : Heap) (locs : List Loc) (ls : Array Slot), R (j + 1) σx σm → Cx D (fun q : Nat => s.heap.size ≤ q) s.heap (wL cI cL qx qm a σx σm g) H locs → lv_has ls 7 [(0, .ref b), (1, .ref (qx 0)), (2, .ref (qm 0)), (3, .ref a), (4, .int x4)] → W p l e room_1 s m #[Value.ref b] below meth c H locs (44 + j + 1) (2733 + 6 * j + 6) (lw_Z below #[Value.ref b] s) (F0 m 1009 ls []) := by
        intro σx σm g H locs ls hR hC hl
        refine lv_iinc (v := (x4 + 5)) (lv' := [(4, .int (x4 + 5)), (0, .ref b), (1, .ref (qx 0)), (2, .ref (qm 0)), (3, .ref a)]) hx hb dL_law_1009 hl (k := 4) rfl rfl (by decide) rfl (fun ls hl => ?_)
        refine lv_goto (tgt := 23) hx hb dL_law_1012 (by decide) ?_
        have e1 : 44 + j + 1 = 44 + (j + 1) := by omega
        have e2 : 2733 + 6 * j + 6 = 2733 + 6 * (j + 1) := by omega
        rw [e1, e2]
        exact ih (j + 1) (x4 + 5) (by omega) (by omega) (by rw [ex4, show (5 : Int32) = nI 5 from rfl, nI_add, show 5 * j + 5 = 5 * (j + 1) by omega]) σx σm g H locs ls hR hC (lv_sub hl [1, 2, 3, 4, 0] rfl)
      refine lv_aload_n hx hb dL_law_32 rfl (lv_at hl 0 rfl) ?_
      refine lv_iload hx hb dL_law_33 (lv_at hl 4 rfl) ?_
      refine va_sld hx hb hX hbl hbA hC.2.2 hin0 dL_law_35 ?_
      refine lv_bipush (v := 31) hx hb dL_law_36 (by decide) ?_
      refine lv_iand hx hb dL_law_38 ?_
      rcases sw_30 (xs x4.toNatClampNeg &&& 31) with c0 | c0 | c0 | c0 | c0 | c0 | c0 | c0 | c0 | c0 | c0 | c0 | c0 | c0 | c0 | c0 | c0 | c0 | c0 | c0 | c0 | c0 | c0 | c0 | c0 | c0 | c0 | c0 | c0 | c0 | c0
      · refine lv_tableOut (tgt := 1009) hx hb dL_law_39 c0 (by decide) ?_
        refine W.widen (k := 44 + j + 1) (n := 2733 + 6 * j + 6) (by omega) (by omega) ?_
        exact next σx σm g H locs ls (HS.2.2.2.2.2.2.2.2.2.2.2.2.2.2.2.2.2.2.2.2.2.2.2.2.2.2.2.2.2.2 j σx σm hR) hC hl
      · refine lv_tableIn (off := 133) (tgt := 172) hx hb dL_law_39 (by rw [c0]; decide) (by rw [c0]; decide) (by rw [c0]; rfl) (by decide) ?_
        exact lc_0 (cells := 44 + j) (slots := 2733 + 6 * j) hL C0 hK hC hl ex4 (by omega) hcs (HS.1 j σx σm  hj5 hR) next
      · refine lv_tableIn (off := 146) (tgt := 185) hx hb dL_law_39 (by rw [c0]; decide) (by rw [c0]; decide) (by rw [c0]; rfl) (by decide) ?_
        exact lc_1 (cells := 44 + j) (slots := 2733 + 6 * j) hL C0 hK hC hl ex4 (by omega) hcs (HS.2.1 j σx σm  hj5 hR) next
      · refine lv_tableIn (off := 159) (tgt := 198) hx hb dL_law_39 (by rw [c0]; decide) (by rw [c0]; decide) (by rw [c0]; rfl) (by decide) ?_
        exact lc_2 (cells := 44 + j) (slots := 2733 + 6 * j) hL C0 hK hC hl ex4 (by omega) hcs (HS.2.2.1 j σx σm _ _ _ hj5 hR) next
      · refine lv_tableIn (off := 208) (tgt := 247) hx hb dL_law_39 (by rw [c0]; decide) (by rw [c0]; decide) (by rw [c0]; rfl) (by decide) ?_
        exact lc_3 (cells := 44 + j) (slots := 2733 + 6 * j) hL C0 hK hC hl ex4 (by omega) hcs (HS.2.2.2.1 j σx σm _ _ _ _ hj5 hR) next
      · refine lv_tableIn (off := 269) (tgt := 308) hx hb dL_law_39 (by rw [c0]; decide) (by rw [c0]; decide) (by rw [c0]; rfl) (by decide) ?_
        exact lc_4 (cells := 44 + j) (slots := 2733 + 6 * j) hL C0 hK hC hl ex4 (by omega) hcs (HS.2.2.2.2.1 j σx σm _ hj5 hR) next
      · refine lv_tableIn (off := 294) (tgt := 333) hx hb dL_law_39 (by rw [c0]; decide) (by rw [c0]; decide) (by rw [c0]; rfl) (by decide) ?_
        exact lc_5 (cells := 44 + j) (slots := 2733 + 6 * j) hL C0 hK hC hl ex4 (by omega) hcs (HS.2.2.2.2.2.1 j σx σm _ _ _ hj5 hR) next
      · refine lv_tableIn (off := 343) (tgt := 382) hx hb dL_law_39 (by rw [c0]; decide) (by rw [c0]; decide) (by rw [c0]; rfl) (by decide) ?_
        exact lc_6 (cells := 44 + j) (slots := 2733 + 6 * j) hL C0 hK hC hl ex4 (by omega) hcs (HS.2.2.2.2.2.2.1 j σx σm _ _ hj5 hR) next
      · refine lv_tableIn (off := 380) (tgt := 419) hx hb dL_law_39 (by rw [c0]; decide) (by rw [c0]; decide) (by rw [c0]; rfl) (by decide) ?_
        exact lc_7 (cells := 44 + j) (slots := 2733 + 6 * j) hL C0 hK hC hl ex4 (by omega) hcs (HS.2.2.2.2.2.2.2.1 j σx σm _ _ _ hj5 hR) next
      · refine lv_tableIn (off := 429) (tgt := 468) hx hb dL_law_39 (by rw [c0]; decide) (by rw [c0]; decide) (by rw [c0]; rfl) (by decide) ?_
        exact lc_8 (cells := 44 + j) (slots := 2733 + 6 * j) hL C0 hK hC hl ex4 (by omega) hcs (HS.2.2.2.2.2.2.2.2.1 j σx σm  hj5 hR) next
      · refine lv_tableIn (off := 442) (tgt := 481) hx hb dL_law_39 (by rw [c0]; decide) (by rw [c0]; decide) (by rw [c0]; rfl) (by decide) ?_
        exact lc_9 (cells := 44 + j) (slots := 2733 + 6 * j) hL C0 hK hC hl ex4 (by omega) hcs (HS.2.2.2.2.2.2.2.2.2.1 j σx σm _ hj5 hR) next
      · refine lv_tableIn (off := 467) (tgt := 506) hx hb dL_law_39 (by rw [c0]; decide) (by rw [c0]; decide) (by rw [c0]; rfl) (by decide) ?_
        exact lc_10 (cells := 44 + j) (slots := 2733 + 6 * j) hL C0 hK hC hl ex4 (by omega) hcs (HS.2.2.2.2.2.2.2.2.2.2.1 j σx σm _ hj5 hR) next
      · refine lv_tableIn (off := 492) (tgt := 531) hx hb dL_law_39 (by rw [c0]; decide) (by rw [c0]; decide) (by rw [c0]; rfl) (by decide) ?_
        exact lc_11 (cells := 44 + j) (slots := 2733 + 6 * j) hL C0 hK hC hl ex4 (by omega) hcs (HS.2.2.2.2.2.2.2.2.2.2.2.1 j σx σm _ hj5 hR 0 (Or.inl rfl)) (HS.2.2.2.2.2.2.2.2.2.2.2.1 j σx σm _ hj5 hR 1 (Or.inr rfl)) next
      · refine lv_tableIn (off := 545) (tgt := 584) hx hb dL_law_39 (by rw [c0]; decide) (by rw [c0]; decide) (by rw [c0]; rfl) (by decide) ?_
        exact lc_12 (cells := 44 + j) (slots := 2733 + 6 * j) hL C0 hK hC hl ex4 (by omega) hcs (HS.2.2.2.2.2.2.2.2.2.2.2.2.1 j σx σm _ _ hj5 hR 0 (Or.inl rfl)) (HS.2.2.2.2.2.2.2.2.2.2.2.2.1 j σx σm _ _ hj5 hR 1 (Or.inr rfl)) next
      · refine lv_tableIn (off := 610) (tgt := 649) hx hb dL_law_39 (by rw [c0]; decide) (by rw [c0]; decide) (by rw [c0]; rfl) (by decide) ?_
        exact lc_13 (cells := 44 + j) (slots := 2733 + 6 * j) hL C0 hK hC hl ex4 (by omega) hcs (HS.2.2.2.2.2.2.2.2.2.2.2.2.2.1 j σx σm _ _ hj5 hR) next
      · refine lv_tableIn (off := 647) (tgt := 686) hx hb dL_law_39 (by rw [c0]; decide) (by rw [c0]; decide) (by rw [c0]; rfl) (by decide) ?_
        exact lc_14 (cells := 44 + j) (slots := 2733 + 6 * j) hL C0 hK hC hl ex4 (by omega) hcs (HS.2.2.2.2.2.2.2.2.2.2.2.2.2.2.1 j σx σm  hj5 hR) next
      · refine lv_tableIn (off := 660) (tgt := 699) hx hb dL_law_39 (by rw [c0]; decide) (by rw [c0]; decide) (by rw [c0]; rfl) (by decide) ?_
        exact lc_15 (cells := 44 + j) (slots := 2733 + 6 * j) hL C0 hK hC hl ex4 (by omega) hcs (HS.2.2.2.2.2.2.2.2.2.2.2.2.2.2.2.1 j σx σm  hj5 hR) next
      · refine lv_tableIn (off := 673) (tgt := 712) hx hb dL_law_39 (by rw [c0]; decide) (by rw [c0]; decide) (by rw [c0]; rfl) (by decide) ?_
        exact lc_16 (cells := 44 + j) (slots := 2733 + 6 * j) hL C0 hK hC hl ex4 (by omega) hcs (HS.2.2.2.2.2.2.2.2.2.2.2.2.2.2.2.2.1 j σx σm  hj5 hR) next
      · refine lv_tableIn (off := 686) (tgt := 725) hx hb dL_law_39 (by rw [c0]; decide) (by rw [c0]; decide) (by rw [c0]; rfl) (by decide) ?_
        exact lc_17 (cells := 44 + j) (slots := 2733 + 6 * j) hL C0 hK hC hl ex4 (by omega) hcs (HS.2.2.2.2.2.2.2.2.2.2.2.2.2.2.2.2.2.1 j σx σm _ hj5 hR) next
      · refine lv_tableIn (off := 711) (tgt := 750) hx hb dL_law_39 (by rw [c0]; decide) (by rw [c0]; decide) (by rw [c0]; rfl) (by decide) ?_
        exact lc_18 (cells := 44 + j) (slots := 2733 + 6 * j) hL C0 hK hC hl ex4 (by omega) hcs hlt hT (HS.2.2.2.2.2.2.2.2.2.2.2.2.2.2.2.2.2.2.2.2.2.2.2.2.2.2.2.2.2.1 j σx σm g _ hj5 hR) next
      · refine lv_tableIn (off := 767) (tgt := 806) hx hb dL_law_39 (by rw [c0]; decide) (by rw [c0]; decide) (by rw [c0]; rfl) (by decide) ?_
        exact lc_19 (cells := 44 + j) (slots := 2733 + 6 * j) hL C0 hK hC hl ex4 (by omega) hcs (HS.2.2.2.2.2.2.2.2.2.2.2.2.2.2.2.2.2.2.1 j σx σm _ hj5 hR) next
      · refine lv_tableIn (off := 792) (tgt := 831) hx hb dL_law_39 (by rw [c0]; decide) (by rw [c0]; decide) (by rw [c0]; rfl) (by decide) ?_
        exact lc_20 (cells := 44 + j) (slots := 2733 + 6 * j) hL C0 hK hC hl ex4 (by omega) hcs (HS.2.2.2.2.2.2.2.2.2.2.2.2.2.2.2.2.2.2.2.1 j σx σm  hj5 hR) next
      · refine lv_tableIn (off := 805) (tgt := 844) hx hb dL_law_39 (by rw [c0]; decide) (by rw [c0]; decide) (by rw [c0]; rfl) (by decide) ?_
        exact lc_21 (cells := 44 + j) (slots := 2733 + 6 * j) hL C0 hK hC hl ex4 (by omega) hcs (HS.2.2.2.2.2.2.2.2.2.2.2.2.2.2.2.2.2.2.2.2.1 j σx σm _ _ hj5 hR) next
      · refine lv_tableIn (off := 842) (tgt := 881) hx hb dL_law_39 (by rw [c0]; decide) (by rw [c0]; decide) (by rw [c0]; rfl) (by decide) ?_
        exact lc_22 (cells := 44 + j) (slots := 2733 + 6 * j) hL C0 hK hC hl ex4 (by omega) hcs (HS.2.2.2.2.2.2.2.2.2.2.2.2.2.2.2.2.2.2.2.2.2.1 j σx σm  hj5 hR) next
      · refine lv_tableIn (off := 855) (tgt := 894) hx hb dL_law_39 (by rw [c0]; decide) (by rw [c0]; decide) (by rw [c0]; rfl) (by decide) ?_
        exact lc_23 (cells := 44 + j) (slots := 2733 + 6 * j) hL C0 hK hC hl ex4 (by omega) hcs (HS.2.2.2.2.2.2.2.2.2.2.2.2.2.2.2.2.2.2.2.2.2.2.1 j σx σm  hj5 hR) next
      · refine lv_tableIn (off := 868) (tgt := 907) hx hb dL_law_39 (by rw [c0]; decide) (by rw [c0]; decide) (by rw [c0]; rfl) (by decide) ?_
        exact lc_24 (cells := 44 + j) (slots := 2733 + 6 * j) hL C0 hK hC hl ex4 (by omega) hcs (HS.2.2.2.2.2.2.2.2.2.2.2.2.2.2.2.2.2.2.2.2.2.2.2.1 j σx σm  hj5 hR) next
      · refine lv_tableIn (off := 881) (tgt := 920) hx hb dL_law_39 (by rw [c0]; decide) (by rw [c0]; decide) (by rw [c0]; rfl) (by decide) ?_
        exact lc_25 (cells := 44 + j) (slots := 2733 + 6 * j) hL C0 hK hC hl ex4 (by omega) hcs (HS.2.2.2.2.2.2.2.2.2.2.2.2.2.2.2.2.2.2.2.2.2.2.2.2.1 j σx σm _ hj5 hR) next
      · refine lv_tableIn (off := 906) (tgt := 945) hx hb dL_law_39 (by rw [c0]; decide) (by rw [c0]; decide) (by rw [c0]; rfl) (by decide) ?_
        exact lc_26 (cells := 44 + j) (slots := 2733 + 6 * j) hL C0 hK hC hl ex4 (by omega) hcs (HS.2.2.2.2.2.2.2.2.2.2.2.2.2.2.2.2.2.2.2.2.2.2.2.2.2.1 j σx σm  hj5 hR) next
      · refine lv_tableIn (off := 919) (tgt := 958) hx hb dL_law_39 (by rw [c0]; decide) (by rw [c0]; decide) (by rw [c0]; rfl) (by decide) ?_
        exact lc_27 (cells := 44 + j) (slots := 2733 + 6 * j) hL C0 hK hC hl ex4 (by omega) hcs (HS.2.2.2.2.2.2.2.2.2.2.2.2.2.2.2.2.2.2.2.2.2.2.2.2.2.2.1 j σx σm  hj5 hR) next
      · refine lv_tableIn (off := 932) (tgt := 971) hx hb dL_law_39 (by rw [c0]; decide) (by rw [c0]; decide) (by rw [c0]; rfl) (by decide) ?_
        exact lc_28 (cells := 44 + j) (slots := 2733 + 6 * j) hL C0 hK hC hl ex4 (by omega) hcs (HS.2.2.2.2.2.2.2.2.2.2.2.2.2.2.2.2.2.2.2.2.2.2.2.2.2.2.2.1 j σx σm _ hj5 hR) next
      · refine lv_tableIn (off := 957) (tgt := 996) hx hb dL_law_39 (by rw [c0]; decide) (by rw [c0]; decide) (by rw [c0]; rfl) (by decide) ?_
        exact lc_29 (cells := 44 + j) (slots := 2733 + 6 * j) hL C0 hK hC hl ex4 (by omega) hcs (HS.2.2.2.2.2.2.2.2.2.2.2.2.2.2.2.2.2.2.2.2.2.2.2.2.2.2.2.2.1 j σx σm  hj5 hR) next
