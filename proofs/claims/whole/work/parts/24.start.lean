def sx0 (e : Nat → Nat → Int32) : St := ((fun k => if k = 1 then (360) else if k = 3 then (-1) else 0), fun j => if j = 15 then e 0 else if j = 16 then e 1 else fun _ => 0)
def sm0 : St := ((fun k => if k = 7 then (360) else if k = 8 then (-1) else if k = 9 then (-1) else 0), fun _ => fun _ => 0)
theorem cx_perm {D : va_G} {A : Nat → Prop} {H0 H : Heap} {ws ws' : va_W} {locs : List Loc} (hC : Cx D A H0 ws H locs) (is : List Nat) (hn : va_nd is = true) (hs : is.map (fun i => ws[i]?) = ws'.map some) : Cx D A H0 ws' H locs := by
  refine ⟨?_, hC.2.1.sub is hn hs, hC.2.2⟩
  intro k q hk
  have h1 : (is.map (fun i => ws[i]?))[k]? = some (some q) := by rw [hs, List.getElem?_map, hk]; rfl
  rw [List.getElem?_map] at h1
  cases hi : is[k]? with
  | none => rw [hi] at h1; cases h1
  | some i => rw [hi] at h1; exact hC.1 i q (Option.some.inj h1)
set_option maxHeartbeats 8000000 in
set_option maxRecDepth 100000 in
/-- THE LAW, from its entry, over what its loop needs of the numbers -/
theorem whole_start {p : Program} {e : Env} {s : State} {m : MethodId} {below : List Frame} {meth : Method} {c : Code} (l : Launch) (hlt : l.stackTraces = false) {R : Nat → St → St → Prop} (HS : LawSteps R) (hR0 : w_X5_init (fun e => R 0 (sx0 e) sm0)) {b L : Nat} {xs : Nat → Int32} (hL : L ≤ 2560) (C0 : lw_At p s m meth c b L xs) : W p l e room_1 s m #[Value.ref b] below meth c s.heap [] 0 0 (lw_Z below #[Value.ref b] s) (entryFrame m ([Value.ref b] : List Value).toArray 7) := by
  obtain ⟨hx, hb, hr, hml, hown, hts, hX, hbl, hlocks, hgv⟩ := id C0
  have hA : ∀ q : Nat, s.heap.size ≤ q → (fun q : Nat => s.heap.size ≤ q) q := fun _ h => h
  have hbA : ¬ (fun q : Nat => s.heap.size ≤ q) b := Nat.not_le.mpr hbl
  obtain ⟨c0, iS0, hKn0⟩ := u_known (C := RX0) (T := TX0) (N := 5) (n := 5) hts inT_X0 (hts (.instantiable RX0 5) (by decide +kernel))
  obtain ⟨c1, iS1, hKn1⟩ := u_known (C := RX1) (T := TX1) (N := 2) (n := 2) hts inT_X1 (hts (.instantiable RX1 2) (by decide +kernel))
  obtain ⟨c2, iS2, hKn2⟩ := u_known (C := RX2) (T := TX2) (N := 1) (n := 1) hts inT_X2 (hts (.instantiable RX2 1) (by decide +kernel))
  obtain ⟨c3, iS3, hKn3⟩ := u_known (C := RX3) (T := TX3) (N := 11) (n := 11) hts inT_X3 (hts (.instantiable RX3 11) (by decide +kernel))
  obtain ⟨c4, iS4, hKn4⟩ := u_known (C := RX4) (T := TX4) (N := 6) (n := 6) hts inT_X4 (hts (.instantiable RX4 6) (by decide +kernel))
  obtain ⟨c5, iS5, hKn5⟩ := u_known (C := RX5) (T := TX5) (N := 8) (n := 8) hts inT_X5 (hts (.instantiable RX5 8) (by decide +kernel))
  obtain ⟨c6, iS6, hKn6⟩ := u_known (C := RX6) (T := TX6) (N := 29) (n := 29) hts inT_X6 (hts (.instantiable RX6 29) (by decide +kernel))
  obtain ⟨dC, dI, hKc⟩ : ∃ (dC : Nat → ClassId) (dI : Nat → Nat → Nat), ∀ (k : Nat) (q : vw_C), vwCl[k]? = some q → u_Kn s q.1 q.2.1 q.2.2 (dC k) (dI k) := by
    refine ⟨fun k => match k with | 0 => c0 | 1 => c1 | 2 => c2 | 3 => c3 | 4 => c4 | 5 => c5 | _ => c6, fun k => match k with | 0 => iS0 | 1 => iS1 | 2 => iS2 | 3 => iS3 | 4 => iS4 | 5 => iS5 | _ => iS6, ?_⟩
    intro k q hq
    match k, hq with
    | 0, hq => cases hq; exact hKn0
    | 1, hq => cases hq; exact hKn1
    | 2, hq => cases hq; exact hKn2
    | 3, hq => cases hq; exact hKn3
    | 4, hq => cases hq; exact hKn4
    | 5, hq => cases hq; exact hKn5
    | 6, hq => cases hq; exact hKn6
    | k + 7, hq => simp [vwCl] at hq
  obtain ⟨cI, kI, comp, hI1, hI2, hI3⟩ := Cond.arrayClass_spec (hts (.arrayClass .int) (by decide +kernel))
  have hK : va_K (dC, dI) vwCl [(cI, .int)] s := ⟨hKc, fun k q h => by
    have hz : k < 1 := (List.getElem?_eq_some_iff.mp h).1
    rw [show k = 0 by omega] at h
    cases h
    exact ⟨fun n z => ⟨fun k h => (by cases h), kI, hI2, comp, hI3⟩, hI1⟩⟩
  have hS0 : va_S (fun q : Nat => s.heap.size ≤ q) s.heap s.heap [] := va_S.rf
  have hC : Cx (dC, dI) (fun q : Nat => s.heap.size ≤ q) s.heap [] s.heap [] := ⟨fun k q h => by simp at h, ⟨fun i j p q h => by simp at h, fun k q h => by simp at h⟩, hS0⟩
  have hnw : NwX s := ⟨va_Nw.of rfl (hts _ (List.mem_of_getElem? (i := 62) rfl)), va_Nw.of rfl (hts _ (List.mem_of_getElem? (i := 97) rfl)), va_Nw.of rfl (hts _ (List.mem_of_getElem? (i := 111) rfl)), va_Nw.of rfl (hts _ (List.mem_of_getElem? (i := 169) rfl))⟩
  have hstrw : (Cond.stringRef RX5 143 "the row has no such picture").before #[Value.ref b] s = true := hts _ (List.mem_of_getElem? (i := 592) rfl)
  obtain ⟨-, -, -, sa, -, -, -, -, -, hev⟩ := Cond.stringRef_spec hKn5.2.1 hstrw
  have hflat := flat_of_before _ hgv
  have hT : Thr (fun q : Nat => s.heap.size ≤ q) sa s := by
    refine ⟨vk_R.of hstrw hev, ?_, ?_, ?_⟩
    · intro w hw
      rcases List.mem_cons.mp hw with e | hw
      · rw [e]; exact va_Nw.of rfl (hts _ (List.mem_of_getElem? (i := 555) rfl))
      rcases List.mem_cons.mp hw with e | hw
      · rw [e]; exact va_Nw.of rfl (hts _ (List.mem_of_getElem? (i := 557) rfl))
      rcases List.mem_cons.mp hw with e | hw
      · rw [e]; exact va_Nw.of rfl (hts _ (List.mem_of_getElem? (i := 559) rfl))
      rcases List.mem_cons.mp hw with e | hw
      · rw [e]; exact va_Nw.of rfl (hts _ (List.mem_of_getElem? (i := 561) rfl))
      · cases hw
    · exact vx_Zqof (hts _ (List.mem_of_getElem? (i := 580) rfl)) (hts (.initialized Bundle.tN) (by decide +kernel)) (hflat _ (by decide +kernel)) (fun a h => Nat.not_le.mpr h)
    · exact vx_Zqof (hts _ (List.mem_of_getElem? (i := 582) rfl)) (hts (.initialized Bundle.tN) (by decide +kernel)) (hflat _ (by decide +kernel)) (fun a h => Nat.not_le.mpr h)
  have hl := lv_entry ([.ref b]) (n := 7) (Nat.le_of_ble_eq_true rfl)
  rw [lg_entry_eq]
  generalize (lg_sl ([.ref b]) ++ List.replicate (7 - (lg_sl ([.ref b])).length) Slot.unset).toArray = ls at hl ⊢
  have hl : lv_has ls 7 [(0, .ref b)] := hl
  refine cx_new (ci := 5) (fs := [.null, .null, .null, .null, .int 0, .int 0, .int 0, .int 0]) hx hb hts inT_X5 tyX5 tyX5_ok hown (hts (.classLink RL 8 RX5) (by decide +kernel)) (hts (.instantiable RX5 8) (by decide +kernel)) (hts (.initialized RX5) (by decide +kernel)) hK hC hA rfl (fun j hj => by rcases (show j = 0 ∨ j = 1 ∨ j = 2 ∨ j = 3 ∨ j = 4 ∨ j = 5 ∨ j = 6 ∨ j = 7 by omega) with rfl | rfl | rfl | rfl | rfl | rfl | rfl | rfl <;> rfl) (Nat.le_of_ble_eq_true rfl) (Nat.le_of_ble_eq_true rfl) dL_law_0 (fun hx0 H hC => ?_)
  have hC : Cx (dC, dI) (fun q : Nat => s.heap.size ≤ q) s.heap [(hx0, .inr (5, [.null, .null, .null, .null, .int 0, .int 0, .int 0, .int 0]))] H [] := hC
  refine lv_dup hx hb dL_law_3 rfl ?_
  have hF := cx_free hC hA
  refine va_callv (va_runI (As := []) (rest := [.ref hx0]) ⟨hx, hb, hml, hown, hts⟩ (n_X5 l (dC, dI) cI hx0 H.size _ hR0) (cwI 0 hts gT_X5_init rfl rfl rfl (hts (.initialized RX5) (by decide +kernel)) (hts (.methodLink RL 15 yX5_init) (by decide +kernel)) (hts (.instanceMethod yX5_init) (by decide +kernel)) rfl (by decide +kernel) ⟨Nat.le_of_ble_eq_true rfl, Nat.le_of_ble_eq_true rfl⟩)
    ⟨fun a9 U g9 mk q9 => ⟨q9.1, (pw_blind (As := [.ref hx0]) a9 U g9 mk ⟨q9.1, q9.2.1⟩).2, va_Nw.same (u := U) rfl rfl q9.2.2.1, va_Nw.same (u := U) rfl rfl q9.2.2.2.1, va_Nw.same (u := U) rfl rfl q9.2.2.2.2.1, va_Nw.same (u := U) rfl rfl q9.2.2.2.2.2⟩, fun U hU hW => ⟨rfl, (cx_pre0 (As := [.ref hx0]) hK hC U hU hW).2, va_Nw.warmM hW hnw.1, va_Nw.warmM hW hnw.2.1, va_Nw.warmM hW hnw.2.2.1, va_Nw.warmM hW hnw.2.2.2⟩⟩ rfl rfl hl.1 rfl (lv_room (Nat.le_of_ble_eq_true rfl)) dL_law_4 ⟨Nat.le_of_ble_eq_true rfl, Nat.le_of_ble_eq_true rfl⟩) hC.2.2 (fun q _ h => hF q h) hF (fun ux t H1 locs1 ht hvm hw hB hz1 hk1 hS1 => ?_)
  obtain ⟨hP1, hK1, hD1⟩ := hB
  rw [ht] at hP1
  have hC : Cx (dC, dI) (fun q : Nat => s.heap.size ≤ q) s.heap (v_X5 cI hx0 ux) H1 locs1 := ⟨hP1, hD1.weaken (fun k q _ h => hF q.1 h), hS1⟩
  have hC : Cx (dC, dI) (fun q : Nat => s.heap.size ≤ q) s.heap (wX cI (fun j : Nat => match j with | 0 => hx0 | 1 => (ux.1 0) | 2 => (ux.1 5) | 3 => (ux.1 7) | 4 => (ux.1 19) | 5 => (ux.1 15) | 6 => (ux.1 17) | 7 => (ux.1 1) | 8 => (ux.1 2) | 9 => (ux.1 3) | 10 => (ux.1 4) | 11 => (ux.1 6) | 12 => (ux.1 8) | 13 => (ux.1 9) | 14 => (ux.1 10) | 15 => (ux.1 11) | 16 => (ux.1 12) | 17 => (ux.1 13) | 18 => (ux.1 14) | 19 => (ux.1 20) | 20 => (ux.1 21) | 21 => (ux.1 22) | 22 => (ux.1 16) | _ => (ux.1 18)) (sx0 ux.2)) H1 locs1 := cx_perm hC [0, 1, 6, 8, 20, 16, 18, 2, 3, 4, 5, 7, 9, 10, 11, 12, 13, 14, 15, 21, 22, 23, 17, 19] (by decide) rfl
  obtain ⟨qx, hqx⟩ : ∃ z : Nat → Nat, z = (fun j : Nat => match j with | 0 => hx0 | 1 => (ux.1 0) | 2 => (ux.1 5) | 3 => (ux.1 7) | 4 => (ux.1 19) | 5 => (ux.1 15) | 6 => (ux.1 17) | 7 => (ux.1 1) | 8 => (ux.1 2) | 9 => (ux.1 3) | 10 => (ux.1 4) | 11 => (ux.1 6) | 12 => (ux.1 8) | 13 => (ux.1 9) | 14 => (ux.1 10) | 15 => (ux.1 11) | 16 => (ux.1 12) | 17 => (ux.1 13) | 18 => (ux.1 14) | 19 => (ux.1 20) | 20 => (ux.1 21) | 21 => (ux.1 22) | 22 => (ux.1 16) | _ => (ux.1 18)) := ⟨_, rfl⟩
  rw [← hqx] at hC
  have hq0 : hx0 = qx 0 := by rw [hqx]; rfl
  rw [hq0]
  refine lv_astore_n (lv' := [(1, .ref (qx 0)), (0, .ref b)]) hx hb dL_law_7 rfl hl (by decide) rfl (fun ls hl => ?_)
  refine cx_new (ci := 6) (fs := [.int 0, .int 0, .int 0, .int 0, .int 0, .int 0, .int 0, .int 0, .int 0, .null, .null, .null, .null, .null, .null, .null, .null, .null, .null, .null, .null, .null, .null, .null, .null, .int 0, .int 0, .null, .null]) hx hb hts inT_X6 tyX6 tyX6_ok hown (hts (.classLink RL 16 RX6) (by decide +kernel)) (hts (.instantiable RX6 29) (by decide +kernel)) (hts (.initialized RX6) (by decide +kernel)) hK hC hA rfl (fun j hj => by rcases (show j = 0 ∨ j = 1 ∨ j = 2 ∨ j = 3 ∨ j = 4 ∨ j = 5 ∨ j = 6 ∨ j = 7 ∨ j = 8 ∨ j = 9 ∨ j = 10 ∨ j = 11 ∨ j = 12 ∨ j = 13 ∨ j = 14 ∨ j = 15 ∨ j = 16 ∨ j = 17 ∨ j = 18 ∨ j = 19 ∨ j = 20 ∨ j = 21 ∨ j = 22 ∨ j = 23 ∨ j = 24 ∨ j = 25 ∨ j = 26 ∨ j = 27 ∨ j = 28 by omega) with rfl | rfl | rfl | rfl | rfl | rfl | rfl | rfl | rfl | rfl | rfl | rfl | rfl | rfl | rfl | rfl | rfl | rfl | rfl | rfl | rfl | rfl | rfl | rfl | rfl | rfl | rfl | rfl | rfl <;> rfl) (Nat.le_of_ble_eq_true rfl) (Nat.le_of_ble_eq_true rfl) dL_law_8 (fun hm0 H hC => ?_)
  refine lv_dup hx hb dL_law_11 rfl ?_
  refine cx_callI (As := []) (rest := [.ref hm0]) (ws' := fun um => wX cI qx (sx0 ux.2) ++ v_X6 cI hm0 um) ⟨hx, hb, hml, hown, hts⟩ (n_X6 l (dC, dI) cI hm0 _ () trivial) (cwI 0 hts gT_X6_init rfl rfl rfl (hts (.initialized RX6) (by decide +kernel)) (hts (.methodLink RL 18 yX6_init) (by decide +kernel)) (hts (.instanceMethod yX6_init) (by decide +kernel)) rfl (by decide +kernel) ⟨Nat.le_of_ble_eq_true rfl, Nat.le_of_ble_eq_true rfl⟩) hK hC hA [24] [0, 1, 2, 3, 4, 5, 6, 7, 8, 9, 10, 11, 12, 13, 14, 15, 16, 17, 18, 19, 20, 21, 22, 23] (by decide) rfl (wr := wX cI qx (sx0 ux.2)) rfl (by decide) (by decide) rfl hl.1 rfl (Nat.le_of_ble_eq_true rfl) dL_law_12 ⟨Nat.le_of_ble_eq_true rfl, Nat.le_of_ble_eq_true rfl⟩ (fun _ => [0, 1, 2, 3, 4, 5, 6, 7, 8, 9, 10, 11, 12, 13, 14, 15, 16, 17, 18, 19, 20, 21, 22, 23, 24, 25, 26, 27, 28, 29, 30, 31, 32, 33, 34, 35, 36, 37, 38, 39, 40, 41, 42]) (fun _ => by decide) (fun _ => rfl) (fun um H locs _ hC => ?_)
  refine lv_astore_n (lv' := [(2, .ref hm0), (1, .ref (qx 0)), (0, .ref b)]) hx hb dL_law_15 rfl hl (by decide) rfl (fun ls hl => ?_)
  refine lv_iconst (v := 1) hx hb dL_law_16 (by decide) ?_
  refine va_newa (D := (dC, dI)) (cl := vwCl) (atype := .long) (a0 := (1, .inr (.inl (fun _ => 0)))) (ty := .long) hx hb (hts (.arrayClass .long) (by decide +kernel)) rfl hK hC.1 hC.2.1 hC.2.2 hA (fun _ => rfl) (by decide) (by decide) (by decide) (Nat.le_of_ble_eq_true rfl) (Nat.le_of_ble_eq_true rfl) dL_law_17 (fun a cL H hK2 hP hD hS => ?_)
  have hC : Cx (dC, dI) (fun q : Nat => s.heap.size ≤ q) s.heap ((wX cI qx (sx0 ux.2) ++ v_X6 cI hm0 um) ++ [(a, .inl (cL, 1, .inr (.inl (fun _ => 0))))]) H locs := ⟨hP, hD, hS⟩
  have hC : Cx (dC, dI) (fun q : Nat => s.heap.size ≤ q) s.heap (wL cI cL qx (fun j : Nat => match j with | 0 => hm0 | 1 => (um.1 0) | 2 => (um.1 1) | 3 => (um.1 2) | 4 => (um.1 3) | 5 => (um.1 4) | 6 => (um.1 5) | 7 => (um.1 6) | 8 => (um.1 7) | 9 => (um.1 8) | 10 => (um.1 9) | 11 => (um.1 10) | 12 => (um.1 11) | 13 => (um.1 12) | 14 => (um.1 13) | 15 => (um.1 14) | 16 => (um.1 15) | 17 => (um.1 16) | _ => (um.1 17)) a (sx0 ux.2) sm0 (fun _ => 0)) H locs := cx_perm hC [24, 25, 26, 27, 28, 29, 30, 31, 32, 33, 34, 35, 36, 37, 38, 39, 40, 41, 42, 0, 1, 2, 3, 4, 5, 6, 7, 8, 9, 10, 11, 12, 13, 14, 15, 16, 17, 18, 19, 20, 21, 22, 23, 43] (by decide) rfl
  obtain ⟨qm, hqm⟩ : ∃ z : Nat → Nat, z = (fun j : Nat => match j with | 0 => hm0 | 1 => (um.1 0) | 2 => (um.1 1) | 3 => (um.1 2) | 4 => (um.1 3) | 5 => (um.1 4) | 6 => (um.1 5) | 7 => (um.1 6) | 8 => (um.1 7) | 9 => (um.1 8) | 10 => (um.1 9) | 11 => (um.1 10) | 12 => (um.1 11) | 13 => (um.1 12) | 14 => (um.1 13) | 15 => (um.1 14) | 16 => (um.1 15) | 17 => (um.1 16) | _ => (um.1 17)) := ⟨_, rfl⟩
  rw [← hqm] at hC
  have hm1 : hm0 = qm 0 := by rw [hqm]; rfl
  rw [hm1] at hl
  refine lv_astore_n (lv' := [(3, .ref a), (2, .ref (qm 0)), (1, .ref (qx 0)), (0, .ref b)]) hx hb dL_law_19 rfl hl (by decide) rfl (fun ls hl => ?_)
  refine lv_iconst (v := 0) hx hb dL_law_20 (by decide) ?_
  refine lv_istore (lv' := [(4, .int 0), (3, .ref a), (2, .ref (qm 0)), (1, .ref (qx 0)), (0, .ref b)]) hx hb dL_law_21 hl (by decide) rfl (fun ls hl => ?_)
  exact law_loop hL C0 hlt hK2 hT HS (L + 1) 0 0 (Nat.zero_le L) (by omega) nI_0.symm (sx0 ux.2) sm0 _ H locs ls hw hC (lv_sub hl [4, 3, 2, 1, 0] rfl)
