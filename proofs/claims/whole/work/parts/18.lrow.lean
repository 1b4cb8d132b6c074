/-! the law's own row: it catches what PictureHeap.row throws -/
def wsLR : List Cond := .codeWith yL_row cL_row 4 (some .int) [(0, 9, 12, 13)] :: ([.classLink RL 13 "java/util/NoSuchElementException", .methodLink RL 7 yX5_row, .instanceMethod yX5_row, .selects RX5 yX5_row yX5_row, .initialized RX5, .code yX5_row cX5_row 2 (some .int), .classLink RX5 141 "java/util/NoSuchElementException", .initialized "java/util/NoSuchElementException", .fieldLink RX5 33 "PictureHeap" "timeline" "LPictureHeap$Timeline;", .fieldLink RX5 148 "PictureHeap$Timeline" "sequence" "[I", .methodLink RX5 140 yX4_has, .instanceMethod yX4_has, .selects RX4 yX4_has yX4_has, .initialized RX4, .code yX4_has cX4_has 2 (some .boolean), .fieldLink RX4 25 "PictureHeap$Timeline" "size" "I"] ++ wsX50 ++ wsX40 ++ exA.filter goodWord)
set_option maxRecDepth 100000 in
theorem gLR_X5_row : GoodIn wsLR (wsV RL 7 RX5 yX5_row wsR) := goodIn_app (goodIn_r _ [2, 3, 4, 5] rfl (by decide +kernel)) (goodIn_ca (goodIn_r _ [6, 7, 8, 9, 10, 11, 12, 13, 14, 15, 16, 17, 18, 19, 20, 21, 22, 23, 24, 25, 26, 27, 28, 29, 30] rfl (by decide +kernel)) (goodIn_sub (fun _ h => List.mem_cons_of_mem _ (List.mem_append_right _ h)) (by decide +kernel)))
/-- the law's row has a table of what it catches: its contract out of a walk from its entry -/
theorem lr_met {l : Launch} {Pc : Array Value → State → Prop} {Qc : Array Value → State → Outcome → State → Prop} {mc ms : Nat} {free : Addr → Prop}
    (walk : ∀ (p : Program) (e : Env) (s : State) (m : MethodId) (args : Array Value) (below : List Frame) (meth : Method) (c : Code) (s₁ : State), BodyLoose p l yL_row (headSpec wsLR (RmT 7 130)) cL_row 4 (some .int) e s m args below meth c s₁ → c.maxLocals = 4 → Pc args s → W p l e (RmT 7 130) s m args below meth c s.heap [] 0 0 (MQ below Qc args s mc ms free) (entryFrame m args 4)) : Met l yL_row wsLR (RmT 7 130) Pc Qc mc ms free := by
  have code : ∀ (args : Array Value) (s : State) (m : MethodId), (∀ w ∈ wsLR, w.before args s = true) → s.methodNamed? yL_row = some m → ∃ (meth : Method) (c : Code), s.vm.method? m = some meth ∧ meth.code = some c ∧ c.code = cL_row ∧ c.maxLocals = 4 ∧ meth.sig.returnType = some .int ∧ meth.locks = false := by
    intro args s m h hn
    obtain ⟨n, meth, c, hm, f1, f2, f3, f4, -, f5, f6, -⟩ := Cond.codeWith_spec (h (.codeWith yL_row cL_row 4 (some .int) [(0, 9, 12, 13)]) List.mem_cons_self)
    rw [hn] at hm
    injection hm with hm
    rw [← hm] at f1
    exact ⟨meth, c, f1, f2, f3, f4, f5, f6⟩
  refine MetFree.of_bodyS (code := cL_row) (maxLocals := 4) (ret := some .int) (by decide) (fun args s m h hn => code args s m (atoms_spec (ws := wsLR) h) hn) (fun p e s m args below meth c s₁ B four hP _ => ?_)
  have same : s₁.heap = s.heap := by
    rw [B.state]
    rfl
  obtain ⟨t, steps, out, ends⟩ := walk p e s m args below meth c s₁ B four hP s₁ same (Stand.of_body B)
  exact ⟨t, out, steps, ends.1, ends.2.1, ends.2.2⟩
abbrev SO : Type := St × (Nat → Int64)
def wo (cL : ClassId) (a : Nat) (g : Nat → Int64) : va_W := [(a, .inl (cL, 1, .inr (.inl g)))]
def wXo (cI cL : ClassId) (q : Nat → Nat) (a : Nat) (u : SO) : va_W := wX cI q u.1 ++ wo cL a u.2
def PwL (D : va_G) (cI cL : ClassId) (ws : va_W) (sz : Nat) : State → Prop := fun U => U.heap.size = sz ∧ va_P D vwCl ws U.heap ∧ va_K D vwCl [(cI, .int), (cL, .long)] U ∧ va_D (fun _ => True) ws
def BwL {S : Type} (D : va_G) (cI cL : ClassId) (A : Nat → Prop) (wf : S → va_W) : S → State → Prop := fun u t => va_P D vwCl (wf u) t.heap ∧ va_K D vwCl [(cI, .int), (cL, .long)] t ∧ va_D A (wf u)
def w_L_row (u : SO) (x1 : Int32) (post : Int32 → SO → Prop) : Prop := w_X5_row u.1 x1 (fun r v => post 0 (v, vp_updL u.2 (Int32.toNatClampNeg 0) r.toInt64)) (fun v => post 1 (v, u.2))
theorem wXo_set (cI cL : ClassId) (q : Nat → Nat) (a : Nat) (v : St) (g g' : Nat → Int64) : (wX cI q v ++ wo cL a g).set 24 (a, .inl (cL, 1, .inr (.inl g'))) = wXo cI cL q a (v, g') := rfl
set_option maxHeartbeats 4000000 in
set_option maxRecDepth 100000 in
theorem c_L_row (l : Launch) (hlt : l.stackTraces = false) (D : va_G) (cI cL : ClassId) (q : Nat → Nat) (a sz sa : Nat) (u0 : SO) (x1 : Int32) (post : Int32 → SO → Prop) (hw : w_L_row u0 x1 post) :
    Met l yL_row wsLR (RmT 7 130) (va_Pc [.ref (q 0), .int x1, .ref a] (fun U => PwL D cI cL (wXo cI cL q a u0) sz U ∧ Thr (va_A (wXo cI cL q a u0) sz) sa U)) (va_Qi post (BwL D cI cL (va_A (wXo cI cL q a u0) sz) (wXo cI cL q a)) (va_A (wXo cI cL q a u0) sz)) 1 6 (va_A (wXo cI cL q a u0) sz) := by
  refine lr_met ?_
  intro p e s m args below meth c s₁ B hml hv
  obtain ⟨rfl, ⟨hsz, hP, hKL, hD0⟩, hT⟩ := hv
  subst hsz
  have hx := B.exec
  have hb := B.bytes
  have hr := B.returns
  have hts := atoms_spec (ws := wsLR) B.pre
  have hown : s.vm.findClass RL = some m.cls := findClass_of_methodNamed B.named
  have hlocks := B.notSynchronized
  have htab : c.exceptionTable.toList = tableOf [(0, 9, 12, 13)] := vx_table (x := yL_row) B (hts (Cond.codeWith yL_row cL_row 4 (some .int) [(0, 9, 12, 13)]) List.mem_cons_self)
  have hK : va_K D vwCl [(cI, .int)] s := hKL.sub [0] rfl
  rw [lg_entry_eq]
  have hl := lv_entry ([.ref (q 0), .int x1, .ref a]) (n := 4) (Nat.le_of_ble_eq_true rfl)
  generalize (lg_sl ([.ref (q 0), .int x1, .ref a]) ++ List.replicate (4 - (lg_sl ([.ref (q 0), .int x1, .ref a])).length) Slot.unset).toArray = ls at hl ⊢
  have hl : lv_has ls 4 [(0, .ref (q 0)), (1, .int x1), (2, .ref a)] := hl
  have hA : ∀ z, s.heap.size ≤ z → va_A (wXo cI cL q a u0) s.heap.size z := fun z h => Or.inr h
  have hC : Cx D (va_A (wXo cI cL q a u0) s.heap.size) s.heap ([] ++ (wX cI q u0.1 ++ wo cL a u0.2)) s.heap [] := ⟨hP, hD0.self (sz := s.heap.size), va_S.rf⟩
  generalize va_A (wXo cI cL q a u0) s.heap.size = A at hA hC hT ⊢
  have u1 : (Cond.classLink RL 13 exN).before [.ref (q 0), .int x1, .ref a].toArray s = true := hts _ (List.mem_of_getElem? (i := 1) rfl)
  have hcast : (Cond.castable exN exN).before [.ref (q 0), .int x1, .ref a].toArray s = true := va_Nw.use rfl (hT.2.1 _ (List.mem_of_getElem? (i := 0) rfl))
  refine lv_aload_n hx hb dL_row_0 rfl (lv_at hl 2 rfl) ?_
  refine lv_iconst (v := 0) hx hb dL_row_1 (by decide) ?_
  refine lv_aload_n hx hb dL_row_2 rfl (lv_at hl 0 rfl) ?_
  refine lv_iload_n hx hb dL_row_3 rfl (lv_at hl 1 rfl) ?_
  have hF := mid_free hC hA
  refine vx_calli (vx_runV (As := [.int x1]) (rest := [.int 0, .ref a]) ⟨hx, hb, hml, hown, hts⟩ (c_X5_row l hlt D cI q s.heap.size sa u0.1 x1 _ _ hw) (cwV 1 hts gLR_X5_row rfl rfl rfl (by decide +kernel) ⟨Nat.le_of_ble_eq_true rfl, Nat.le_of_ble_eq_true rfl⟩)
    ⟨fun a9 U g9 mk q9 => ⟨q9.1, (pw_blind (As := [.ref (q 0), .int x1]) a9 U g9 mk ⟨q9.1, q9.2.1⟩).2, thr_blind q9.2.2⟩, va_recv (ws := wX cI q u0.1) (q0 := 0) hK (mid_P hC) rfl rfl, fun U hU hW => ⟨rfl, (mid_pre (As := [.ref (q 0), .int x1]) hK hC U hU hW).2, thr_warm hT hW hU hC.2.2 hF⟩⟩ rfl rfl hl.1 rfl (lv_room (Nat.le_of_ble_eq_true rfl)) dL_row_4 ⟨Nat.le_of_ble_eq_true rfl, Nat.le_of_ble_eq_true rfl⟩) hC.2.2 (fun q _ h => hF q h) hF (fun q _ h => hF q h)
    (fun E ce q9 u t H1 locs1 ht hvm hw hB hz1 hk1 hS1 hce hcv hcl => ?_) (fun r u t H1 locs1 ht hvm hw hB hz1 hk1 hS1 => ?_)
  · obtain ⟨rfl, hP1, hK1, hD1⟩ := hB
    rw [ht] at hP1
    have hC := cx_mid hC hA hk1 hP1 hD1 hS1
    refine vx_catch (name := exN) hown [] ⟨0, 9, 12, 13⟩ [] (by rw [htab]; rfl) (fun z hz => by cases hz) (by decide) (by decide) u1 hcast hce hcv hcl ?_
    refine lv_astore_n (lv' := [(3, .ref q9), (0, .ref (q 0)), (1, .int x1), (2, .ref a)]) hx hb dL_row_12 rfl hl (by decide) rfl (fun ls hl => ?_)
    refine lv_iconst (v := 1) hx hb dL_row_13 (by decide) ?_
    exact W.iret hx hb hr (fun t ht hW => ⟨⟨_, (u, u0.2), rfl, hw, by rw [ht]; exact hC.1, va_K.moved hW.alike hKL, hC.2.1⟩, hC.2.2.F ht⟩) hC.2.2.2.2 dL_row_14 hlocks
  · obtain ⟨hP1, hK1, hD1⟩ := hB
    rw [ht] at hP1
    have hC := cx_mid hC hA hk1 hP1 hD1 hS1
    refine lv_i2l (v := r.toInt64) hx hb dL_row_7 rfl ?_
    refine va_last (D := D) (cl := vwCl) (tys := [(cI, .int), (cL, .long)]) (ws := wX cI q u ++ wo cL a u0.2) (f := u0.2) hx hb hKL hC.1 hC.2.1 hC.2.2 24 1 rfl rfl (by unfold vp_in; decide) dL_row_8 (fun H2 locs2 hP hD hS => ?_)
    rw [wXo_set] at hP hD
    refine lv_goto (tgt := 15) hx hb dL_row_9 (by decide) ?_
    refine lv_iconst (v := 0) hx hb dL_row_15 (by decide) ?_
    exact W.iret hx hb hr (fun t ht hW => ⟨⟨_, (u, vp_updL u0.2 (Int32.toNatClampNeg 0) r.toInt64), rfl, hw, by rw [ht]; exact hP, va_K.moved hW.alike hKL, hD⟩, hS.F ht⟩) hS.2.2 dL_row_16 hlocks
