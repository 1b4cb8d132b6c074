/-! PictureHeap.row: it answers or throws; a call over a middle part of the world -/
def exD (X : String) : Cond := .declares (Bundle.initS X)
def exB : List Cond := [Cond.castable exN exN, exD "java/lang/RuntimeException", exD "java/lang/Exception", exD Bundle.tN]
def Thr (A : Nat → Prop) (sa : Nat) (U : State) : Prop := vk_R RX5 143 "the row has no such picture" sa U ∧ (∀ w ∈ exB, va_Nw w U) ∧ vx_Zq Bundle.tN "UNASSIGNED_STACK" Bundle.steD A U U.heap ∧ vx_Zq Bundle.tN "SUPPRESSED_SENTINEL" Bundle.listD A U U.heap
def wsR : List Cond := .code yX5_row cX5_row 2 (some .int) :: ([.classLink RX5 141 "java/util/NoSuchElementException", .initialized "java/util/NoSuchElementException", .fieldLink RX5 33 "PictureHeap" "timeline" "LPictureHeap$Timeline;", .fieldLink RX5 148 "PictureHeap$Timeline" "sequence" "[I", .methodLink RX5 140 yX4_has, .instanceMethod yX4_has, .selects RX4 yX4_has yX4_has, .initialized RX4, .code yX4_has cX4_has 2 (some .boolean), .fieldLink RX4 25 "PictureHeap$Timeline" "size" "I"] ++ wsX50 ++ wsX40 ++ exA.filter goodWord)
theorem ex_bad : ∀ w ∈ exA.filter (fun w => !goodWord w), w ∈ exB := by decide +kernel
theorem ex_ot : ∀ w ∈ Cond.classLink RX5 141 exN :: Cond.initialized exN :: exA, vx_ot w = true := by decide +kernel
theorem ex_B {s U : State} (hW : s.WarmedH U.vm) (h : ∀ w ∈ exB, va_Nw w s) : ∀ w ∈ exB, va_Nw w U := by
  have h0 := va_Nw.warmC hW (h (Cond.castable exN exN) (List.mem_of_getElem? (i := 0) rfl))
  have h1 := va_Nw.warmD hW (h (exD "java/lang/RuntimeException") (List.mem_of_getElem? (i := 1) rfl))
  have h2 := va_Nw.warmD hW (h (exD "java/lang/Exception") (List.mem_of_getElem? (i := 2) rfl))
  have h3 := va_Nw.warmD hW (h (exD Bundle.tN) (List.mem_of_getElem? (i := 3) rfl))
  intro w hw
  rcases List.mem_cons.mp hw with e | hw
  · rw [e]; exact h0
  rcases List.mem_cons.mp hw with e | hw
  · rw [e]; exact h1
  rcases List.mem_cons.mp hw with e | hw
  · rw [e]; exact h2
  rcases List.mem_cons.mp hw with e | hw
  · rw [e]; exact h3
  · cases hw
theorem ex_ot4 : ∀ w ∈ exB, w.onTables = true := by decide +kernel
theorem thr_blind {A : Nat → Prop} {sa : Nat} {U : State} {g : JFrame} {mk : MethodId} {a : Array Value} (h : Thr A sa U) : Thr A sa (U.calling g mk a) :=
  ⟨vk_R.same (u := U) rfl h.1, fun w hw => va_Nw.same (u := U) (ex_ot4 w hw) rfl (h.2.1 w hw), vx_Zq.moved (u := U) (Vm.Alike.refl U.vm) h.2.2.1, vx_Zq.moved (u := U) (Vm.Alike.refl U.vm) h.2.2.2⟩
/-- the throw's own premises, from the state of a method's entry to the state of a call -/
theorem thr_warm {A B : Nat → Prop} {sa : Nat} {s U : State} {H : Heap} {locs : List Loc} (h : Thr A sa s) (hW : s.WarmedH U.vm) (hU : U.heap = H) (hS : va_S A s.heap H locs) (hB : ∀ q, B q → A q) : Thr B sa U := by
  refine ⟨vk_R.warm hW h.1, ex_B hW h.2.1, ?_, ?_⟩
  · rw [hU]; exact ((vx_Zq.moved hW.alike h.2.2.1).kept (fun a h1 h2 => hS.2.1 a h1 h2)).narrow hB
  · rw [hU]; exact ((vx_Zq.moved hW.alike h.2.2.2).kept (fun a h1 h2 => hS.2.1 a h1 h2)).narrow hB
section MID
variable {p : Program} {l : Launch} {e : Env} {R : Room} {s : State} {m : MethodId} {args : Array Value} {below : List Frame} {meth : Method} {c : Code} {H H1 : Heap} {locs locs1 : List Loc} {cells slots : Nat} {Q : State → Prop}
variable {cc : ByteArray} {pc : Nat} {ls : Array Slot} {rest : List Value} {D : va_G} {cI : ClassId} {A : Nat → Prop} {a : Nat} {H0 : Heap} {wa w wb w1 : va_W}
theorem mid_a {i : Nat} {p : Nat × va_E} (h : wa[i]? = some p) : (wa ++ (w ++ wb))[i]? = some p := by
  rw [List.getElem?_append_left (List.getElem?_eq_some_iff.mp h).1]; exact h
theorem mid_w {j : Nat} {p : Nat × va_E} (h : w[j]? = some p) : (wa ++ (w ++ wb))[wa.length + j]? = some p := by
  rw [List.getElem?_append_right (by omega), Nat.add_sub_cancel_left, List.getElem?_append_left (List.getElem?_eq_some_iff.mp h).1]; exact h
theorem mid_b {j : Nat} {p : Nat × va_E} (h : wb[j]? = some p) : (wa ++ (w ++ wb))[wa.length + (w.length + j)]? = some p := by
  rw [List.getElem?_append_right (by omega), Nat.add_sub_cancel_left, List.getElem?_append_right (by omega), Nat.add_sub_cancel_left]; exact h
theorem mid_free (hC : Cx D A H0 (wa ++ (w ++ wb)) H locs) (hA : ∀ q, H0.size ≤ q → A q) : ∀ q, va_A w H.size q → A q := by
  rintro q (⟨k, e, h⟩ | h)
  · exact hC.2.1.2 _ _ (mid_w h)
  · exact hA q (Nat.le_trans hC.2.2.1 h)
theorem mid_P (hC : Cx D A H0 (wa ++ (w ++ wb)) H locs) : va_P D vwCl w H := fun k q h => hC.1 _ q (mid_w h)
theorem mid_D (hC : Cx D A H0 (wa ++ (w ++ wb)) H locs) : va_D A w := ⟨fun i j p q hi hj e => by have := hC.2.1.1 _ _ p q (mid_w hi) (mid_w hj) e; omega, fun k q h => hC.2.1.2 _ q (mid_w h)⟩
theorem cx_mid (hC : Cx D A H0 (wa ++ (w ++ wb)) H locs) (hA : ∀ q, H0.size ≤ q → A q) (hk : ∀ q : Nat, q < H.size → ¬ va_A w H.size q → H1[q]? = H[q]?) (hP1 : va_P D vwCl w1 H1) (hD1 : va_D (va_A w H.size) w1) (hS1 : va_S A H0 H1 locs1) : Cx D A H0 (wa ++ (w1 ++ wb)) H1 locs1 := by
  have ap_a : ∀ (i : Nat) (p : Nat × va_E), wa[i]? = some p → p.1 < H.size ∧ ¬ va_A w H.size p.1 := by
    intro i p h
    have hl := (hC.1 _ p (mid_a h)).lt
    refine ⟨hl, ?_⟩
    rintro (⟨k, e, h2⟩ | h2)
    · have h3 := hC.2.1.1 i (wa.length + k) p (p.1, e) (mid_a h) (mid_w h2) rfl
      have h4 := (List.getElem?_eq_some_iff.mp h).1
      omega
    · omega
  have ap_b : ∀ (i : Nat) (p : Nat × va_E), wb[i]? = some p → p.1 < H.size ∧ ¬ va_A w H.size p.1 := by
    intro i p h
    have hl := (hC.1 _ p (mid_b h)).lt
    refine ⟨hl, ?_⟩
    rintro (⟨k, e, h2⟩ | h2)
    · have h3 := hC.2.1.1 (wa.length + (w.length + i)) (wa.length + k) p (p.1, e) (mid_b h) (mid_w h2) rfl
      have h4 := (List.getElem?_eq_some_iff.mp h2).1
      omega
    · omega
  have hF := mid_free hC hA
  refine ⟨va_P.app (fun k q h => (hC.1 _ q (mid_a h)).kept (hk q.1 (ap_a k q h).1 (ap_a k q h).2)) (va_P.app hP1 (fun k q h => (hC.1 _ q (mid_b h)).kept (hk q.1 (ap_b k q h).1 (ap_b k q h).2))), ?_, hS1⟩
  refine va_D.app ⟨fun i j p q hi hj e => hC.2.1.1 i j p q (mid_a hi) (mid_a hj) e, fun k q h => hC.2.1.2 _ q (mid_a h)⟩ (va_D.app (hD1.weaken (fun k q _ h => hF q.1 h)) ⟨fun i j p q hi hj e => by have := hC.2.1.1 _ _ p q (mid_b hi) (mid_b hj) e; omega, fun k q h => hC.2.1.2 _ q (mid_b h)⟩ ?_) ?_
  · intro i j p q hi hj e
    exact (ap_b j q hj).2 (by rw [← e]; exact hD1.2 i p hi)
  · intro i j p q hi hj e
    by_cases hl : j < w1.length
    · rw [List.getElem?_append_left hl] at hj
      exact (ap_a i p hi).2 (by rw [e]; exact hD1.2 j q hj)
    · rw [List.getElem?_append_right (by omega)] at hj
      have h3 := hC.2.1.1 i _ p q (mid_a hi) (mid_b hj) e
      have h4 := (List.getElem?_eq_some_iff.mp hi).1
      omega
theorem mid_pre (hK : va_K D vwCl [(cI, .int)] s) (hC : Cx D A H0 (wa ++ (w ++ wb)) H locs) {As : List Value} : ∀ U : State, U.heap = H → s.WarmedH U.vm → va_Pc As (Pw D cI w H.size) As.toArray U := fun U hU hW =>
  ⟨rfl, by rw [hU], by rw [hU]; exact mid_P hC, va_K.moved hW.alike hK, (mid_D hC).weaken (fun _ _ _ _ => trivial)⟩
variable {y : MethodName} {bytes : ByteArray} {maxL nL n index fr lo : Nat} {ret : Option FieldType} {wsy : List Cond} {Ts : List Cond} {own C : String} {b : Addr} {As st0 : List Value}
theorem mid_callVi {S : Type} {wf : S → va_W} {post : Int32 → S → Prop} (S0 : CallFix p m c cc nL s args Ts own) (hM : Ci l y wsy fr lo D cI w H.size (.ref b :: As) wf post) (cw : CallW R s args own C index y bytes maxL ret wsy (Rm fr lo) 0 0 n) (hK : va_K D vwCl [(cI, .int)] s) (hC : Cx D A s.heap (wa ++ (w ++ wb)) H locs) (hA : ∀ q, s.heap.size ≤ q → A q) (q0 : Nat) {ci : Nat} {fs : List Value} (he : w[q0]? = some (b, .inr (ci, fs))) {q : vw_C} (hcl : vwCl[ci]? = some q) (hq : q.1 = C)
    (hlen : As.length = n) (hl : ls.size = nL) (hst : st0 = As.reverse ++ .ref b :: rest) (hW : (rest.map fun v => v.category).sum ≤ 8) (hdg : decode cc pc = .ok (.invokevirtual index, 3)) (hf : cells ≤ R.cells ∧ slots ≤ R.slots)
    (kk : ∀ (r : Int32) (u : S) (H : Heap) (locs : List Loc), post r u → Cx D A s.heap (wa ++ (wf u ++ wb)) H locs → W p l e R s m args below meth c H locs cells slots Q (F0 m (pc + 3) ls (.int r :: rest))) : W p l e R s m args below meth c H locs cells slots Q (F0 m pc ls st0) := by
  subst hst
  subst hq
  have hF := mid_free hC hA
  refine va_calli (va_runV (As := As) (rest := rest) S0 hM cw ⟨pw_blind, va_recv (ws := w) hK (mid_P hC) hcl he, mid_pre hK hC⟩ rfl hlen hl rfl (lv_room hW) hdg hf) hC.2.2 (fun q _ h => hF q h) hF (fun r u t H1 locs1 ht hvm hw hB hz1 hk1 hS1 => ?_)
  obtain ⟨hP1, hK1, hD1⟩ := hB
  rw [ht] at hP1
  exact kk r u H1 locs1 hw (cx_mid hC hA hk1 hP1 hD1 hS1)
end MID
set_option maxRecDepth 100000 in
theorem gR_X4_has : GoodIn wsR (wsV RX5 140 RX4 yX4_has wsX4_has) := goodIn_r _ [5, 6, 7, 8, 9, 10, 19, 20, 21, 22, 23, 24] rfl (by decide +kernel)
def w_X5_row (σ : St) (x1 : Int32) (post : Int32 → St → Prop) (px : St → Prop) : Prop := w_X4_has σ x1 (fun r u => (¬ r = 0 → vp_in x1 120 ∧ post (u.2 14 (Int32.toNatClampNeg x1)) u) ∧ (r = 0 → px u))
abbrev RmT (fr lo : Nat) : Room := { frames := fr, cells := 1, slots := 6, locals := lo }
set_option maxHeartbeats 4000000 in
set_option maxRecDepth 100000 in
theorem c_X5_row (l : Launch) (hlt : l.stackTraces = false) (D : va_G) (cI : ClassId) (q : Nat → Nat) (sz sa : Nat) (σ : St) (x1 : Int32) (post : Int32 → St → Prop) (px : St → Prop) (hw : w_X5_row σ x1 post px) :
    vx_Met l yX5_row wsR (RmT 6 100) (va_Pc [.ref (q 0), .int x1] (fun U => Pw D cI (wX cI q σ) sz U ∧ Thr (va_A (wX cI q σ) sz) sa U)) (va_Qi post (Bw D cI (va_A (wX cI q σ) sz) (wX cI q)) (va_A (wX cI q σ) sz)) (vx_X px (fun E u t => E = exN ∧ Bw D cI (va_A (wX cI q σ) sz) (wX cI q) u t) (va_A (wX cI q σ) sz)) 1 6 (va_A (wX cI q σ) sz) := by
  refine vx_ofW (cc := cX5_row) (maxL := 2) (ret := (some .int)) (by decide) rfl ?_
  intro p e s m args below meth c s₁ B hml htab hv
  obtain ⟨rfl, ⟨hsz, hP, hK, hD0⟩, hT⟩ := hv
  subst hsz
  have hx := B.exec
  have hb := B.bytes
  have hr := B.returns
  have hts := atoms_spec (ws := wsR) B.pre
  have hown : s.vm.findClass RX5 = some m.cls := findClass_of_methodNamed B.named
  have hlocks := B.notSynchronized
  rw [lg_entry_eq]
  have hl := lv_entry ([.ref (q 0), .int x1]) (n := 2) (Nat.le_of_ble_eq_true rfl)
  generalize (lg_sl ([.ref (q 0), .int x1]) ++ List.replicate (2 - (lg_sl ([.ref (q 0), .int x1])).length) Slot.unset).toArray = ls at hl ⊢
  have hl : lv_has ls 2 [(0, .ref (q 0)), (1, .int x1)] := hl
  have hA : ∀ z, s.heap.size ≤ z → va_A (wX cI q σ) s.heap.size z := fun z h => Or.inr h
  have hC : Cx D (va_A (wX cI q σ) s.heap.size) s.heap (wX cI q σ) s.heap [] := ⟨hP, hD0.self (sz := s.heap.size), va_S.rf⟩
  generalize va_A (wX cI q σ) s.heap.size = A at hA hC hT ⊢
  have u1 : (Cond.classLink RX5 141 exN).before [.ref (q 0), .int x1].toArray s = true := hts _ (List.mem_of_getElem? (i := 1) rfl)
  have u2 : (Cond.initialized exN).before [.ref (q 0), .int x1].toArray s = true := hts _ (List.mem_of_getElem? (i := 2) rfl)
  have u3 : (Cond.fieldLink RX5 33 "PictureHeap" "timeline" "LPictureHeap$Timeline;").before [.ref (q 0), .int x1].toArray s = true := hts _ (List.mem_of_getElem? (i := 3) rfl)
  have u4 : (Cond.fieldLink RX5 148 "PictureHeap$Timeline" "sequence" "[I").before [.ref (q 0), .int x1].toArray s = true := hts _ (List.mem_of_getElem? (i := 4) rfl)
  have iX5 : ∀ w ∈ wsX50, w ∈ wsR := fun _ h => List.mem_cons_of_mem _ (List.mem_append_left _ (List.mem_append_left _ (List.mem_append_right _ h)))
  have iX4 : ∀ w ∈ wsX40, w ∈ wsR := fun _ h => List.mem_cons_of_mem _ (List.mem_append_left _ (List.mem_append_right _ h))
  have iEx : ∀ w ∈ exA.filter goodWord, w ∈ wsR := fun _ h => List.mem_cons_of_mem _ (List.mem_append_right _ h)
  have hat : ∀ w ∈ exA, w.before [.ref (q 0), .int x1].toArray s = true := vx_hat (fun w h => hts w (iEx w h)) ex_bad (fun w h => va_Nw.use (ex_ot4 w h) (hT.2.1 w h))
  refine lv_aload_n hx hb dX5_row_0 rfl (lv_at hl 0 rfl) ?_
  refine cx_get (v := .ref (q 4)) hx hb hts iX5 hown hK hC 0 rfl rfl 3 (by decide) u3 rfl rfl dX5_row_1 ?_
  refine lv_iload_n hx hb dX5_row_4 rfl (lv_at hl 1 rfl) ?_
  refine cx_callVi0 (As := [.int x1]) (rest := []) ⟨hx, hb, hml, hown, hts⟩ (c_X4_has l D cI q _ σ x1 _ hw) (cwV 1 hts gR_X4_has rfl rfl rfl (by decide +kernel) ⟨Nat.le_of_ble_eq_true rfl, Nat.le_of_ble_eq_true rfl⟩) hK hC hA 4 rfl rfl rfl rfl hl.1 rfl (Nat.le_of_ble_eq_true rfl) dX5_row_5 ⟨Nat.zero_le _, Nat.zero_le _⟩ (fun r u H locs hw hC => ?_)
  refine lv_if_ne (tgt := 21) hx hb dX5_row_8 (by decide) (fun c_1 => ?_) (fun c_1 => ?_)
  · have hw := hw.1 c_1
    refine lv_aload_n hx hb dX5_row_21 rfl (lv_at hl 0 rfl) ?_
    refine cx_get (v := .ref (q 4)) hx hb hts iX5 hown hK hC 0 rfl rfl 3 (by decide) u3 rfl rfl dX5_row_22 ?_
    refine cx_get (v := .ref (q 21)) hx hb hts iX4 hown hK hC 4 rfl rfl 2 (by decide) u4 rfl rfl dX5_row_25 ?_
    refine lv_iload_n hx hb dX5_row_28 rfl (lv_at hl 1 rfl) ?_
    refine cx_iald (f := u.2 14) hx hb hK hC 21 rfl hw.1 dX5_row_29 ?_
    have hw := hw.2
    refine vx_ret ?_
    refine W.widen (k := 1) (n := 6) (Nat.zero_le _) (Nat.zero_le _) ?_
    exact W.iret hx hb hr (fun t ht hW => ⟨⟨_, u, rfl, hw, by rw [ht]; exact hC.1, va_K.moved hW.alike hK, hC.2.1⟩, hC.2.2.F ht⟩) hC.2.2.2.2 dX5_row_30 hlocks
  · have hw := hw.2 c_1
    exact ex_throw hx hb hlt hown u1 u2 hT.1 hat ex_ot hT.2.2.1 hT.2.2.2 hC.2.2 (hl.1.trans hml.symm) dX5_row_11 dX5_row_14 dX5_row_15 dX5_row_17 dX5_row_20 (fun x h => (htab x h).elim) (by decide) (Nat.le_of_ble_eq_true rfl) (Nat.le_of_ble_eq_true rfl) (Nat.le_of_ble_eq_true rfl) hlocks
      (fun t hvm hz hk => ⟨u, hw, ⟨rfl, hC.1.kept (fun k z hz9 => hk z.1 (hC.1 k z hz9).lt), va_K.moved hvm hK, hC.2.1⟩, Nat.le_trans hC.2.2.1 hz, fun z h1 h2 => (hk z (Nat.lt_of_lt_of_le h1 hC.2.2.1)).trans (hC.2.2.2.1 z h1 h2)⟩) hC.2.2.2.2 (Nat.le_refl 1) (Nat.le_refl 6)
