/-! THE CLAIM OUT OF ONE WALK OF THE LAW'S BODY. Your part is whole_start (and what it stands on); all else here is the same for every law, but numbers. -/
def R_law : String := "PictureHeapLaw"
def lw_P (b : Addr) (xs : List Int32) (args : Array Value) (s : State) : Prop := args = #[.ref b] ∧ s.IntsAt b xs ∧ xs.length ≤ 2560 ∧ (Jvm.Cond.and given_1 narrow_1).before args s = true
def lw_Q (_ : Array Value) (s : State) (o : Outcome) (t : State) : Prop := o = .returned (some (.int 1)) ∧ Framed s o t [] 1069 10931
def lw_Z (below : List Frame) (a : Array Value) (s : State) : State → Prop := fun t => ∃ o, t.status = .running ∧ Ended t below o ∧ lw_Q a s o t
/-- the law's own end, with 1 on the stack, nothing written that was there before, its room as the claim has it -/
theorem lw_ret {p : Program} {l : Launch} {e : Env} {s : State} {m : MethodId} {below : List Frame} {meth : Method} {c : Code} {b : Nat} (hx : p.tables.exec = Jvm.exec) (hb : c.code = code) (hr : meth.sig.returnType = ret) (hlocks : meth.locks = false) {pc : Nat} {H : Heap} {ls : Array Slot} (hdg : decode code pc = .ok (.ireturn, 1)) : W p l e room_1 s m #[Value.ref b] below meth c H [] 1069 10931 (lw_Z below #[Value.ref b] s) (F0 m pc ls [.int 1]) := by
  intro T hT X
  obtain ⟨fs, hret, hrun, hended, hW, hframe⟩ := X.leave (v := some (.int 1)) (hlocks := hlocks) (fun h => by rw [hr] at h; cases h)
  have hmeth' : T.vm.method? m = some meth := X.method'
  refine ⟨T.setFrames fs, ?_, .returned (some (.int 1)), hrun, hended, rfl, ⟨_, rfl⟩, hW, hframe⟩
  jvm_step X.here [X.here.top, hx, hb, hdg, hmeth', hr, ret, narrow_b1]
  (try refine ⟨rfl, ?_⟩); (try refine ⟨rfl, ?_⟩)
  first | (intro acts; rw [hret _ acts rfl rfl rfl]) | rw [hret _ _ rfl rfl rfl]
  exact Steps.refl _
/-- what holds at the law's entry: the machine, the code, the tables' words (any of lw_tbl by 'hts w (by decide +kernel)'), the script of L ints xs at the cell b, what the Statement gives of the start (any of its parts by flat_of_before) -/
def lw_At (p : Program) (s : State) (m : MethodId) (meth : Method) (c : Code) (b L : Nat) (xs : Nat → Int32) : Prop :=
  p.tables.exec = Jvm.exec ∧ c.code = code ∧ meth.sig.returnType = ret ∧ c.maxLocals = 7 ∧ s.vm.findClass R_law = some m.cls ∧ (∀ w ∈ lw_tbl, w.before #[Value.ref b] s = true) ∧ va_X b L xs s s.heap ∧ b < s.heap.size ∧ meth.locks = false ∧ (Jvm.Cond.and given_1 narrow_1).before #[Value.ref b] s = true
def wL (cI cL : ClassId) (qx qm : Nat → Nat) (a : Nat) (σx σm : St) (g : Nat → Int64) : va_W := wM cI qm σm ++ (wX cI qx σx ++ wo cL a g)
/-- what the law's loop needs of class and reference, of their numbers alone -/
def LawSteps (R : Nat → St → St → Prop) : Prop :=
  (∀ j σx σm , j < 512 → R j σx σm → w_X5_camera σx  (fun r u => w_X6_camera σm  (fun r2 u2 => r = r2 ∧ R (j + 1) u u2))) ∧
  (∀ j σx σm , j < 512 → R j σx σm → w_X5_place σx  (fun r u => w_X6_place σm  (fun r2 u2 => r = r2 ∧ R (j + 1) u u2))) ∧
  (∀ j σx σm y0 y1 y2, j < 512 → R j σx σm → w_X5_way σx y0 y1 y2 (fun r u => w_X6_way σm y0 y1 y2 (fun r2 u2 => r = r2 ∧ R (j + 1) u u2))) ∧
  (∀ j σx σm y0 y1 y2 y3, j < 512 → R j σx σm → w_X5_picture σx y0 y1 y2 y3 (fun r u => w_X6_picture σm y0 y1 y2 y3 (fun r2 u2 => r = r2 ∧ R (j + 1) u u2))) ∧
  (∀ j σx σm y0, j < 512 → R j σx σm → w_X5_gap σx y0 (fun r u => w_X6_gap σm y0 (fun r2 u2 => r = r2 ∧ R (j + 1) u u2))) ∧
  (∀ j σx σm y0 y1 y2, j < 512 → R j σx σm → w_X5_near σx y0 y1 y2 (fun r u => w_X6_near σm y0 y1 y2 (fun r2 u2 => r = r2 ∧ R (j + 1) u u2))) ∧
  (∀ j σx σm y0 y1, j < 512 → R j σx σm → w_X5_ahead σx y0 y1 (fun r u => w_X6_ahead σm y0 y1 (fun r2 u2 => r = r2 ∧ R (j + 1) u u2))) ∧
  (∀ j σx σm y0 y1 y2, j < 512 → R j σx σm → w_X5_off σx y0 y1 y2 (fun r u => w_X6_off σm y0 y1 y2 (fun r2 u2 => r = r2 ∧ R (j + 1) u u2))) ∧
  (∀ j σx σm , j < 512 → R j σx σm → w_X5_quarrel σx  (fun r u => w_X6_quarrel σm  (fun r2 u2 => r = r2 ∧ R (j + 1) u u2))) ∧
  (∀ j σx σm y0, j < 512 → R j σx σm → w_X5_untie σx y0 (fun r u => w_X6_untie σm y0 (fun r2 u2 => r = r2 ∧ R (j + 1) u u2))) ∧
  (∀ j σx σm y0, j < 512 → R j σx σm → w_X5_idle σx y0 (fun r u => w_X6_idle σm y0 (fun r2 u2 => r = r2 ∧ R (j + 1) u u2))) ∧
  (∀ j σx σm y0, j < 512 → R j σx σm → ∀ z, z = 0 ∨ z = 1 → w_X5_range σx y0 z (fun r u => w_X6_range σm y0 z (fun r2 u2 => r = r2 ∧ R (j + 1) u u2))) ∧
  (∀ j σx σm y0 y1, j < 512 → R j σx σm → ∀ z, z = 0 ∨ z = 1 → w_X5_between σx y0 y1 z (fun r u => w_X6_between σm y0 y1 z (fun r2 u2 => r = r2 ∧ R (j + 1) u u2))) ∧
  (∀ j σx σm y0 y1, j < 512 → R j σx σm → w_X5_order σx y0 y1 (fun r u => w_X6_order σm y0 y1 (fun r2 u2 => r = r2 ∧ R (j + 1) u u2))) ∧
  (∀ j σx σm , j < 512 → R j σx σm → w_X5_unsure σx  (fun r u => w_X6_unsure σm  (fun r2 u2 => r = r2 ∧ R (j + 1) u u2))) ∧
  (∀ j σx σm , j < 512 → R j σx σm → w_X5_known σx  (fun r u => w_X6_known σm  (fun r2 u2 => r = r2 ∧ R (j + 1) u u2))) ∧
  (∀ j σx σm , j < 512 → R j σx σm → w_X5_put σx  (fun r u => w_X6_put σm  (fun r2 u2 => r = r2 ∧ R (j + 1) u u2))) ∧
  (∀ j σx σm y0, j < 512 → R j σx σm → w_X5_offset σx y0 (fun r u => w_X6_offset σm y0 (fun r2 u2 => r = r2 ∧ R (j + 1) u u2))) ∧
  (∀ j σx σm y0, j < 512 → R j σx σm → w_X5_time σx y0 (fun r u => w_X6_time σm y0 (fun r2 u2 => r = r2 ∧ R (j + 1) u u2))) ∧
  (∀ j σx σm , j < 512 → R j σx σm → w_X5_days σx  (fun r u => w_X6_days σm  (fun r2 u2 => r = r2 ∧ R (j + 1) u u2))) ∧
  (∀ j σx σm y0 y1, j < 512 → R j σx σm → w_X5_day σx y0 y1 (fun r u => w_X6_day σm y0 y1 (fun r2 u2 => r = r2 ∧ R (j + 1) u u2))) ∧
  (∀ j σx σm , j < 512 → R j σx σm → w_X5_bursts σx  (fun r u => w_X6_bursts σm  (fun r2 u2 => r = r2 ∧ R (j + 1) u u2))) ∧
  (∀ j σx σm , j < 512 → R j σx σm → w_X5_longest σx  (fun r u => w_X6_longest σm  (fun r2 u2 => r = r2 ∧ R (j + 1) u u2))) ∧
  (∀ j σx σm , j < 512 → R j σx σm → w_X5_doubles σx  (fun r u => w_X6_doubles σm  (fun r2 u2 => r = r2 ∧ R (j + 1) u u2))) ∧
  (∀ j σx σm y0, j < 512 → R j σx σm → w_X5_can σx y0 (fun r u => w_X6_can σm y0 (fun r2 u2 => r = r2 ∧ R (j + 1) u u2))) ∧
  (∀ j σx σm , j < 512 → R j σx σm → w_X5_found σx  (fun r u => w_X6_found σm  (fun r2 u2 => r = r2 ∧ R (j + 1) u u2))) ∧
  (∀ j σx σm , j < 512 → R j σx σm → w_X5_strange σx  (fun r u => w_X6_strange σm  (fun r2 u2 => r = r2 ∧ R (j + 1) u u2))) ∧
  (∀ j σx σm y0, j < 512 → R j σx σm → w_X5_count σx y0 (fun r u => w_X6_count σm y0 (fun r2 u2 => r = r2 ∧ R (j + 1) u u2))) ∧
  (∀ j σx σm , j < 512 → R j σx σm → w_X5_trouble σx  (fun r u => w_X6_trouble σm  (fun r2 u2 => r = r2 ∧ R (j + 1) u u2))) ∧
  (∀ j σx σm (g : Nat → Int64) y0, j < 512 → R j σx σm → w_L_row (σx, g) y0 (fun k u => w_X6_row σm y0 (fun b v => w_X6_thrown v (fun t v2 => t = k ∧ (k = 0 → lg_cmp (u.2 (Int32.toNatClampNeg 0)) b.toInt64 = 0) ∧ R (j + 1) u.1 v2)))) ∧
  (∀ j σx σm, R j σx σm → R (j + 1) σx σm)
set_option maxHeartbeats 4000000 in
set_option maxRecDepth 100000 in
theorem lc_0 {p : Program} {l : Launch} {e : Env} {s : State} {m : MethodId} {below : List Frame} {meth : Method} {c : Code} {D : va_G} {cI cL : ClassId} {qx qm : Nat → Nat} {a b L i : Nat} {xs : Nat → Int32} {x4 : Int32} {σx σm : St} {g : Nat → Int64} {H : Heap} {locs : List Loc} {ls : Array Slot} {cells slots : Nat} {R : St → St → Prop} (hL : L ≤ 2560) (C0 : lw_At p s m meth c b L xs) (hK : va_K D vwCl [(cI, .int), (cL, .long)] s) (hC : Cx D (fun q : Nat => s.heap.size ≤ q) s.heap (wL cI cL qx qm a σx σm g) H locs) (hl : lv_has ls 7 [(0, .ref b), (1, .ref (qx 0)), (2, .ref (qm 0)), (3, .ref a), (4, .int x4)]) (ex4 : x4 = nI i) (hi : i + 4 < L) (hcs : cells + 1 ≤ 1069 ∧ slots + 6 ≤ 10931) (hw : w_X5_camera σx  (fun r u => w_X6_camera σm  (fun r2 u2 => r = r2 ∧ R u u2))) (kk : ∀ (σx σm : St) (g : Nat → Int64) (H : Heap) (locs : List Loc) (ls : Array Slot), R σx σm → Cx D (fun q : Nat => s.heap.size ≤ q) s.heap (wL cI cL qx qm a σx σm g) H locs → lv_has ls 7 [(0, .ref b), (1, .ref (qx 0)), (2, .ref (qm 0)), (3, .ref a), (4, .int x4)] → W p l e room_1 s m #[Value.ref b] below meth c H locs (cells + 1) (slots + 6) (lw_Z below #[Value.ref b] s) (F0 m 1009 ls [])) : W p l e room_1 s m #[Value.ref b] below meth c H locs cells slots (lw_Z below #[Value.ref b] s) (F0 m 172 ls []) := by
  obtain ⟨hx, hb, hr, hml, hown, hts, hX, hbl, hlocks, hgv⟩ := C0
  have hA : ∀ q : Nat, s.heap.size ≤ q → (fun q : Nat => s.heap.size ≤ q) q := fun _ h => h
  have hbA : ¬ (fun q : Nat => s.heap.size ≤ q) b := Nat.not_le.mpr hbl
  have hK1 : va_K D vwCl [(cI, .int)] s := hK.sub [0] rfl
  have hin : ∀ k : Nat, k ≤ 4 → vp_in (x4 + nI k) L := fun k hk => by rw [ex4, nI_add]; exact vp_in_nI (by omega) (by omega)
  refine lv_aload_n hx hb dL_law_172 rfl (lv_at hl 1 rfl) ?_
  refine mid_callVi (w := wX cI qx σx) (As := []) (rest := []) ⟨hx, hb, hml, hown, hts⟩ (c_X5_camera l D cI qx _ σx  _ hw) (cwV 0 hts gT_X5_camera rfl rfl rfl (by decide +kernel) ⟨Nat.le_of_ble_eq_true rfl, Nat.le_of_ble_eq_true rfl⟩) hK1 hC hA 0 rfl rfl rfl rfl hl.1 rfl (Nat.le_of_ble_eq_true rfl) dL_law_173 ⟨by have := hcs.1; show cells ≤ 1069; omega, by have := hcs.2; show slots ≤ 10931; omega⟩ (fun r1 u1 H locs hw hC => ?_)
  refine lv_aload_n hx hb dL_law_176 rfl (lv_at hl 2 rfl) ?_
  refine mid_callVi (wa := []) (w := wM cI qm σm) (As := []) (rest := [.int r1]) ⟨hx, hb, hml, hown, hts⟩ (c_X6_camera l D cI qm _ σm  _ hw) (cwV 0 hts gT_X6_camera rfl rfl rfl (by decide +kernel) ⟨Nat.le_of_ble_eq_true rfl, Nat.le_of_ble_eq_true rfl⟩) hK1 hC hA 0 rfl rfl rfl rfl hl.1 rfl (Nat.le_of_ble_eq_true rfl) dL_law_177 ⟨by have := hcs.1; show cells ≤ 1069; omega, by have := hcs.2; show slots ≤ 10931; omega⟩ (fun r2 u2 H locs hw hC => ?_)
  refine lv_icmp_eq (tgt := 1009) hx hb dL_law_180 (by decide) (fun c9 => ?_) (fun c9 => ?_)
  · refine W.widen (k := cells + 1) (n := slots + 6) (Nat.le_succ _) (by omega) ?_
    exact kk u1 u2 g H locs ls hw.2 hC hl
  · exact absurd hw.1 c9
set_option maxHeartbeats 4000000 in
set_option maxRecDepth 100000 in
theorem lc_1 {p : Program} {l : Launch} {e : Env} {s : State} {m : MethodId} {below : List Frame} {meth : Method} {c : Code} {D : va_G} {cI cL : ClassId} {qx qm : Nat → Nat} {a b L i : Nat} {xs : Nat → Int32} {x4 : Int32} {σx σm : St} {g : Nat → Int64} {H : Heap} {locs : List Loc} {ls : Array Slot} {cells slots : Nat} {R : St → St → Prop} (hL : L ≤ 2560) (C0 : lw_At p s m meth c b L xs) (hK : va_K D vwCl [(cI, .int), (cL, .long)] s) (hC : Cx D (fun q : Nat => s.heap.size ≤ q) s.heap (wL cI cL qx qm a σx σm g) H locs) (hl : lv_has ls 7 [(0, .ref b), (1, .ref (qx 0)), (2, .ref (qm 0)), (3, .ref a), (4, .int x4)]) (ex4 : x4 = nI i) (hi : i + 4 < L) (hcs : cells + 1 ≤ 1069 ∧ slots + 6 ≤ 10931) (hw : w_X5_place σx  (fun r u => w_X6_place σm  (fun r2 u2 => r = r2 ∧ R u u2))) (kk : ∀ (σx σm : St) (g : Nat → Int64) (H : Heap) (locs : List Loc) (ls : Array Slot), R σx σm → Cx D (fun q : Nat => s.heap.size ≤ q) s.heap (wL cI cL qx qm a σx σm g) H locs → lv_has ls 7 [(0, .ref b), (1, .ref (qx 0)), (2, .ref (qm 0)), (3, .ref a), (4, .int x4)] → W p l e room_1 s m #[Value.ref b] below meth c H locs (cells + 1) (slots + 6) (lw_Z below #[Value.ref b] s) (F0 m 1009 ls [])) : W p l e room_1 s m #[Value.ref b] below meth c H locs cells slots (lw_Z below #[Value.ref b] s) (F0 m 185 ls []) := by
  obtain ⟨hx, hb, hr, hml, hown, hts, hX, hbl, hlocks, hgv⟩ := C0
  have hA : ∀ q : Nat, s.heap.size ≤ q → (fun q : Nat => s.heap.size ≤ q) q := fun _ h => h
  have hbA : ¬ (fun q : Nat => s.heap.size ≤ q) b := Nat.not_le.mpr hbl
  have hK1 : va_K D vwCl [(cI, .int)] s := hK.sub [0] rfl
  have hin : ∀ k : Nat, k ≤ 4 → vp_in (x4 + nI k) L := fun k hk => by rw [ex4, nI_add]; exact vp_in_nI (by omega) (by omega)
  refine lv_aload_n hx hb dL_law_185 rfl (lv_at hl 1 rfl) ?_
  refine mid_callVi (w := wX cI qx σx) (As := []) (rest := []) ⟨hx, hb, hml, hown, hts⟩ (c_X5_place l D cI qx _ σx  _ hw) (cwV 0 hts gT_X5_place rfl rfl rfl (by decide +kernel) ⟨Nat.le_of_ble_eq_true rfl, Nat.le_of_ble_eq_true rfl⟩) hK1 hC hA 0 rfl rfl rfl rfl hl.1 rfl (Nat.le_of_ble_eq_true rfl) dL_law_186 ⟨by have := hcs.1; show cells ≤ 1069; omega, by have := hcs.2; show slots ≤ 10931; omega⟩ (fun r1 u1 H locs hw hC => ?_)
  refine lv_aload_n hx hb dL_law_189 rfl (lv_at hl 2 rfl) ?_
  refine mid_callVi (wa := []) (w := wM cI qm σm) (As := []) (rest := [.int r1]) ⟨hx, hb, hml, hown, hts⟩ (c_X6_place l D cI qm _ σm  _ hw) (cwV 0 hts gT_X6_place rfl rfl rfl (by decide +kernel) ⟨Nat.le_of_ble_eq_true rfl, Nat.le_of_ble_eq_true rfl⟩) hK1 hC hA 0 rfl rfl rfl rfl hl.1 rfl (Nat.le_of_ble_eq_true rfl) dL_law_190 ⟨by have := hcs.1; show cells ≤ 1069; omega, by have := hcs.2; show slots ≤ 10931; omega⟩ (fun r2 u2 H locs hw hC => ?_)
  refine lv_icmp_eq (tgt := 1009) hx hb dL_law_193 (by decide) (fun c9 => ?_) (fun c9 => ?_)
  · refine W.widen (k := cells + 1) (n := slots + 6) (Nat.le_succ _) (by omega) ?_
    exact kk u1 u2 g H locs ls hw.2 hC hl
  · exact absurd hw.1 c9
set_option maxHeartbeats 4000000 in
set_option maxRecDepth 100000 in
theorem lc_2 {p : Program} {l : Launch} {e : Env} {s : State} {m : MethodId} {below : List Frame} {meth : Method} {c : Code} {D : va_G} {cI cL : ClassId} {qx qm : Nat → Nat} {a b L i : Nat} {xs : Nat → Int32} {x4 : Int32} {σx σm : St} {g : Nat → Int64} {H : Heap} {locs : List Loc} {ls : Array Slot} {cells slots : Nat} {R : St → St → Prop} (hL : L ≤ 2560) (C0 : lw_At p s m meth c b L xs) (hK : va_K D vwCl [(cI, .int), (cL, .long)] s) (hC : Cx D (fun q : Nat => s.heap.size ≤ q) s.heap (wL cI cL qx qm a σx σm g) H locs) (hl : lv_has ls 7 [(0, .ref b), (1, .ref (qx 0)), (2, .ref (qm 0)), (3, .ref a), (4, .int x4)]) (ex4 : x4 = nI i) (hi : i + 4 < L) (hcs : cells + 1 ≤ 1069 ∧ slots + 6 ≤ 10931) (hw : w_X5_way σx (xs (Int32.toNatClampNeg (x4 + 1))) (xs (Int32.toNatClampNeg (x4 + 2))) (xs (Int32.toNatClampNeg (x4 + 3))) (fun r u => w_X6_way σm (xs (Int32.toNatClampNeg (x4 + 1))) (xs (Int32.toNatClampNeg (x4 + 2))) (xs (Int32.toNatClampNeg (x4 + 3))) (fun r2 u2 => r = r2 ∧ R u u2))) (kk : ∀ (σx σm : St) (g : Nat → Int64) (H : Heap) (locs : List Loc) (ls : Array Slot), R σx σm → Cx D (fun q : Nat => s.heap.size ≤ q) s.heap (wL cI cL qx qm a σx σm g) H locs → lv_has ls 7 [(0, .ref b), (1, .ref (qx 0)), (2, .ref (qm 0)), (3, .ref a), (4, .int x4)] → W p l e room_1 s m #[Value.ref b] below meth c H locs (cells + 1) (slots + 6) (lw_Z below #[Value.ref b] s) (F0 m 1009 ls [])) : W p l e room_1 s m #[Value.ref b] below meth c H locs cells slots (lw_Z below #[Value.ref b] s) (F0 m 198 ls []) := by
  obtain ⟨hx, hb, hr, hml, hown, hts, hX, hbl, hlocks, hgv⟩ := C0
  have hA : ∀ q : Nat, s.heap.size ≤ q → (fun q : Nat => s.heap.size ≤ q) q := fun _ h => h
  have hbA : ¬ (fun q : Nat => s.heap.size ≤ q) b := Nat.not_le.mpr hbl
  have hK1 : va_K D vwCl [(cI, .int)] s := hK.sub [0] rfl
  have hin : ∀ k : Nat, k ≤ 4 → vp_in (x4 + nI k) L := fun k hk => by rw [ex4, nI_add]; exact vp_in_nI (by omega) (by omega)
  refine lv_aload_n hx hb dL_law_198 rfl (lv_at hl 1 rfl) ?_
  refine lv_aload_n hx hb dL_law_199 rfl (lv_at hl 0 rfl) ?_
  refine lv_iload hx hb dL_law_200 (lv_at hl 4 rfl) ?_
  refine lv_iconst (v := 1) hx hb dL_law_202 (by decide) ?_
  refine lv_iadd hx hb dL_law_203 ?_
  refine va_sld hx hb hX hbl hbA hC.2.2 (hin 1 (by decide)) dL_law_204 ?_
  refine lv_aload_n hx hb dL_law_205 rfl (lv_at hl 0 rfl) ?_
  refine lv_iload hx hb dL_law_206 (lv_at hl 4 rfl) ?_
  refine lv_iconst (v := 2) hx hb dL_law_208 (by decide) ?_
  refine lv_iadd hx hb dL_law_209 ?_
  refine va_sld hx hb hX hbl hbA hC.2.2 (hin 2 (by decide)) dL_law_210 ?_
  refine lv_aload_n hx hb dL_law_211 rfl (lv_at hl 0 rfl) ?_
  refine lv_iload hx hb dL_law_212 (lv_at hl 4 rfl) ?_
  refine lv_iconst (v := 3) hx hb dL_law_214 (by decide) ?_
  refine lv_iadd hx hb dL_law_215 ?_
  refine va_sld hx hb hX hbl hbA hC.2.2 (hin 3 (by decide)) dL_law_216 ?_
  refine mid_callVi (w := wX cI qx σx) (As := [.int (xs (Int32.toNatClampNeg (x4 + 1))), .int (xs (Int32.toNatClampNeg (x4 + 2))), .int (xs (Int32.toNatClampNeg (x4 + 3)))]) (rest := []) ⟨hx, hb, hml, hown, hts⟩ (c_X5_way l D cI qx _ σx (xs (Int32.toNatClampNeg (x4 + 1))) (xs (Int32.toNatClampNeg (x4 + 2))) (xs (Int32.toNatClampNeg (x4 + 3))) _ hw) (cwV 3 hts gT_X5_way rfl rfl rfl (by decide +kernel) ⟨Nat.le_of_ble_eq_true rfl, Nat.le_of_ble_eq_true rfl⟩) hK1 hC hA 0 rfl rfl rfl rfl hl.1 rfl (Nat.le_of_ble_eq_true rfl) dL_law_217 ⟨by have := hcs.1; show cells ≤ 1069; omega, by have := hcs.2; show slots ≤ 10931; omega⟩ (fun r1 u1 H locs hw hC => ?_)
  refine lv_aload_n hx hb dL_law_220 rfl (lv_at hl 2 rfl) ?_
  refine lv_aload_n hx hb dL_law_221 rfl (lv_at hl 0 rfl) ?_
  refine lv_iload hx hb dL_law_222 (lv_at hl 4 rfl) ?_
  refine lv_iconst (v := 1) hx hb dL_law_224 (by decide) ?_
  refine lv_iadd hx hb dL_law_225 ?_
  refine va_sld hx hb hX hbl hbA hC.2.2 (hin 1 (by decide)) dL_law_226 ?_
  refine lv_aload_n hx hb dL_law_227 rfl (lv_at hl 0 rfl) ?_
  refine lv_iload hx hb dL_law_228 (lv_at hl 4 rfl) ?_
  refine lv_iconst (v := 2) hx hb dL_law_230 (by decide) ?_
  refine lv_iadd hx hb dL_law_231 ?_
  refine va_sld hx hb hX hbl hbA hC.2.2 (hin 2 (by decide)) dL_law_232 ?_
  refine lv_aload_n hx hb dL_law_233 rfl (lv_at hl 0 rfl) ?_
  refine lv_iload hx hb dL_law_234 (lv_at hl 4 rfl) ?_
  refine lv_iconst (v := 3) hx hb dL_law_236 (by decide) ?_
  refine lv_iadd hx hb dL_law_237 ?_
  refine va_sld hx hb hX hbl hbA hC.2.2 (hin 3 (by decide)) dL_law_238 ?_
  refine mid_callVi (wa := []) (w := wM cI qm σm) (As := [.int (xs (Int32.toNatClampNeg (x4 + 1))), .int (xs (Int32.toNatClampNeg (x4 + 2))), .int (xs (Int32.toNatClampNeg (x4 + 3)))]) (rest := [.int r1]) ⟨hx, hb, hml, hown, hts⟩ (c_X6_way l D cI qm _ σm (xs (Int32.toNatClampNeg (x4 + 1))) (xs (Int32.toNatClampNeg (x4 + 2))) (xs (Int32.toNatClampNeg (x4 + 3))) _ hw) (cwV 3 hts gT_X6_way rfl rfl rfl (by decide +kernel) ⟨Nat.le_of_ble_eq_true rfl, Nat.le_of_ble_eq_true rfl⟩) hK1 hC hA 0 rfl rfl rfl rfl hl.1 rfl (Nat.le_of_ble_eq_true rfl) dL_law_239 ⟨by have := hcs.1; show cells ≤ 1069; omega, by have := hcs.2; show slots ≤ 10931; omega⟩ (fun r2 u2 H locs hw hC => ?_)
  refine lv_icmp_eq (tgt := 1009) hx hb dL_law_242 (by decide) (fun c9 => ?_) (fun c9 => ?_)
  · refine W.widen (k := cells + 1) (n := slots + 6) (Nat.le_succ _) (by omega) ?_
    exact kk u1 u2 g H locs ls hw.2 hC hl
  · exact absurd hw.1 c9
set_option maxHeartbeats 4000000 in
set_option maxRecDepth 100000 in
theorem lc_3 {p : Program} {l : Launch} {e : Env} {s : State} {m : MethodId} {below : List Frame} {meth : Method} {c : Code} {D : va_G} {cI cL : ClassId} {qx qm : Nat → Nat} {a b L i : Nat} {xs : Nat → Int32} {x4 : Int32} {σx σm : St} {g : Nat → Int64} {H : Heap} {locs : List Loc} {ls : Array Slot} {cells slots : Nat} {R : St → St → Prop} (hL : L ≤ 2560) (C0 : lw_At p s m meth c b L xs) (hK : va_K D vwCl [(cI, .int), (cL, .long)] s) (hC : Cx D (fun q : Nat => s.heap.size ≤ q) s.heap (wL cI cL qx qm a σx σm g) H locs) (hl : lv_has ls 7 [(0, .ref b), (1, .ref (qx 0)), (2, .ref (qm 0)), (3, .ref a), (4, .int x4)]) (ex4 : x4 = nI i) (hi : i + 4 < L) (hcs : cells + 1 ≤ 1069 ∧ slots + 6 ≤ 10931) (hw : w_X5_picture σx (xs (Int32.toNatClampNeg (x4 + 1))) (xs (Int32.toNatClampNeg (x4 + 2))) (xs (Int32.toNatClampNeg (x4 + 3))) (xs (Int32.toNatClampNeg (x4 + 4))) (fun r u => w_X6_picture σm (xs (Int32.toNatClampNeg (x4 + 1))) (xs (Int32.toNatClampNeg (x4 + 2))) (xs (Int32.toNatClampNeg (x4 + 3))) (xs (Int32.toNatClampNeg (x4 + 4))) (fun r2 u2 => r = r2 ∧ R u u2))) (kk : ∀ (σx σm : St) (g : Nat → Int64) (H : Heap) (locs : List Loc) (ls : Array Slot), R σx σm → Cx D (fun q : Nat => s.heap.size ≤ q) s.heap (wL cI cL qx qm a σx σm g) H locs → lv_has ls 7 [(0, .ref b), (1, .ref (qx 0)), (2, .ref (qm 0)), (3, .ref a), (4, .int x4)] → W p l e room_1 s m #[Value.ref b] below meth c H locs (cells + 1) (slots + 6) (lw_Z below #[Value.ref b] s) (F0 m 1009 ls [])) : W p l e room_1 s m #[Value.ref b] below meth c H locs cells slots (lw_Z below #[Value.ref b] s) (F0 m 247 ls []) := by
  obtain ⟨hx, hb, hr, hml, hown, hts, hX, hbl, hlocks, hgv⟩ := C0
  have hA : ∀ q : Nat, s.heap.size ≤ q → (fun q : Nat => s.heap.size ≤ q) q := fun _ h => h
  have hbA : ¬ (fun q : Nat => s.heap.size ≤ q) b := Nat.not_le.mpr hbl
  have hK1 : va_K D vwCl [(cI, .int)] s := hK.sub [0] rfl
  have hin : ∀ k : Nat, k ≤ 4 → vp_in (x4 + nI k) L := fun k hk => by rw [ex4, nI_add]; exact vp_in_nI (by omega) (by omega)
  refine lv_aload_n hx hb dL_law_247 rfl (lv_at hl 1 rfl) ?_
  refine lv_aload_n hx hb dL_law_248 rfl (lv_at hl 0 rfl) ?_
  refine lv_iload hx hb dL_law_249 (lv_at hl 4 rfl) ?_
  refine lv_iconst (v := 1) hx hb dL_law_251 (by decide) ?_
  refine lv_iadd hx hb dL_law_252 ?_
  refine va_sld hx hb hX hbl hbA hC.2.2 (hin 1 (by decide)) dL_law_253 ?_
  refine lv_aload_n hx hb dL_law_254 rfl (lv_at hl 0 rfl) ?_
  refine lv_iload hx hb dL_law_255 (lv_at hl 4 rfl) ?_
  refine lv_iconst (v := 2) hx hb dL_law_257 (by decide) ?_
  refine lv_iadd hx hb dL_law_258 ?_
  refine va_sld hx hb hX hbl hbA hC.2.2 (hin 2 (by decide)) dL_law_259 ?_
  refine lv_aload_n hx hb dL_law_260 rfl (lv_at hl 0 rfl) ?_
  refine lv_iload hx hb dL_law_261 (lv_at hl 4 rfl) ?_
  refine lv_iconst (v := 3) hx hb dL_law_263 (by decide) ?_
  refine lv_iadd hx hb dL_law_264 ?_
  refine va_sld hx hb hX hbl hbA hC.2.2 (hin 3 (by decide)) dL_law_265 ?_
  refine lv_aload_n hx hb dL_law_266 rfl (lv_at hl 0 rfl) ?_
  refine lv_iload hx hb dL_law_267 (lv_at hl 4 rfl) ?_
  refine lv_iconst (v := 4) hx hb dL_law_269 (by decide) ?_
  refine lv_iadd hx hb dL_law_270 ?_
  refine va_sld hx hb hX hbl hbA hC.2.2 (hin 4 (by decide)) dL_law_271 ?_
  refine mid_callVi (w := wX cI qx σx) (As := [.int (xs (Int32.toNatClampNeg (x4 + 1))), .int (xs (Int32.toNatClampNeg (x4 + 2))), .int (xs (Int32.toNatClampNeg (x4 + 3))), .int (xs (Int32.toNatClampNeg (x4 + 4)))]) (rest := []) ⟨hx, hb, hml, hown, hts⟩ (c_X5_picture l D cI qx _ σx (xs (Int32.toNatClampNeg (x4 + 1))) (xs (Int32.toNatClampNeg (x4 + 2))) (xs (Int32.toNatClampNeg (x4 + 3))) (xs (Int32.toNatClampNeg (x4 + 4))) _ hw) (cwV 4 hts gT_X5_picture rfl rfl rfl (by decide +kernel) ⟨Nat.le_of_ble_eq_true rfl, Nat.le_of_ble_eq_true rfl⟩) hK1 hC hA 0 rfl rfl rfl rfl hl.1 rfl (Nat.le_of_ble_eq_true rfl) dL_law_272 ⟨by have := hcs.1; show cells ≤ 1069; omega, by have := hcs.2; show slots ≤ 10931; omega⟩ (fun r1 u1 H locs hw hC => ?_)
  refine lv_aload_n hx hb dL_law_275 rfl (lv_at hl 2 rfl) ?_
  refine lv_aload_n hx hb dL_law_276 rfl (lv_at hl 0 rfl) ?_
  refine lv_iload hx hb dL_law_277 (lv_at hl 4 rfl) ?_
  refine lv_iconst (v := 1) hx hb dL_law_279 (by decide) ?_
  refine lv_iadd hx hb dL_law_280 ?_
  refine va_sld hx hb hX hbl hbA hC.2.2 (hin 1 (by decide)) dL_law_281 ?_
  refine lv_aload_n hx hb dL_law_282 rfl (lv_at hl 0 rfl) ?_
  refine lv_iload hx hb dL_law_283 (lv_at hl 4 rfl) ?_
  refine lv_iconst (v := 2) hx hb dL_law_285 (by decide) ?_
  refine lv_iadd hx hb dL_law_286 ?_
  refine va_sld hx hb hX hbl hbA hC.2.2 (hin 2 (by decide)) dL_law_287 ?_
  refine lv_aload_n hx hb dL_law_288 rfl (lv_at hl 0 rfl) ?_
  refine lv_iload hx hb dL_law_289 (lv_at hl 4 rfl) ?_
  refine lv_iconst (v := 3) hx hb dL_law_291 (by decide) ?_
  refine lv_iadd hx hb dL_law_292 ?_
  refine va_sld hx hb hX hbl hbA hC.2.2 (hin 3 (by decide)) dL_law_293 ?_
  refine lv_aload_n hx hb dL_law_294 rfl (lv_at hl 0 rfl) ?_
  refine lv_iload hx hb dL_law_295 (lv_at hl 4 rfl) ?_
  refine lv_iconst (v := 4) hx hb dL_law_297 (by decide) ?_
  refine lv_iadd hx hb dL_law_298 ?_
  refine va_sld hx hb hX hbl hbA hC.2.2 (hin 4 (by decide)) dL_law_299 ?_
  refine mid_callVi (wa := []) (w := wM cI qm σm) (As := [.int (xs (Int32.toNatClampNeg (x4 + 1))), .int (xs (Int32.toNatClampNeg (x4 + 2))), .int (xs (Int32.toNatClampNeg (x4 + 3))), .int (xs (Int32.toNatClampNeg (x4 + 4)))]) (rest := [.int r1]) ⟨hx, hb, hml, hown, hts⟩ (c_X6_picture l D cI qm _ σm (xs (Int32.toNatClampNeg (x4 + 1))) (xs (Int32.toNatClampNeg (x4 + 2))) (xs (Int32.toNatClampNeg (x4 + 3))) (xs (Int32.toNatClampNeg (x4 + 4))) _ hw) (cwV 4 hts gT_X6_picture rfl rfl rfl (by decide +kernel) ⟨Nat.le_of_ble_eq_true rfl, Nat.le_of_ble_eq_true rfl⟩) hK1 hC hA 0 rfl rfl rfl rfl hl.1 rfl (Nat.le_of_ble_eq_true rfl) dL_law_300 ⟨by have := hcs.1; show cells ≤ 1069; omega, by have := hcs.2; show slots ≤ 10931; omega⟩ (fun r2 u2 H locs hw hC => ?_)
  refine lv_icmp_eq (tgt := 1009) hx hb dL_law_303 (by decide) (fun c9 => ?_) (fun c9 => ?_)
  · refine W.widen (k := cells + 1) (n := slots + 6) (Nat.le_succ _) (by omega) ?_
    exact kk u1 u2 g H locs ls hw.2 hC hl
  · exact absurd hw.1 c9
set_option maxHeartbeats 4000000 in
set_option maxRecDepth 100000 in
theorem lc_4 {p : Program} {l : Launch} {e : Env} {s : State} {m : MethodId} {below : List Frame} {meth : Method} {c : Code} {D : va_G} {cI cL : ClassId} {qx qm : Nat → Nat} {a b L i : Nat} {xs : Nat → Int32} {x4 : Int32} {σx σm : St} {g : Nat → Int64} {H : Heap} {locs : List Loc} {ls : Array Slot} {cells slots : Nat} {R : St → St → Prop} (hL : L ≤ 2560) (C0 : lw_At p s m meth c b L xs) (hK : va_K D vwCl [(cI, .int), (cL, .long)] s) (hC : Cx D (fun q : Nat => s.heap.size ≤ q) s.heap (wL cI cL qx qm a σx σm g) H locs) (hl : lv_has ls 7 [(0, .ref b), (1, .ref (qx 0)), (2, .ref (qm 0)), (3, .ref a), (4, .int x4)]) (ex4 : x4 = nI i) (hi : i + 4 < L) (hcs : cells + 1 ≤ 1069 ∧ slots + 6 ≤ 10931) (hw : w_X5_gap σx (xs (Int32.toNatClampNeg (x4 + 1))) (fun r u => w_X6_gap σm (xs (Int32.toNatClampNeg (x4 + 1))) (fun r2 u2 => r = r2 ∧ R u u2))) (kk : ∀ (σx σm : St) (g : Nat → Int64) (H : Heap) (locs : List Loc) (ls : Array Slot), R σx σm → Cx D (fun q : Nat => s.heap.size ≤ q) s.heap (wL cI cL qx qm a σx σm g) H locs → lv_has ls 7 [(0, .ref b), (1, .ref (qx 0)), (2, .ref (qm 0)), (3, .ref a), (4, .int x4)] → W p l e room_1 s m #[Value.ref b] below meth c H locs (cells + 1) (slots + 6) (lw_Z below #[Value.ref b] s) (F0 m 1009 ls [])) : W p l e room_1 s m #[Value.ref b] below meth c H locs cells slots (lw_Z below #[Value.ref b] s) (F0 m 308 ls []) := by
  obtain ⟨hx, hb, hr, hml, hown, hts, hX, hbl, hlocks, hgv⟩ := C0
  have hA : ∀ q : Nat, s.heap.size ≤ q → (fun q : Nat => s.heap.size ≤ q) q := fun _ h => h
  have hbA : ¬ (fun q : Nat => s.heap.size ≤ q) b := Nat.not_le.mpr hbl
  have hK1 : va_K D vwCl [(cI, .int)] s := hK.sub [0] rfl
  have hin : ∀ k : Nat, k ≤ 4 → vp_in (x4 + nI k) L := fun k hk => by rw [ex4, nI_add]; exact vp_in_nI (by omega) (by omega)
  refine lv_aload_n hx hb dL_law_308 rfl (lv_at hl 1 rfl) ?_
  refine lv_aload_n hx hb dL_law_309 rfl (lv_at hl 0 rfl) ?_
  refine lv_iload hx hb dL_law_310 (lv_at hl 4 rfl) ?_
  refine lv_iconst (v := 1) hx hb dL_law_312 (by decide) ?_
  refine lv_iadd hx hb dL_law_313 ?_
  refine va_sld hx hb hX hbl hbA hC.2.2 (hin 1 (by decide)) dL_law_314 ?_
  refine mid_callVi (w := wX cI qx σx) (As := [.int (xs (Int32.toNatClampNeg (x4 + 1)))]) (rest := []) ⟨hx, hb, hml, hown, hts⟩ (c_X5_gap l D cI qx _ σx (xs (Int32.toNatClampNeg (x4 + 1))) _ hw) (cwV 1 hts gT_X5_gap rfl rfl rfl (by decide +kernel) ⟨Nat.le_of_ble_eq_true rfl, Nat.le_of_ble_eq_true rfl⟩) hK1 hC hA 0 rfl rfl rfl rfl hl.1 rfl (Nat.le_of_ble_eq_true rfl) dL_law_315 ⟨by have := hcs.1; show cells ≤ 1069; omega, by have := hcs.2; show slots ≤ 10931; omega⟩ (fun r1 u1 H locs hw hC => ?_)
  refine lv_aload_n hx hb dL_law_318 rfl (lv_at hl 2 rfl) ?_
  refine lv_aload_n hx hb dL_law_319 rfl (lv_at hl 0 rfl) ?_
  refine lv_iload hx hb dL_law_320 (lv_at hl 4 rfl) ?_
  refine lv_iconst (v := 1) hx hb dL_law_322 (by decide) ?_
  refine lv_iadd hx hb dL_law_323 ?_
  refine va_sld hx hb hX hbl hbA hC.2.2 (hin 1 (by decide)) dL_law_324 ?_
  refine mid_callVi (wa := []) (w := wM cI qm σm) (As := [.int (xs (Int32.toNatClampNeg (x4 + 1)))]) (rest := [.int r1]) ⟨hx, hb, hml, hown, hts⟩ (c_X6_gap l D cI qm _ σm (xs (Int32.toNatClampNeg (x4 + 1))) _ hw) (cwV 1 hts gT_X6_gap rfl rfl rfl (by decide +kernel) ⟨Nat.le_of_ble_eq_true rfl, Nat.le_of_ble_eq_true rfl⟩) hK1 hC hA 0 rfl rfl rfl rfl hl.1 rfl (Nat.le_of_ble_eq_true rfl) dL_law_325 ⟨by have := hcs.1; show cells ≤ 1069; omega, by have := hcs.2; show slots ≤ 10931; omega⟩ (fun r2 u2 H locs hw hC => ?_)
  refine lv_icmp_eq (tgt := 1009) hx hb dL_law_328 (by decide) (fun c9 => ?_) (fun c9 => ?_)
  · refine W.widen (k := cells + 1) (n := slots + 6) (Nat.le_succ _) (by omega) ?_
    exact kk u1 u2 g H locs ls hw.2 hC hl
  · exact absurd hw.1 c9
set_option maxHeartbeats 4000000 in
set_option maxRecDepth 100000 in
theorem lc_5 {p : Program} {l : Launch} {e : Env} {s : State} {m : MethodId} {below : List Frame} {meth : Method} {c : Code} {D : va_G} {cI cL : ClassId} {qx qm : Nat → Nat} {a b L i : Nat} {xs : Nat → Int32} {x4 : Int32} {σx σm : St} {g : Nat → Int64} {H : Heap} {locs : List Loc} {ls : Array Slot} {cells slots : Nat} {R : St → St → Prop} (hL : L ≤ 2560) (C0 : lw_At p s m meth c b L xs) (hK : va_K D vwCl [(cI, .int), (cL, .long)] s) (hC : Cx D (fun q : Nat => s.heap.size ≤ q) s.heap (wL cI cL qx qm a σx σm g) H locs) (hl : lv_has ls 7 [(0, .ref b), (1, .ref (qx 0)), (2, .ref (qm 0)), (3, .ref a), (4, .int x4)]) (ex4 : x4 = nI i) (hi : i + 4 < L) (hcs : cells + 1 ≤ 1069 ∧ slots + 6 ≤ 10931) (hw : w_X5_near σx (xs (Int32.toNatClampNeg (x4 + 1))) (xs (Int32.toNatClampNeg (x4 + 2))) (xs (Int32.toNatClampNeg (x4 + 3))) (fun r u => w_X6_near σm (xs (Int32.toNatClampNeg (x4 + 1))) (xs (Int32.toNatClampNeg (x4 + 2))) (xs (Int32.toNatClampNeg (x4 + 3))) (fun r2 u2 => r = r2 ∧ R u u2))) (kk : ∀ (σx σm : St) (g : Nat → Int64) (H : Heap) (locs : List Loc) (ls : Array Slot), R σx σm → Cx D (fun q : Nat => s.heap.size ≤ q) s.heap (wL cI cL qx qm a σx σm g) H locs → lv_has ls 7 [(0, .ref b), (1, .ref (qx 0)), (2, .ref (qm 0)), (3, .ref a), (4, .int x4)] → W p l e room_1 s m #[Value.ref b] below meth c H locs (cells + 1) (slots + 6) (lw_Z below #[Value.ref b] s) (F0 m 1009 ls [])) : W p l e room_1 s m #[Value.ref b] below meth c H locs cells slots (lw_Z below #[Value.ref b] s) (F0 m 333 ls []) := by
  obtain ⟨hx, hb, hr, hml, hown, hts, hX, hbl, hlocks, hgv⟩ := C0
  have hA : ∀ q : Nat, s.heap.size ≤ q → (fun q : Nat => s.heap.size ≤ q) q := fun _ h => h
  have hbA : ¬ (fun q : Nat => s.heap.size ≤ q) b := Nat.not_le.mpr hbl
  have hK1 : va_K D vwCl [(cI, .int)] s := hK.sub [0] rfl
  have hin : ∀ k : Nat, k ≤ 4 → vp_in (x4 + nI k) L := fun k hk => by rw [ex4, nI_add]; exact vp_in_nI (by omega) (by omega)
  refine lv_aload_n hx hb dL_law_333 rfl (lv_at hl 1 rfl) ?_
  refine lv_aload_n hx hb dL_law_334 rfl (lv_at hl 0 rfl) ?_
  refine lv_iload hx hb dL_law_335 (lv_at hl 4 rfl) ?_
  refine lv_iconst (v := 1) hx hb dL_law_337 (by decide) ?_
  refine lv_iadd hx hb dL_law_338 ?_
  refine va_sld hx hb hX hbl hbA hC.2.2 (hin 1 (by decide)) dL_law_339 ?_
  refine lv_aload_n hx hb dL_law_340 rfl (lv_at hl 0 rfl) ?_
  refine lv_iload hx hb dL_law_341 (lv_at hl 4 rfl) ?_
  refine lv_iconst (v := 2) hx hb dL_law_343 (by decide) ?_
  refine lv_iadd hx hb dL_law_344 ?_
  refine va_sld hx hb hX hbl hbA hC.2.2 (hin 2 (by decide)) dL_law_345 ?_
  refine lv_aload_n hx hb dL_law_346 rfl (lv_at hl 0 rfl) ?_
  refine lv_iload hx hb dL_law_347 (lv_at hl 4 rfl) ?_
  refine lv_iconst (v := 3) hx hb dL_law_349 (by decide) ?_
  refine lv_iadd hx hb dL_law_350 ?_
  refine va_sld hx hb hX hbl hbA hC.2.2 (hin 3 (by decide)) dL_law_351 ?_
  refine mid_callVi (w := wX cI qx σx) (As := [.int (xs (Int32.toNatClampNeg (x4 + 1))), .int (xs (Int32.toNatClampNeg (x4 + 2))), .int (xs (Int32.toNatClampNeg (x4 + 3)))]) (rest := []) ⟨hx, hb, hml, hown, hts⟩ (c_X5_near l D cI qx _ σx (xs (Int32.toNatClampNeg (x4 + 1))) (xs (Int32.toNatClampNeg (x4 + 2))) (xs (Int32.toNatClampNeg (x4 + 3))) _ hw) (cwV 3 hts gT_X5_near rfl rfl rfl (by decide +kernel) ⟨Nat.le_of_ble_eq_true rfl, Nat.le_of_ble_eq_true rfl⟩) hK1 hC hA 0 rfl rfl rfl rfl hl.1 rfl (Nat.le_of_ble_eq_true rfl) dL_law_352 ⟨by have := hcs.1; show cells ≤ 1069; omega, by have := hcs.2; show slots ≤ 10931; omega⟩ (fun r1 u1 H locs hw hC => ?_)
  refine lv_aload_n hx hb dL_law_355 rfl (lv_at hl 2 rfl) ?_
  refine lv_aload_n hx hb dL_law_356 rfl (lv_at hl 0 rfl) ?_
  refine lv_iload hx hb dL_law_357 (lv_at hl 4 rfl) ?_
  refine lv_iconst (v := 1) hx hb dL_law_359 (by decide) ?_
  refine lv_iadd hx hb dL_law_360 ?_
  refine va_sld hx hb hX hbl hbA hC.2.2 (hin 1 (by decide)) dL_law_361 ?_
  refine lv_aload_n hx hb dL_law_362 rfl (lv_at hl 0 rfl) ?_
  refine lv_iload hx hb dL_law_363 (lv_at hl 4 rfl) ?_
  refine lv_iconst (v := 2) hx hb dL_law_365 (by decide) ?_
  refine lv_iadd hx hb dL_law_366 ?_
  refine va_sld hx hb hX hbl hbA hC.2.2 (hin 2 (by decide)) dL_law_367 ?_
  refine lv_aload_n hx hb dL_law_368 rfl (lv_at hl 0 rfl) ?_
  refine lv_iload hx hb dL_law_369 (lv_at hl 4 rfl) ?_
  refine lv_iconst (v := 3) hx hb dL_law_371 (by decide) ?_
  refine lv_iadd hx hb dL_law_372 ?_
  refine va_sld hx hb hX hbl hbA hC.2.2 (hin 3 (by decide)) dL_law_373 ?_
  refine mid_callVi (wa := []) (w := wM cI qm σm) (As := [.int (xs (Int32.toNatClampNeg (x4 + 1))), .int (xs (Int32.toNatClampNeg (x4 + 2))), .int (xs (Int32.toNatClampNeg (x4 + 3)))]) (rest := [.int r1]) ⟨hx, hb, hml, hown, hts⟩ (c_X6_near l D cI qm _ σm (xs (Int32.toNatClampNeg (x4 + 1))) (xs (Int32.toNatClampNeg (x4 + 2))) (xs (Int32.toNatClampNeg (x4 + 3))) _ hw) (cwV 3 hts gT_X6_near rfl rfl rfl (by decide +kernel) ⟨Nat.le_of_ble_eq_true rfl, Nat.le_of_ble_eq_true rfl⟩) hK1 hC hA 0 rfl rfl rfl rfl hl.1 rfl (Nat.le_of_ble_eq_true rfl) dL_law_374 ⟨by have := hcs.1; show cells ≤ 1069; omega, by have := hcs.2; show slots ≤ 10931; omega⟩ (fun r2 u2 H locs hw hC => ?_)
  refine lv_icmp_eq (tgt := 1009) hx hb dL_law_377 (by decide) (fun c9 => ?_) (fun c9 => ?_)
  · refine W.widen (k := cells + 1) (n := slots + 6) (Nat.le_succ _) (by omega) ?_
    exact kk u1 u2 g H locs ls hw.2 hC hl
  · exact absurd hw.1 c9
set_option maxHeartbeats 4000000 in
set_option maxRecDepth 100000 in
theorem lc_6 {p : Program} {l : Launch} {e : Env} {s : State} {m : MethodId} {below : List Frame} {meth : Method} {c : Code} {D : va_G} {cI cL : ClassId} {qx qm : Nat → Nat} {a b L i : Nat} {xs : Nat → Int32} {x4 : Int32} {σx σm : St} {g : Nat → Int64} {H : Heap} {locs : List Loc} {ls : Array Slot} {cells slots : Nat} {R : St → St → Prop} (hL : L ≤ 2560) (C0 : lw_At p s m meth c b L xs) (hK : va_K D vwCl [(cI, .int), (cL, .long)] s) (hC : Cx D (fun q : Nat => s.heap.size ≤ q) s.heap (wL cI cL qx qm a σx σm g) H locs) (hl : lv_has ls 7 [(0, .ref b), (1, .ref (qx 0)), (2, .ref (qm 0)), (3, .ref a), (4, .int x4)]) (ex4 : x4 = nI i) (hi : i + 4 < L) (hcs : cells + 1 ≤ 1069 ∧ slots + 6 ≤ 10931) (hw : w_X5_ahead σx (xs (Int32.toNatClampNeg (x4 + 1))) (xs (Int32.toNatClampNeg (x4 + 2))) (fun r u => w_X6_ahead σm (xs (Int32.toNatClampNeg (x4 + 1))) (xs (Int32.toNatClampNeg (x4 + 2))) (fun r2 u2 => r = r2 ∧ R u u2))) (kk : ∀ (σx σm : St) (g : Nat → Int64) (H : Heap) (locs : List Loc) (ls : Array Slot), R σx σm → Cx D (fun q : Nat => s.heap.size ≤ q) s.heap (wL cI cL qx qm a σx σm g) H locs → lv_has ls 7 [(0, .ref b), (1, .ref (qx 0)), (2, .ref (qm 0)), (3, .ref a), (4, .int x4)] → W p l e room_1 s m #[Value.ref b] below meth c H locs (cells + 1) (slots + 6) (lw_Z below #[Value.ref b] s) (F0 m 1009 ls [])) : W p l e room_1 s m #[Value.ref b] below meth c H locs cells slots (lw_Z below #[Value.ref b] s) (F0 m 382 ls []) := by
  obtain ⟨hx, hb, hr, hml, hown, hts, hX, hbl, hlocks, hgv⟩ := C0
  have hA : ∀ q : Nat, s.heap.size ≤ q → (fun q : Nat => s.heap.size ≤ q) q := fun _ h => h
  have hbA : ¬ (fun q : Nat => s.heap.size ≤ q) b := Nat.not_le.mpr hbl
  have hK1 : va_K D vwCl [(cI, .int)] s := hK.sub [0] rfl
  have hin : ∀ k : Nat, k ≤ 4 → vp_in (x4 + nI k) L := fun k hk => by rw [ex4, nI_add]; exact vp_in_nI (by omega) (by omega)
  refine lv_aload_n hx hb dL_law_382 rfl (lv_at hl 1 rfl) ?_
  refine lv_aload_n hx hb dL_law_383 rfl (lv_at hl 0 rfl) ?_
  refine lv_iload hx hb dL_law_384 (lv_at hl 4 rfl) ?_
  refine lv_iconst (v := 1) hx hb dL_law_386 (by decide) ?_
  refine lv_iadd hx hb dL_law_387 ?_
  refine va_sld hx hb hX hbl hbA hC.2.2 (hin 1 (by decide)) dL_law_388 ?_
  refine lv_aload_n hx hb dL_law_389 rfl (lv_at hl 0 rfl) ?_
  refine lv_iload hx hb dL_law_390 (lv_at hl 4 rfl) ?_
  refine lv_iconst (v := 2) hx hb dL_law_392 (by decide) ?_
  refine lv_iadd hx hb dL_law_393 ?_
  refine va_sld hx hb hX hbl hbA hC.2.2 (hin 2 (by decide)) dL_law_394 ?_
  refine mid_callVi (w := wX cI qx σx) (As := [.int (xs (Int32.toNatClampNeg (x4 + 1))), .int (xs (Int32.toNatClampNeg (x4 + 2)))]) (rest := []) ⟨hx, hb, hml, hown, hts⟩ (c_X5_ahead l D cI qx _ σx (xs (Int32.toNatClampNeg (x4 + 1))) (xs (Int32.toNatClampNeg (x4 + 2))) _ hw) (cwV 2 hts gT_X5_ahead rfl rfl rfl (by decide +kernel) ⟨Nat.le_of_ble_eq_true rfl, Nat.le_of_ble_eq_true rfl⟩) hK1 hC hA 0 rfl rfl rfl rfl hl.1 rfl (Nat.le_of_ble_eq_true rfl) dL_law_395 ⟨by have := hcs.1; show cells ≤ 1069; omega, by have := hcs.2; show slots ≤ 10931; omega⟩ (fun r1 u1 H locs hw hC => ?_)
  refine lv_aload_n hx hb dL_law_398 rfl (lv_at hl 2 rfl) ?_
  refine lv_aload_n hx hb dL_law_399 rfl (lv_at hl 0 rfl) ?_
  refine lv_iload hx hb dL_law_400 (lv_at hl 4 rfl) ?_
  refine lv_iconst (v := 1) hx hb dL_law_402 (by decide) ?_
  refine lv_iadd hx hb dL_law_403 ?_
  refine va_sld hx hb hX hbl hbA hC.2.2 (hin 1 (by decide)) dL_law_404 ?_
  refine lv_aload_n hx hb dL_law_405 rfl (lv_at hl 0 rfl) ?_
  refine lv_iload hx hb dL_law_406 (lv_at hl 4 rfl) ?_
  refine lv_iconst (v := 2) hx hb dL_law_408 (by decide) ?_
  refine lv_iadd hx hb dL_law_409 ?_
  refine va_sld hx hb hX hbl hbA hC.2.2 (hin 2 (by decide)) dL_law_410 ?_
  refine mid_callVi (wa := []) (w := wM cI qm σm) (As := [.int (xs (Int32.toNatClampNeg (x4 + 1))), .int (xs (Int32.toNatClampNeg (x4 + 2)))]) (rest := [.int r1]) ⟨hx, hb, hml, hown, hts⟩ (c_X6_ahead l D cI qm _ σm (xs (Int32.toNatClampNeg (x4 + 1))) (xs (Int32.toNatClampNeg (x4 + 2))) _ hw) (cwV 2 hts gT_X6_ahead rfl rfl rfl (by decide +kernel) ⟨Nat.le_of_ble_eq_true rfl, Nat.le_of_ble_eq_true rfl⟩) hK1 hC hA 0 rfl rfl rfl rfl hl.1 rfl (Nat.le_of_ble_eq_true rfl) dL_law_411 ⟨by have := hcs.1; show cells ≤ 1069; omega, by have := hcs.2; show slots ≤ 10931; omega⟩ (fun r2 u2 H locs hw hC => ?_)
  refine lv_icmp_eq (tgt := 1009) hx hb dL_law_414 (by decide) (fun c9 => ?_) (fun c9 => ?_)
  · refine W.widen (k := cells + 1) (n := slots + 6) (Nat.le_succ _) (by omega) ?_
    exact kk u1 u2 g H locs ls hw.2 hC hl
  · exact absurd hw.1 c9
set_option maxHeartbeats 4000000 in
set_option maxRecDepth 100000 in
theorem lc_7 {p : Program} {l : Launch} {e : Env} {s : State} {m : MethodId} {below : List Frame} {meth : Method} {c : Code} {D : va_G} {cI cL : ClassId} {qx qm : Nat → Nat} {a b L i : Nat} {xs : Nat → Int32} {x4 : Int32} {σx σm : St} {g : Nat → Int64} {H : Heap} {locs : List Loc} {ls : Array Slot} {cells slots : Nat} {R : St → St → Prop} (hL : L ≤ 2560) (C0 : lw_At p s m meth c b L xs) (hK : va_K D vwCl [(cI, .int), (cL, .long)] s) (hC : Cx D (fun q : Nat => s.heap.size ≤ q) s.heap (wL cI cL qx qm a σx σm g) H locs) (hl : lv_has ls 7 [(0, .ref b), (1, .ref (qx 0)), (2, .ref (qm 0)), (3, .ref a), (4, .int x4)]) (ex4 : x4 = nI i) (hi : i + 4 < L) (hcs : cells + 1 ≤ 1069 ∧ slots + 6 ≤ 10931) (hw : w_X5_off σx (xs (Int32.toNatClampNeg (x4 + 1))) (xs (Int32.toNatClampNeg (x4 + 2))) (xs (Int32.toNatClampNeg (x4 + 3))) (fun r u => w_X6_off σm (xs (Int32.toNatClampNeg (x4 + 1))) (xs (Int32.toNatClampNeg (x4 + 2))) (xs (Int32.toNatClampNeg (x4 + 3))) (fun r2 u2 => r = r2 ∧ R u u2))) (kk : ∀ (σx σm : St) (g : Nat → Int64) (H : Heap) (locs : List Loc) (ls : Array Slot), R σx σm → Cx D (fun q : Nat => s.heap.size ≤ q) s.heap (wL cI cL qx qm a σx σm g) H locs → lv_has ls 7 [(0, .ref b), (1, .ref (qx 0)), (2, .ref (qm 0)), (3, .ref a), (4, .int x4)] → W p l e room_1 s m #[Value.ref b] below meth c H locs (cells + 1) (slots + 6) (lw_Z below #[Value.ref b] s) (F0 m 1009 ls [])) : W p l e room_1 s m #[Value.ref b] below meth c H locs cells slots (lw_Z below #[Value.ref b] s) (F0 m 419 ls []) := by
  obtain ⟨hx, hb, hr, hml, hown, hts, hX, hbl, hlocks, hgv⟩ := C0
  have hA : ∀ q : Nat, s.heap.size ≤ q → (fun q : Nat => s.heap.size ≤ q) q := fun _ h => h
  have hbA : ¬ (fun q : Nat => s.heap.size ≤ q) b := Nat.not_le.mpr hbl
  have hK1 : va_K D vwCl [(cI, .int)] s := hK.sub [0] rfl
  have hin : ∀ k : Nat, k ≤ 4 → vp_in (x4 + nI k) L := fun k hk => by rw [ex4, nI_add]; exact vp_in_nI (by omega) (by omega)
  refine lv_aload_n hx hb dL_law_419 rfl (lv_at hl 1 rfl) ?_
  refine lv_aload_n hx hb dL_law_420 rfl (lv_at hl 0 rfl) ?_
  refine lv_iload hx hb dL_law_421 (lv_at hl 4 rfl) ?_
  refine lv_iconst (v := 1) hx hb dL_law_423 (by decide) ?_
  refine lv_iadd hx hb dL_law_424 ?_
  refine va_sld hx hb hX hbl hbA hC.2.2 (hin 1 (by decide)) dL_law_425 ?_
  refine lv_aload_n hx hb dL_law_426 rfl (lv_at hl 0 rfl) ?_
  refine lv_iload hx hb dL_law_427 (lv_at hl 4 rfl) ?_
  refine lv_iconst (v := 2) hx hb dL_law_429 (by decide) ?_
  refine lv_iadd hx hb dL_law_430 ?_
  refine va_sld hx hb hX hbl hbA hC.2.2 (hin 2 (by decide)) dL_law_431 ?_
  refine lv_aload_n hx hb dL_law_432 rfl (lv_at hl 0 rfl) ?_
  refine lv_iload hx hb dL_law_433 (lv_at hl 4 rfl) ?_
  refine lv_iconst (v := 3) hx hb dL_law_435 (by decide) ?_
  refine lv_iadd hx hb dL_law_436 ?_
  refine va_sld hx hb hX hbl hbA hC.2.2 (hin 3 (by decide)) dL_law_437 ?_
  refine mid_callVi (w := wX cI qx σx) (As := [.int (xs (Int32.toNatClampNeg (x4 + 1))), .int (xs (Int32.toNatClampNeg (x4 + 2))), .int (xs (Int32.toNatClampNeg (x4 + 3)))]) (rest := []) ⟨hx, hb, hml, hown, hts⟩ (c_X5_off l D cI qx _ σx (xs (Int32.toNatClampNeg (x4 + 1))) (xs (Int32.toNatClampNeg (x4 + 2))) (xs (Int32.toNatClampNeg (x4 + 3))) _ hw) (cwV 3 hts gT_X5_off rfl rfl rfl (by decide +kernel) ⟨Nat.le_of_ble_eq_true rfl, Nat.le_of_ble_eq_true rfl⟩) hK1 hC hA 0 rfl rfl rfl rfl hl.1 rfl (Nat.le_of_ble_eq_true rfl) dL_law_438 ⟨by have := hcs.1; show cells ≤ 1069; omega, by have := hcs.2; show slots ≤ 10931; omega⟩ (fun r1 u1 H locs hw hC => ?_)
  refine lv_aload_n hx hb dL_law_441 rfl (lv_at hl 2 rfl) ?_
  refine lv_aload_n hx hb dL_law_442 rfl (lv_at hl 0 rfl) ?_
  refine lv_iload hx hb dL_law_443 (lv_at hl 4 rfl) ?_
  refine lv_iconst (v := 1) hx hb dL_law_445 (by decide) ?_
  refine lv_iadd hx hb dL_law_446 ?_
  refine va_sld hx hb hX hbl hbA hC.2.2 (hin 1 (by decide)) dL_law_447 ?_
  refine lv_aload_n hx hb dL_law_448 rfl (lv_at hl 0 rfl) ?_
  refine lv_iload hx hb dL_law_449 (lv_at hl 4 rfl) ?_
  refine lv_iconst (v := 2) hx hb dL_law_451 (by decide) ?_
  refine lv_iadd hx hb dL_law_452 ?_
  refine va_sld hx hb hX hbl hbA hC.2.2 (hin 2 (by decide)) dL_law_453 ?_
  refine lv_aload_n hx hb dL_law_454 rfl (lv_at hl 0 rfl) ?_
  refine lv_iload hx hb dL_law_455 (lv_at hl 4 rfl) ?_
  refine lv_iconst (v := 3) hx hb dL_law_457 (by decide) ?_
  refine lv_iadd hx hb dL_law_458 ?_
  refine va_sld hx hb hX hbl hbA hC.2.2 (hin 3 (by decide)) dL_law_459 ?_
  refine mid_callVi (wa := []) (w := wM cI qm σm) (As := [.int (xs (Int32.toNatClampNeg (x4 + 1))), .int (xs (Int32.toNatClampNeg (x4 + 2))), .int (xs (Int32.toNatClampNeg (x4 + 3)))]) (rest := [.int r1]) ⟨hx, hb, hml, hown, hts⟩ (c_X6_off l D cI qm _ σm (xs (Int32.toNatClampNeg (x4 + 1))) (xs (Int32.toNatClampNeg (x4 + 2))) (xs (Int32.toNatClampNeg (x4 + 3))) _ hw) (cwV 3 hts gT_X6_off rfl rfl rfl (by decide +kernel) ⟨Nat.le_of_ble_eq_true rfl, Nat.le_of_ble_eq_true rfl⟩) hK1 hC hA 0 rfl rfl rfl rfl hl.1 rfl (Nat.le_of_ble_eq_true rfl) dL_law_460 ⟨by have := hcs.1; show cells ≤ 1069; omega, by have := hcs.2; show slots ≤ 10931; omega⟩ (fun r2 u2 H locs hw hC => ?_)
  refine lv_icmp_eq (tgt := 1009) hx hb dL_law_463 (by decide) (fun c9 => ?_) (fun c9 => ?_)
  · refine W.widen (k := cells + 1) (n := slots + 6) (Nat.le_succ _) (by omega) ?_
    exact kk u1 u2 g H locs ls hw.2 hC hl
  · exact absurd hw.1 c9
set_option maxHeartbeats 4000000 in
set_option maxRecDepth 100000 in
theorem lc_8 {p : Program} {l : Launch} {e : Env} {s : State} {m : MethodId} {below : List Frame} {meth : Method} {c : Code} {D : va_G} {cI cL : ClassId} {qx qm : Nat → Nat} {a b L i : Nat} {xs : Nat → Int32} {x4 : Int32} {σx σm : St} {g : Nat → Int64} {H : Heap} {locs : List Loc} {ls : Array Slot} {cells slots : Nat} {R : St → St → Prop} (hL : L ≤ 2560) (C0 : lw_At p s m meth c b L xs) (hK : va_K D vwCl [(cI, .int), (cL, .long)] s) (hC : Cx D (fun q : Nat => s.heap.size ≤ q) s.heap (wL cI cL qx qm a σx σm g) H locs) (hl : lv_has ls 7 [(0, .ref b), (1, .ref (qx 0)), (2, .ref (qm 0)), (3, .ref a), (4, .int x4)]) (ex4 : x4 = nI i) (hi : i + 4 < L) (hcs : cells + 1 ≤ 1069 ∧ slots + 6 ≤ 10931) (hw : w_X5_quarrel σx  (fun r u => w_X6_quarrel σm  (fun r2 u2 => r = r2 ∧ R u u2))) (kk : ∀ (σx σm : St) (g : Nat → Int64) (H : Heap) (locs : List Loc) (ls : Array Slot), R σx σm → Cx D (fun q : Nat => s.heap.size ≤ q) s.heap (wL cI cL qx qm a σx σm g) H locs → lv_has ls 7 [(0, .ref b), (1, .ref (qx 0)), (2, .ref (qm 0)), (3, .ref a), (4, .int x4)] → W p l e room_1 s m #[Value.ref b] below meth c H locs (cells + 1) (slots + 6) (lw_Z below #[Value.ref b] s) (F0 m 1009 ls [])) : W p l e room_1 s m #[Value.ref b] below meth c H locs cells slots (lw_Z below #[Value.ref b] s) (F0 m 468 ls []) := by
  obtain ⟨hx, hb, hr, hml, hown, hts, hX, hbl, hlocks, hgv⟩ := C0
  have hA : ∀ q : Nat, s.heap.size ≤ q → (fun q : Nat => s.heap.size ≤ q) q := fun _ h => h
  have hbA : ¬ (fun q : Nat => s.heap.size ≤ q) b := Nat.not_le.mpr hbl
  have hK1 : va_K D vwCl [(cI, .int)] s := hK.sub [0] rfl
  have hin : ∀ k : Nat, k ≤ 4 → vp_in (x4 + nI k) L := fun k hk => by rw [ex4, nI_add]; exact vp_in_nI (by omega) (by omega)
  refine lv_aload_n hx hb dL_law_468 rfl (lv_at hl 1 rfl) ?_
  refine mid_callVi (w := wX cI qx σx) (As := []) (rest := []) ⟨hx, hb, hml, hown, hts⟩ (c_X5_quarrel l D cI qx _ σx  _ hw) (cwV 0 hts gT_X5_quarrel rfl rfl rfl (by decide +kernel) ⟨Nat.le_of_ble_eq_true rfl, Nat.le_of_ble_eq_true rfl⟩) hK1 hC hA 0 rfl rfl rfl rfl hl.1 rfl (Nat.le_of_ble_eq_true rfl) dL_law_469 ⟨by have := hcs.1; show cells ≤ 1069; omega, by have := hcs.2; show slots ≤ 10931; omega⟩ (fun r1 u1 H locs hw hC => ?_)
  refine lv_aload_n hx hb dL_law_472 rfl (lv_at hl 2 rfl) ?_
  refine mid_callVi (wa := []) (w := wM cI qm σm) (As := []) (rest := [.int r1]) ⟨hx, hb, hml, hown, hts⟩ (c_X6_quarrel l D cI qm _ σm  _ hw) (cwV 0 hts gT_X6_quarrel rfl rfl rfl (by decide +kernel) ⟨Nat.le_of_ble_eq_true rfl, Nat.le_of_ble_eq_true rfl⟩) hK1 hC hA 0 rfl rfl rfl rfl hl.1 rfl (Nat.le_of_ble_eq_true rfl) dL_law_473 ⟨by have := hcs.1; show cells ≤ 1069; omega, by have := hcs.2; show slots ≤ 10931; omega⟩ (fun r2 u2 H locs hw hC => ?_)
  refine lv_icmp_eq (tgt := 1009) hx hb dL_law_476 (by decide) (fun c9 => ?_) (fun c9 => ?_)
  · refine W.widen (k := cells + 1) (n := slots + 6) (Nat.le_succ _) (by omega) ?_
    exact kk u1 u2 g H locs ls hw.2 hC hl
  · exact absurd hw.1 c9
set_option maxHeartbeats 4000000 in
set_option maxRecDepth 100000 in
theorem lc_9 {p : Program} {l : Launch} {e : Env} {s : State} {m : MethodId} {below : List Frame} {meth : Method} {c : Code} {D : va_G} {cI cL : ClassId} {qx qm : Nat → Nat} {a b L i : Nat} {xs : Nat → Int32} {x4 : Int32} {σx σm : St} {g : Nat → Int64} {H : Heap} {locs : List Loc} {ls : Array Slot} {cells slots : Nat} {R : St → St → Prop} (hL : L ≤ 2560) (C0 : lw_At p s m meth c b L xs) (hK : va_K D vwCl [(cI, .int), (cL, .long)] s) (hC : Cx D (fun q : Nat => s.heap.size ≤ q) s.heap (wL cI cL qx qm a σx σm g) H locs) (hl : lv_has ls 7 [(0, .ref b), (1, .ref (qx 0)), (2, .ref (qm 0)), (3, .ref a), (4, .int x4)]) (ex4 : x4 = nI i) (hi : i + 4 < L) (hcs : cells + 1 ≤ 1069 ∧ slots + 6 ≤ 10931) (hw : w_X5_untie σx (xs (Int32.toNatClampNeg (x4 + 1))) (fun r u => w_X6_untie σm (xs (Int32.toNatClampNeg (x4 + 1))) (fun r2 u2 => r = r2 ∧ R u u2))) (kk : ∀ (σx σm : St) (g : Nat → Int64) (H : Heap) (locs : List Loc) (ls : Array Slot), R σx σm → Cx D (fun q : Nat => s.heap.size ≤ q) s.heap (wL cI cL qx qm a σx σm g) H locs → lv_has ls 7 [(0, .ref b), (1, .ref (qx 0)), (2, .ref (qm 0)), (3, .ref a), (4, .int x4)] → W p l e room_1 s m #[Value.ref b] below meth c H locs (cells + 1) (slots + 6) (lw_Z below #[Value.ref b] s) (F0 m 1009 ls [])) : W p l e room_1 s m #[Value.ref b] below meth c H locs cells slots (lw_Z below #[Value.ref b] s) (F0 m 481 ls []) := by
  obtain ⟨hx, hb, hr, hml, hown, hts, hX, hbl, hlocks, hgv⟩ := C0
  have hA : ∀ q : Nat, s.heap.size ≤ q → (fun q : Nat => s.heap.size ≤ q) q := fun _ h => h
  have hbA : ¬ (fun q : Nat => s.heap.size ≤ q) b := Nat.not_le.mpr hbl
  have hK1 : va_K D vwCl [(cI, .int)] s := hK.sub [0] rfl
  have hin : ∀ k : Nat, k ≤ 4 → vp_in (x4 + nI k) L := fun k hk => by rw [ex4, nI_add]; exact vp_in_nI (by omega) (by omega)
  refine lv_aload_n hx hb dL_law_481 rfl (lv_at hl 1 rfl) ?_
  refine lv_aload_n hx hb dL_law_482 rfl (lv_at hl 0 rfl) ?_
  refine lv_iload hx hb dL_law_483 (lv_at hl 4 rfl) ?_
  refine lv_iconst (v := 1) hx hb dL_law_485 (by decide) ?_
  refine lv_iadd hx hb dL_law_486 ?_
  refine va_sld hx hb hX hbl hbA hC.2.2 (hin 1 (by decide)) dL_law_487 ?_
  refine mid_callVi (w := wX cI qx σx) (As := [.int (xs (Int32.toNatClampNeg (x4 + 1)))]) (rest := []) ⟨hx, hb, hml, hown, hts⟩ (c_X5_untie l D cI qx _ σx (xs (Int32.toNatClampNeg (x4 + 1))) _ hw) (cwV 1 hts gT_X5_untie rfl rfl rfl (by decide +kernel) ⟨Nat.le_of_ble_eq_true rfl, Nat.le_of_ble_eq_true rfl⟩) hK1 hC hA 0 rfl rfl rfl rfl hl.1 rfl (Nat.le_of_ble_eq_true rfl) dL_law_488 ⟨by have := hcs.1; show cells ≤ 1069; omega, by have := hcs.2; show slots ≤ 10931; omega⟩ (fun r1 u1 H locs hw hC => ?_)
  refine lv_aload_n hx hb dL_law_491 rfl (lv_at hl 2 rfl) ?_
  refine lv_aload_n hx hb dL_law_492 rfl (lv_at hl 0 rfl) ?_
  refine lv_iload hx hb dL_law_493 (lv_at hl 4 rfl) ?_
  refine lv_iconst (v := 1) hx hb dL_law_495 (by decide) ?_
  refine lv_iadd hx hb dL_law_496 ?_
  refine va_sld hx hb hX hbl hbA hC.2.2 (hin 1 (by decide)) dL_law_497 ?_
  refine mid_callVi (wa := []) (w := wM cI qm σm) (As := [.int (xs (Int32.toNatClampNeg (x4 + 1)))]) (rest := [.int r1]) ⟨hx, hb, hml, hown, hts⟩ (c_X6_untie l D cI qm _ σm (xs (Int32.toNatClampNeg (x4 + 1))) _ hw) (cwV 1 hts gT_X6_untie rfl rfl rfl (by decide +kernel) ⟨Nat.le_of_ble_eq_true rfl, Nat.le_of_ble_eq_true rfl⟩) hK1 hC hA 0 rfl rfl rfl rfl hl.1 rfl (Nat.le_of_ble_eq_true rfl) dL_law_498 ⟨by have := hcs.1; show cells ≤ 1069; omega, by have := hcs.2; show slots ≤ 10931; omega⟩ (fun r2 u2 H locs hw hC => ?_)
  refine lv_icmp_eq (tgt := 1009) hx hb dL_law_501 (by decide) (fun c9 => ?_) (fun c9 => ?_)
  · refine W.widen (k := cells + 1) (n := slots + 6) (Nat.le_succ _) (by omega) ?_
    exact kk u1 u2 g H locs ls hw.2 hC hl
  · exact absurd hw.1 c9
set_option maxHeartbeats 4000000 in
set_option maxRecDepth 100000 in
theorem lc_10 {p : Program} {l : Launch} {e : Env} {s : State} {m : MethodId} {below : List Frame} {meth : Method} {c : Code} {D : va_G} {cI cL : ClassId} {qx qm : Nat → Nat} {a b L i : Nat} {xs : Nat → Int32} {x4 : Int32} {σx σm : St} {g : Nat → Int64} {H : Heap} {locs : List Loc} {ls : Array Slot} {cells slots : Nat} {R : St → St → Prop} (hL : L ≤ 2560) (C0 : lw_At p s m meth c b L xs) (hK : va_K D vwCl [(cI, .int), (cL, .long)] s) (hC : Cx D (fun q : Nat => s.heap.size ≤ q) s.heap (wL cI cL qx qm a σx σm g) H locs) (hl : lv_has ls 7 [(0, .ref b), (1, .ref (qx 0)), (2, .ref (qm 0)), (3, .ref a), (4, .int x4)]) (ex4 : x4 = nI i) (hi : i + 4 < L) (hcs : cells + 1 ≤ 1069 ∧ slots + 6 ≤ 10931) (hw : w_X5_idle σx (xs (Int32.toNatClampNeg (x4 + 1))) (fun r u => w_X6_idle σm (xs (Int32.toNatClampNeg (x4 + 1))) (fun r2 u2 => r = r2 ∧ R u u2))) (kk : ∀ (σx σm : St) (g : Nat → Int64) (H : Heap) (locs : List Loc) (ls : Array Slot), R σx σm → Cx D (fun q : Nat => s.heap.size ≤ q) s.heap (wL cI cL qx qm a σx σm g) H locs → lv_has ls 7 [(0, .ref b), (1, .ref (qx 0)), (2, .ref (qm 0)), (3, .ref a), (4, .int x4)] → W p l e room_1 s m #[Value.ref b] below meth c H locs (cells + 1) (slots + 6) (lw_Z below #[Value.ref b] s) (F0 m 1009 ls [])) : W p l e room_1 s m #[Value.ref b] below meth c H locs cells slots (lw_Z below #[Value.ref b] s) (F0 m 506 ls []) := by
  obtain ⟨hx, hb, hr, hml, hown, hts, hX, hbl, hlocks, hgv⟩ := C0
  have hA : ∀ q : Nat, s.heap.size ≤ q → (fun q : Nat => s.heap.size ≤ q) q := fun _ h => h
  have hbA : ¬ (fun q : Nat => s.heap.size ≤ q) b := Nat.not_le.mpr hbl
  have hK1 : va_K D vwCl [(cI, .int)] s := hK.sub [0] rfl
  have hin : ∀ k : Nat, k ≤ 4 → vp_in (x4 + nI k) L := fun k hk => by rw [ex4, nI_add]; exact vp_in_nI (by omega) (by omega)
  refine lv_aload_n hx hb dL_law_506 rfl (lv_at hl 1 rfl) ?_
  refine lv_aload_n hx hb dL_law_507 rfl (lv_at hl 0 rfl) ?_
  refine lv_iload hx hb dL_law_508 (lv_at hl 4 rfl) ?_
  refine lv_iconst (v := 1) hx hb dL_law_510 (by decide) ?_
  refine lv_iadd hx hb dL_law_511 ?_
  refine va_sld hx hb hX hbl hbA hC.2.2 (hin 1 (by decide)) dL_law_512 ?_
  refine mid_callVi (w := wX cI qx σx) (As := [.int (xs (Int32.toNatClampNeg (x4 + 1)))]) (rest := []) ⟨hx, hb, hml, hown, hts⟩ (c_X5_idle l D cI qx _ σx (xs (Int32.toNatClampNeg (x4 + 1))) _ hw) (cwV 1 hts gT_X5_idle rfl rfl rfl (by decide +kernel) ⟨Nat.le_of_ble_eq_true rfl, Nat.le_of_ble_eq_true rfl⟩) hK1 hC hA 0 rfl rfl rfl rfl hl.1 rfl (Nat.le_of_ble_eq_true rfl) dL_law_513 ⟨by have := hcs.1; show cells ≤ 1069; omega, by have := hcs.2; show slots ≤ 10931; omega⟩ (fun r1 u1 H locs hw hC => ?_)
  refine lv_aload_n hx hb dL_law_516 rfl (lv_at hl 2 rfl) ?_
  refine lv_aload_n hx hb dL_law_517 rfl (lv_at hl 0 rfl) ?_
  refine lv_iload hx hb dL_law_518 (lv_at hl 4 rfl) ?_
  refine lv_iconst (v := 1) hx hb dL_law_520 (by decide) ?_
  refine lv_iadd hx hb dL_law_521 ?_
  refine va_sld hx hb hX hbl hbA hC.2.2 (hin 1 (by decide)) dL_law_522 ?_
  refine mid_callVi (wa := []) (w := wM cI qm σm) (As := [.int (xs (Int32.toNatClampNeg (x4 + 1)))]) (rest := [.int r1]) ⟨hx, hb, hml, hown, hts⟩ (c_X6_idle l D cI qm _ σm (xs (Int32.toNatClampNeg (x4 + 1))) _ hw) (cwV 1 hts gT_X6_idle rfl rfl rfl (by decide +kernel) ⟨Nat.le_of_ble_eq_true rfl, Nat.le_of_ble_eq_true rfl⟩) hK1 hC hA 0 rfl rfl rfl rfl hl.1 rfl (Nat.le_of_ble_eq_true rfl) dL_law_523 ⟨by have := hcs.1; show cells ≤ 1069; omega, by have := hcs.2; show slots ≤ 10931; omega⟩ (fun r2 u2 H locs hw hC => ?_)
  refine lv_icmp_eq (tgt := 1009) hx hb dL_law_526 (by decide) (fun c9 => ?_) (fun c9 => ?_)
  · refine W.widen (k := cells + 1) (n := slots + 6) (Nat.le_succ _) (by omega) ?_
    exact kk u1 u2 g H locs ls hw.2 hC hl
  · exact absurd hw.1 c9
set_option maxHeartbeats 4000000 in
set_option maxRecDepth 100000 in
theorem lc_11 {p : Program} {l : Launch} {e : Env} {s : State} {m : MethodId} {below : List Frame} {meth : Method} {c : Code} {D : va_G} {cI cL : ClassId} {qx qm : Nat → Nat} {a b L i : Nat} {xs : Nat → Int32} {x4 : Int32} {σx σm : St} {g : Nat → Int64} {H : Heap} {locs : List Loc} {ls : Array Slot} {cells slots : Nat} {R : St → St → Prop} (hL : L ≤ 2560) (C0 : lw_At p s m meth c b L xs) (hK : va_K D vwCl [(cI, .int), (cL, .long)] s) (hC : Cx D (fun q : Nat => s.heap.size ≤ q) s.heap (wL cI cL qx qm a σx σm g) H locs) (hl : lv_has ls 7 [(0, .ref b), (1, .ref (qx 0)), (2, .ref (qm 0)), (3, .ref a), (4, .int x4)]) (ex4 : x4 = nI i) (hi : i + 4 < L) (hcs : cells + 1 ≤ 1069 ∧ slots + 6 ≤ 10931) (hw0 : w_X5_range σx (xs (Int32.toNatClampNeg (x4 + 1))) 0 (fun r u => w_X6_range σm (xs (Int32.toNatClampNeg (x4 + 1))) 0 (fun r2 u2 => r = r2 ∧ R u u2))) (hw1 : w_X5_range σx (xs (Int32.toNatClampNeg (x4 + 1))) 1 (fun r u => w_X6_range σm (xs (Int32.toNatClampNeg (x4 + 1))) 1 (fun r2 u2 => r = r2 ∧ R u u2))) (kk : ∀ (σx σm : St) (g : Nat → Int64) (H : Heap) (locs : List Loc) (ls : Array Slot), R σx σm → Cx D (fun q : Nat => s.heap.size ≤ q) s.heap (wL cI cL qx qm a σx σm g) H locs → lv_has ls 7 [(0, .ref b), (1, .ref (qx 0)), (2, .ref (qm 0)), (3, .ref a), (4, .int x4)] → W p l e room_1 s m #[Value.ref b] below meth c H locs (cells + 1) (slots + 6) (lw_Z below #[Value.ref b] s) (F0 m 1009 ls [])) : W p l e room_1 s m #[Value.ref b] below meth c H locs cells slots (lw_Z below #[Value.ref b] s) (F0 m 531 ls []) := by
  obtain ⟨hx, hb, hr, hml, hown, hts, hX, hbl, hlocks, hgv⟩ := C0
  have hA : ∀ q : Nat, s.heap.size ≤ q → (fun q : Nat => s.heap.size ≤ q) q := fun _ h => h
  have hbA : ¬ (fun q : Nat => s.heap.size ≤ q) b := Nat.not_le.mpr hbl
  have hK1 : va_K D vwCl [(cI, .int)] s := hK.sub [0] rfl
  have hin : ∀ k : Nat, k ≤ 4 → vp_in (x4 + nI k) L := fun k hk => by rw [ex4, nI_add]; exact vp_in_nI (by omega) (by omega)
  refine lv_aload_n hx hb dL_law_531 rfl (lv_at hl 1 rfl) ?_
  refine lv_aload_n hx hb dL_law_532 rfl (lv_at hl 0 rfl) ?_
  refine lv_iload hx hb dL_law_533 (lv_at hl 4 rfl) ?_
  refine lv_iconst (v := 1) hx hb dL_law_535 (by decide) ?_
  refine lv_iadd hx hb dL_law_536 ?_
  refine va_sld hx hb hX hbl hbA hC.2.2 (hin 1 (by decide)) dL_law_537 ?_
  refine lv_aload_n hx hb dL_law_538 rfl (lv_at hl 0 rfl) ?_
  refine lv_iload hx hb dL_law_539 (lv_at hl 4 rfl) ?_
  refine lv_iconst (v := 2) hx hb dL_law_541 (by decide) ?_
  refine lv_iadd hx hb dL_law_542 ?_
  refine va_sld hx hb hX hbl hbA hC.2.2 (hin 2 (by decide)) dL_law_543 ?_
  refine lv_if_eq (tgt := 551) hx hb dL_law_544 (by decide) (fun c1 => ?_) (fun c1 => ?_)
  · refine lv_iconst (v := 0) hx hb dL_law_551 (by decide) ?_
    have hw := hw0
    refine mid_callVi (w := wX cI qx σx) (As := [.int (xs (Int32.toNatClampNeg (x4 + 1))), .int 0]) (rest := []) ⟨hx, hb, hml, hown, hts⟩ (c_X5_range l D cI qx _ σx (xs (Int32.toNatClampNeg (x4 + 1))) 0 _ hw) (cwV 2 hts gT_X5_range rfl rfl rfl (by decide +kernel) ⟨Nat.le_of_ble_eq_true rfl, Nat.le_of_ble_eq_true rfl⟩) hK1 hC hA 0 rfl rfl rfl rfl hl.1 rfl (Nat.le_of_ble_eq_true rfl) dL_law_552 ⟨by have := hcs.1; show cells ≤ 1069; omega, by have := hcs.2; show slots ≤ 10931; omega⟩ (fun r1 u1 H locs hw hC => ?_)
    refine lv_aload_n hx hb dL_law_555 rfl (lv_at hl 2 rfl) ?_
    refine lv_aload_n hx hb dL_law_556 rfl (lv_at hl 0 rfl) ?_
    refine lv_iload hx hb dL_law_557 (lv_at hl 4 rfl) ?_
    refine lv_iconst (v := 1) hx hb dL_law_559 (by decide) ?_
    refine lv_iadd hx hb dL_law_560 ?_
    refine va_sld hx hb hX hbl hbA hC.2.2 (hin 1 (by decide)) dL_law_561 ?_
    refine lv_aload_n hx hb dL_law_562 rfl (lv_at hl 0 rfl) ?_
    refine lv_iload hx hb dL_law_563 (lv_at hl 4 rfl) ?_
    refine lv_iconst (v := 2) hx hb dL_law_565 (by decide) ?_
    refine lv_iadd hx hb dL_law_566 ?_
    refine va_sld hx hb hX hbl hbA hC.2.2 (hin 2 (by decide)) dL_law_567 ?_
    refine lv_if_eq (tgt := 575) hx hb dL_law_568 (by decide) (fun c2 => ?_) (fun c2 => ?_)
    · refine lv_iconst (v := 0) hx hb dL_law_575 (by decide) ?_
      refine mid_callVi (wa := []) (w := wM cI qm σm) (As := [.int (xs (Int32.toNatClampNeg (x4 + 1))), .int 0]) (rest := [.int r1]) ⟨hx, hb, hml, hown, hts⟩ (c_X6_range l D cI qm _ σm (xs (Int32.toNatClampNeg (x4 + 1))) 0 _ hw) (cwV 2 hts gT_X6_range rfl rfl rfl (by decide +kernel) ⟨Nat.le_of_ble_eq_true rfl, Nat.le_of_ble_eq_true rfl⟩) hK1 hC hA 0 rfl rfl rfl rfl hl.1 rfl (Nat.le_of_ble_eq_true rfl) dL_law_576 ⟨by have := hcs.1; show cells ≤ 1069; omega, by have := hcs.2; show slots ≤ 10931; omega⟩ (fun r2 u2 H locs hw hC => ?_)
      refine lv_icmp_eq (tgt := 1009) hx hb dL_law_579 (by decide) (fun c9 => ?_) (fun c9 => ?_)
      · refine W.widen (k := cells + 1) (n := slots + 6) (Nat.le_succ _) (by omega) ?_
        exact kk u1 u2 g H locs ls hw.2 hC hl
      · exact absurd hw.1 c9
    · exact absurd c1 c2
  · refine lv_iconst (v := 1) hx hb dL_law_547 (by decide) ?_
    refine lv_goto (tgt := 552) hx hb dL_law_548 (by decide) ?_
    have hw := hw1
    refine mid_callVi (w := wX cI qx σx) (As := [.int (xs (Int32.toNatClampNeg (x4 + 1))), .int 1]) (rest := []) ⟨hx, hb, hml, hown, hts⟩ (c_X5_range l D cI qx _ σx (xs (Int32.toNatClampNeg (x4 + 1))) 1 _ hw) (cwV 2 hts gT_X5_range rfl rfl rfl (by decide +kernel) ⟨Nat.le_of_ble_eq_true rfl, Nat.le_of_ble_eq_true rfl⟩) hK1 hC hA 0 rfl rfl rfl rfl hl.1 rfl (Nat.le_of_ble_eq_true rfl) dL_law_552 ⟨by have := hcs.1; show cells ≤ 1069; omega, by have := hcs.2; show slots ≤ 10931; omega⟩ (fun r1 u1 H locs hw hC => ?_)
    refine lv_aload_n hx hb dL_law_555 rfl (lv_at hl 2 rfl) ?_
    refine lv_aload_n hx hb dL_law_556 rfl (lv_at hl 0 rfl) ?_
    refine lv_iload hx hb dL_law_557 (lv_at hl 4 rfl) ?_
    refine lv_iconst (v := 1) hx hb dL_law_559 (by decide) ?_
    refine lv_iadd hx hb dL_law_560 ?_
    refine va_sld hx hb hX hbl hbA hC.2.2 (hin 1 (by decide)) dL_law_561 ?_
    refine lv_aload_n hx hb dL_law_562 rfl (lv_at hl 0 rfl) ?_
    refine lv_iload hx hb dL_law_563 (lv_at hl 4 rfl) ?_
    refine lv_iconst (v := 2) hx hb dL_law_565 (by decide) ?_
    refine lv_iadd hx hb dL_law_566 ?_
    refine va_sld hx hb hX hbl hbA hC.2.2 (hin 2 (by decide)) dL_law_567 ?_
    refine lv_if_eq (tgt := 575) hx hb dL_law_568 (by decide) (fun c2 => ?_) (fun c2 => ?_)
    · exact absurd c2 c1
    · refine lv_iconst (v := 1) hx hb dL_law_571 (by decide) ?_
      refine lv_goto (tgt := 576) hx hb dL_law_572 (by decide) ?_
      refine mid_callVi (wa := []) (w := wM cI qm σm) (As := [.int (xs (Int32.toNatClampNeg (x4 + 1))), .int 1]) (rest := [.int r1]) ⟨hx, hb, hml, hown, hts⟩ (c_X6_range l D cI qm _ σm (xs (Int32.toNatClampNeg (x4 + 1))) 1 _ hw) (cwV 2 hts gT_X6_range rfl rfl rfl (by decide +kernel) ⟨Nat.le_of_ble_eq_true rfl, Nat.le_of_ble_eq_true rfl⟩) hK1 hC hA 0 rfl rfl rfl rfl hl.1 rfl (Nat.le_of_ble_eq_true rfl) dL_law_576 ⟨by have := hcs.1; show cells ≤ 1069; omega, by have := hcs.2; show slots ≤ 10931; omega⟩ (fun r2 u2 H locs hw hC => ?_)
      refine lv_icmp_eq (tgt := 1009) hx hb dL_law_579 (by decide) (fun c9 => ?_) (fun c9 => ?_)
      · refine W.widen (k := cells + 1) (n := slots + 6) (Nat.le_succ _) (by omega) ?_
        exact kk u1 u2 g H locs ls hw.2 hC hl
      · exact absurd hw.1 c9
set_option maxHeartbeats 4000000 in
set_option maxRecDepth 100000 in
theorem lc_12 {p : Program} {l : Launch} {e : Env} {s : State} {m : MethodId} {below : List Frame} {meth : Method} {c : Code} {D : va_G} {cI cL : ClassId} {qx qm : Nat → Nat} {a b L i : Nat} {xs : Nat → Int32} {x4 : Int32} {σx σm : St} {g : Nat → Int64} {H : Heap} {locs : List Loc} {ls : Array Slot} {cells slots : Nat} {R : St → St → Prop} (hL : L ≤ 2560) (C0 : lw_At p s m meth c b L xs) (hK : va_K D vwCl [(cI, .int), (cL, .long)] s) (hC : Cx D (fun q : Nat => s.heap.size ≤ q) s.heap (wL cI cL qx qm a σx σm g) H locs) (hl : lv_has ls 7 [(0, .ref b), (1, .ref (qx 0)), (2, .ref (qm 0)), (3, .ref a), (4, .int x4)]) (ex4 : x4 = nI i) (hi : i + 4 < L) (hcs : cells + 1 ≤ 1069 ∧ slots + 6 ≤ 10931) (hw0 : w_X5_between σx (xs (Int32.toNatClampNeg (x4 + 1))) (xs (Int32.toNatClampNeg (x4 + 2))) 0 (fun r u => w_X6_between σm (xs (Int32.toNatClampNeg (x4 + 1))) (xs (Int32.toNatClampNeg (x4 + 2))) 0 (fun r2 u2 => r = r2 ∧ R u u2))) (hw1 : w_X5_between σx (xs (Int32.toNatClampNeg (x4 + 1))) (xs (Int32.toNatClampNeg (x4 + 2))) 1 (fun r u => w_X6_between σm (xs (Int32.toNatClampNeg (x4 + 1))) (xs (Int32.toNatClampNeg (x4 + 2))) 1 (fun r2 u2 => r = r2 ∧ R u u2))) (kk : ∀ (σx σm : St) (g : Nat → Int64) (H : Heap) (locs : List Loc) (ls : Array Slot), R σx σm → Cx D (fun q : Nat => s.heap.size ≤ q) s.heap (wL cI cL qx qm a σx σm g) H locs → lv_has ls 7 [(0, .ref b), (1, .ref (qx 0)), (2, .ref (qm 0)), (3, .ref a), (4, .int x4)] → W p l e room_1 s m #[Value.ref b] below meth c H locs (cells + 1) (slots + 6) (lw_Z below #[Value.ref b] s) (F0 m 1009 ls [])) : W p l e room_1 s m #[Value.ref b] below meth c H locs cells slots (lw_Z below #[Value.ref b] s) (F0 m 584 ls []) := by
  obtain ⟨hx, hb, hr, hml, hown, hts, hX, hbl, hlocks, hgv⟩ := C0
  have hA : ∀ q : Nat, s.heap.size ≤ q → (fun q : Nat => s.heap.size ≤ q) q := fun _ h => h
  have hbA : ¬ (fun q : Nat => s.heap.size ≤ q) b := Nat.not_le.mpr hbl
  have hK1 : va_K D vwCl [(cI, .int)] s := hK.sub [0] rfl
  have hin : ∀ k : Nat, k ≤ 4 → vp_in (x4 + nI k) L := fun k hk => by rw [ex4, nI_add]; exact vp_in_nI (by omega) (by omega)
  refine lv_aload_n hx hb dL_law_584 rfl (lv_at hl 1 rfl) ?_
  refine lv_aload_n hx hb dL_law_585 rfl (lv_at hl 0 rfl) ?_
  refine lv_iload hx hb dL_law_586 (lv_at hl 4 rfl) ?_
  refine lv_iconst (v := 1) hx hb dL_law_588 (by decide) ?_
  refine lv_iadd hx hb dL_law_589 ?_
  refine va_sld hx hb hX hbl hbA hC.2.2 (hin 1 (by decide)) dL_law_590 ?_
  refine lv_aload_n hx hb dL_law_591 rfl (lv_at hl 0 rfl) ?_
  refine lv_iload hx hb dL_law_592 (lv_at hl 4 rfl) ?_
  refine lv_iconst (v := 2) hx hb dL_law_594 (by decide) ?_
  refine lv_iadd hx hb dL_law_595 ?_
  refine va_sld hx hb hX hbl hbA hC.2.2 (hin 2 (by decide)) dL_law_596 ?_
  refine lv_aload_n hx hb dL_law_597 rfl (lv_at hl 0 rfl) ?_
  refine lv_iload hx hb dL_law_598 (lv_at hl 4 rfl) ?_
  refine lv_iconst (v := 3) hx hb dL_law_600 (by decide) ?_
  refine lv_iadd hx hb dL_law_601 ?_
  refine va_sld hx hb hX hbl hbA hC.2.2 (hin 3 (by decide)) dL_law_602 ?_
  refine lv_if_eq (tgt := 610) hx hb dL_law_603 (by decide) (fun c1 => ?_) (fun c1 => ?_)
  · refine lv_iconst (v := 0) hx hb dL_law_610 (by decide) ?_
    have hw := hw0
    refine mid_callVi (w := wX cI qx σx) (As := [.int (xs (Int32.toNatClampNeg (x4 + 1))), .int (xs (Int32.toNatClampNeg (x4 + 2))), .int 0]) (rest := []) ⟨hx, hb, hml, hown, hts⟩ (c_X5_between l D cI qx _ σx (xs (Int32.toNatClampNeg (x4 + 1))) (xs (Int32.toNatClampNeg (x4 + 2))) 0 _ hw) (cwV 3 hts gT_X5_between rfl rfl rfl (by decide +kernel) ⟨Nat.le_of_ble_eq_true rfl, Nat.le_of_ble_eq_true rfl⟩) hK1 hC hA 0 rfl rfl rfl rfl hl.1 rfl (Nat.le_of_ble_eq_true rfl) dL_law_611 ⟨by have := hcs.1; show cells ≤ 1069; omega, by have := hcs.2; show slots ≤ 10931; omega⟩ (fun r1 u1 H locs hw hC => ?_)
    refine lv_aload_n hx hb dL_law_614 rfl (lv_at hl 2 rfl) ?_
    refine lv_aload_n hx hb dL_law_615 rfl (lv_at hl 0 rfl) ?_
    refine lv_iload hx hb dL_law_616 (lv_at hl 4 rfl) ?_
    refine lv_iconst (v := 1) hx hb dL_law_618 (by decide) ?_
    refine lv_iadd hx hb dL_law_619 ?_
    refine va_sld hx hb hX hbl hbA hC.2.2 (hin 1 (by decide)) dL_law_620 ?_
    refine lv_aload_n hx hb dL_law_621 rfl (lv_at hl 0 rfl) ?_
    refine lv_iload hx hb dL_law_622 (lv_at hl 4 rfl) ?_
    refine lv_iconst (v := 2) hx hb dL_law_624 (by decide) ?_
    refine lv_iadd hx hb dL_law_625 ?_
    refine va_sld hx hb hX hbl hbA hC.2.2 (hin 2 (by decide)) dL_law_626 ?_
    refine lv_aload_n hx hb dL_law_627 rfl (lv_at hl 0 rfl) ?_
    refine lv_iload hx hb dL_law_628 (lv_at hl 4 rfl) ?_
    refine lv_iconst (v := 3) hx hb dL_law_630 (by decide) ?_
    refine lv_iadd hx hb dL_law_631 ?_
    refine va_sld hx hb hX hbl hbA hC.2.2 (hin 3 (by decide)) dL_law_632 ?_
    refine lv_if_eq (tgt := 640) hx hb dL_law_633 (by decide) (fun c2 => ?_) (fun c2 => ?_)
    · refine lv_iconst (v := 0) hx hb dL_law_640 (by decide) ?_
      refine mid_callVi (wa := []) (w := wM cI qm σm) (As := [.int (xs (Int32.toNatClampNeg (x4 + 1))), .int (xs (Int32.toNatClampNeg (x4 + 2))), .int 0]) (rest := [.int r1]) ⟨hx, hb, hml, hown, hts⟩ (c_X6_between l D cI qm _ σm (xs (Int32.toNatClampNeg (x4 + 1))) (xs (Int32.toNatClampNeg (x4 + 2))) 0 _ hw) (cwV 3 hts gT_X6_between rfl rfl rfl (by decide +kernel) ⟨Nat.le_of_ble_eq_true rfl, Nat.le_of_ble_eq_true rfl⟩) hK1 hC hA 0 rfl rfl rfl rfl hl.1 rfl (Nat.le_of_ble_eq_true rfl) dL_law_641 ⟨by have := hcs.1; show cells ≤ 1069; omega, by have := hcs.2; show slots ≤ 10931; omega⟩ (fun r2 u2 H locs hw hC => ?_)
      refine lv_icmp_eq (tgt := 1009) hx hb dL_law_644 (by decide) (fun c9 => ?_) (fun c9 => ?_)
      · refine W.widen (k := cells + 1) (n := slots + 6) (Nat.le_succ _) (by omega) ?_
        exact kk u1 u2 g H locs ls hw.2 hC hl
      · exact absurd hw.1 c9
    · exact absurd c1 c2
  · refine lv_iconst (v := 1) hx hb dL_law_606 (by decide) ?_
    refine lv_goto (tgt := 611) hx hb dL_law_607 (by decide) ?_
    have hw := hw1
    refine mid_callVi (w := wX cI qx σx) (As := [.int (xs (Int32.toNatClampNeg (x4 + 1))), .int (xs (Int32.toNatClampNeg (x4 + 2))), .int 1]) (rest := []) ⟨hx, hb, hml, hown, hts⟩ (c_X5_between l D cI qx _ σx (xs (Int32.toNatClampNeg (x4 + 1))) (xs (Int32.toNatClampNeg (x4 + 2))) 1 _ hw) (cwV 3 hts gT_X5_between rfl rfl rfl (by decide +kernel) ⟨Nat.le_of_ble_eq_true rfl, Nat.le_of_ble_eq_true rfl⟩) hK1 hC hA 0 rfl rfl rfl rfl hl.1 rfl (Nat.le_of_ble_eq_true rfl) dL_law_611 ⟨by have := hcs.1; show cells ≤ 1069; omega, by have := hcs.2; show slots ≤ 10931; omega⟩ (fun r1 u1 H locs hw hC => ?_)
    refine lv_aload_n hx hb dL_law_614 rfl (lv_at hl 2 rfl) ?_
    refine lv_aload_n hx hb dL_law_615 rfl (lv_at hl 0 rfl) ?_
    refine lv_iload hx hb dL_law_616 (lv_at hl 4 rfl) ?_
    refine lv_iconst (v := 1) hx hb dL_law_618 (by decide) ?_
    refine lv_iadd hx hb dL_law_619 ?_
    refine va_sld hx hb hX hbl hbA hC.2.2 (hin 1 (by decide)) dL_law_620 ?_
    refine lv_aload_n hx hb dL_law_621 rfl (lv_at hl 0 rfl) ?_
    refine lv_iload hx hb dL_law_622 (lv_at hl 4 rfl) ?_
    refine lv_iconst (v := 2) hx hb dL_law_624 (by decide) ?_
    refine lv_iadd hx hb dL_law_625 ?_
    refine va_sld hx hb hX hbl hbA hC.2.2 (hin 2 (by decide)) dL_law_626 ?_
    refine lv_aload_n hx hb dL_law_627 rfl (lv_at hl 0 rfl) ?_
    refine lv_iload hx hb dL_law_628 (lv_at hl 4 rfl) ?_
    refine lv_iconst (v := 3) hx hb dL_law_630 (by decide) ?_
    refine lv_iadd hx hb dL_law_631 ?_
    refine va_sld hx hb hX hbl hbA hC.2.2 (hin 3 (by decide)) dL_law_632 ?_
    refine lv_if_eq (tgt := 640) hx hb dL_law_633 (by decide) (fun c2 => ?_) (fun c2 => ?_)
    · exact absurd c2 c1
    · refine lv_iconst (v := 1) hx hb dL_law_636 (by decide) ?_
      refine lv_goto (tgt := 641) hx hb dL_law_637 (by decide) ?_
      refine mid_callVi (wa := []) (w := wM cI qm σm) (As := [.int (xs (Int32.toNatClampNeg (x4 + 1))), .int (xs (Int32.toNatClampNeg (x4 + 2))), .int 1]) (rest := [.int r1]) ⟨hx, hb, hml, hown, hts⟩ (c_X6_between l D cI qm _ σm (xs (Int32.toNatClampNeg (x4 + 1))) (xs (Int32.toNatClampNeg (x4 + 2))) 1 _ hw) (cwV 3 hts gT_X6_between rfl rfl rfl (by decide +kernel) ⟨Nat.le_of_ble_eq_true rfl, Nat.le_of_ble_eq_true rfl⟩) hK1 hC hA 0 rfl rfl rfl rfl hl.1 rfl (Nat.le_of_ble_eq_true rfl) dL_law_641 ⟨by have := hcs.1; show cells ≤ 1069; omega, by have := hcs.2; show slots ≤ 10931; omega⟩ (fun r2 u2 H locs hw hC => ?_)
      refine lv_icmp_eq (tgt := 1009) hx hb dL_law_644 (by decide) (fun c9 => ?_) (fun c9 => ?_)
      · refine W.widen (k := cells + 1) (n := slots + 6) (Nat.le_succ _) (by omega) ?_
        exact kk u1 u2 g H locs ls hw.2 hC hl
      · exact absurd hw.1 c9
set_option maxHeartbeats 4000000 in
set_option maxRecDepth 100000 in
theorem lc_13 {p : Program} {l : Launch} {e : Env} {s : State} {m : MethodId} {below : List Frame} {meth : Method} {c : Code} {D : va_G} {cI cL : ClassId} {qx qm : Nat → Nat} {a b L i : Nat} {xs : Nat → Int32} {x4 : Int32} {σx σm : St} {g : Nat → Int64} {H : Heap} {locs : List Loc} {ls : Array Slot} {cells slots : Nat} {R : St → St → Prop} (hL : L ≤ 2560) (C0 : lw_At p s m meth c b L xs) (hK : va_K D vwCl [(cI, .int), (cL, .long)] s) (hC : Cx D (fun q : Nat => s.heap.size ≤ q) s.heap (wL cI cL qx qm a σx σm g) H locs) (hl : lv_has ls 7 [(0, .ref b), (1, .ref (qx 0)), (2, .ref (qm 0)), (3, .ref a), (4, .int x4)]) (ex4 : x4 = nI i) (hi : i + 4 < L) (hcs : cells + 1 ≤ 1069 ∧ slots + 6 ≤ 10931) (hw : w_X5_order σx (xs (Int32.toNatClampNeg (x4 + 1))) (xs (Int32.toNatClampNeg (x4 + 2))) (fun r u => w_X6_order σm (xs (Int32.toNatClampNeg (x4 + 1))) (xs (Int32.toNatClampNeg (x4 + 2))) (fun r2 u2 => r = r2 ∧ R u u2))) (kk : ∀ (σx σm : St) (g : Nat → Int64) (H : Heap) (locs : List Loc) (ls : Array Slot), R σx σm → Cx D (fun q : Nat => s.heap.size ≤ q) s.heap (wL cI cL qx qm a σx σm g) H locs → lv_has ls 7 [(0, .ref b), (1, .ref (qx 0)), (2, .ref (qm 0)), (3, .ref a), (4, .int x4)] → W p l e room_1 s m #[Value.ref b] below meth c H locs (cells + 1) (slots + 6) (lw_Z below #[Value.ref b] s) (F0 m 1009 ls [])) : W p l e room_1 s m #[Value.ref b] below meth c H locs cells slots (lw_Z below #[Value.ref b] s) (F0 m 649 ls []) := by
  obtain ⟨hx, hb, hr, hml, hown, hts, hX, hbl, hlocks, hgv⟩ := C0
  have hA : ∀ q : Nat, s.heap.size ≤ q → (fun q : Nat => s.heap.size ≤ q) q := fun _ h => h
  have hbA : ¬ (fun q : Nat => s.heap.size ≤ q) b := Nat.not_le.mpr hbl
  have hK1 : va_K D vwCl [(cI, .int)] s := hK.sub [0] rfl
  have hin : ∀ k : Nat, k ≤ 4 → vp_in (x4 + nI k) L := fun k hk => by rw [ex4, nI_add]; exact vp_in_nI (by omega) (by omega)
  refine lv_aload_n hx hb dL_law_649 rfl (lv_at hl 1 rfl) ?_
  refine lv_aload_n hx hb dL_law_650 rfl (lv_at hl 0 rfl) ?_
  refine lv_iload hx hb dL_law_651 (lv_at hl 4 rfl) ?_
  refine lv_iconst (v := 1) hx hb dL_law_653 (by decide) ?_
  refine lv_iadd hx hb dL_law_654 ?_
  refine va_sld hx hb hX hbl hbA hC.2.2 (hin 1 (by decide)) dL_law_655 ?_
  refine lv_aload_n hx hb dL_law_656 rfl (lv_at hl 0 rfl) ?_
  refine lv_iload hx hb dL_law_657 (lv_at hl 4 rfl) ?_
  refine lv_iconst (v := 2) hx hb dL_law_659 (by decide) ?_
  refine lv_iadd hx hb dL_law_660 ?_
  refine va_sld hx hb hX hbl hbA hC.2.2 (hin 2 (by decide)) dL_law_661 ?_
  refine mid_callVi (w := wX cI qx σx) (As := [.int (xs (Int32.toNatClampNeg (x4 + 1))), .int (xs (Int32.toNatClampNeg (x4 + 2)))]) (rest := []) ⟨hx, hb, hml, hown, hts⟩ (c_X5_order l D cI qx _ σx (xs (Int32.toNatClampNeg (x4 + 1))) (xs (Int32.toNatClampNeg (x4 + 2))) _ hw) (cwV 2 hts gT_X5_order rfl rfl rfl (by decide +kernel) ⟨Nat.le_of_ble_eq_true rfl, Nat.le_of_ble_eq_true rfl⟩) hK1 hC hA 0 rfl rfl rfl rfl hl.1 rfl (Nat.le_of_ble_eq_true rfl) dL_law_662 ⟨by have := hcs.1; show cells ≤ 1069; omega, by have := hcs.2; show slots ≤ 10931; omega⟩ (fun r1 u1 H locs hw hC => ?_)
  refine lv_aload_n hx hb dL_law_665 rfl (lv_at hl 2 rfl) ?_
  refine lv_aload_n hx hb dL_law_666 rfl (lv_at hl 0 rfl) ?_
  refine lv_iload hx hb dL_law_667 (lv_at hl 4 rfl) ?_
  refine lv_iconst (v := 1) hx hb dL_law_669 (by decide) ?_
  refine lv_iadd hx hb dL_law_670 ?_
  refine va_sld hx hb hX hbl hbA hC.2.2 (hin 1 (by decide)) dL_law_671 ?_
  refine lv_aload_n hx hb dL_law_672 rfl (lv_at hl 0 rfl) ?_
  refine lv_iload hx hb dL_law_673 (lv_at hl 4 rfl) ?_
  refine lv_iconst (v := 2) hx hb dL_law_675 (by decide) ?_
  refine lv_iadd hx hb dL_law_676 ?_
  refine va_sld hx hb hX hbl hbA hC.2.2 (hin 2 (by decide)) dL_law_677 ?_
  refine mid_callVi (wa := []) (w := wM cI qm σm) (As := [.int (xs (Int32.toNatClampNeg (x4 + 1))), .int (xs (Int32.toNatClampNeg (x4 + 2)))]) (rest := [.int r1]) ⟨hx, hb, hml, hown, hts⟩ (c_X6_order l D cI qm _ σm (xs (Int32.toNatClampNeg (x4 + 1))) (xs (Int32.toNatClampNeg (x4 + 2))) _ hw) (cwV 2 hts gT_X6_order rfl rfl rfl (by decide +kernel) ⟨Nat.le_of_ble_eq_true rfl, Nat.le_of_ble_eq_true rfl⟩) hK1 hC hA 0 rfl rfl rfl rfl hl.1 rfl (Nat.le_of_ble_eq_true rfl) dL_law_678 ⟨by have := hcs.1; show cells ≤ 1069; omega, by have := hcs.2; show slots ≤ 10931; omega⟩ (fun r2 u2 H locs hw hC => ?_)
  refine lv_icmp_eq (tgt := 1009) hx hb dL_law_681 (by decide) (fun c9 => ?_) (fun c9 => ?_)
  · refine W.widen (k := cells + 1) (n := slots + 6) (Nat.le_succ _) (by omega) ?_
    exact kk u1 u2 g H locs ls hw.2 hC hl
  · exact absurd hw.1 c9
set_option maxHeartbeats 4000000 in
set_option maxRecDepth 100000 in
theorem lc_14 {p : Program} {l : Launch} {e : Env} {s : State} {m : MethodId} {below : List Frame} {meth : Method} {c : Code} {D : va_G} {cI cL : ClassId} {qx qm : Nat → Nat} {a b L i : Nat} {xs : Nat → Int32} {x4 : Int32} {σx σm : St} {g : Nat → Int64} {H : Heap} {locs : List Loc} {ls : Array Slot} {cells slots : Nat} {R : St → St → Prop} (hL : L ≤ 2560) (C0 : lw_At p s m meth c b L xs) (hK : va_K D vwCl [(cI, .int), (cL, .long)] s) (hC : Cx D (fun q : Nat => s.heap.size ≤ q) s.heap (wL cI cL qx qm a σx σm g) H locs) (hl : lv_has ls 7 [(0, .ref b), (1, .ref (qx 0)), (2, .ref (qm 0)), (3, .ref a), (4, .int x4)]) (ex4 : x4 = nI i) (hi : i + 4 < L) (hcs : cells + 1 ≤ 1069 ∧ slots + 6 ≤ 10931) (hw : w_X5_unsure σx  (fun r u => w_X6_unsure σm  (fun r2 u2 => r = r2 ∧ R u u2))) (kk : ∀ (σx σm : St) (g : Nat → Int64) (H : Heap) (locs : List Loc) (ls : Array Slot), R σx σm → Cx D (fun q : Nat => s.heap.size ≤ q) s.heap (wL cI cL qx qm a σx σm g) H locs → lv_has ls 7 [(0, .ref b), (1, .ref (qx 0)), (2, .ref (qm 0)), (3, .ref a), (4, .int x4)] → W p l e room_1 s m #[Value.ref b] below meth c H locs (cells + 1) (slots + 6) (lw_Z below #[Value.ref b] s) (F0 m 1009 ls [])) : W p l e room_1 s m #[Value.ref b] below meth c H locs cells slots (lw_Z below #[Value.ref b] s) (F0 m 686 ls []) := by
  obtain ⟨hx, hb, hr, hml, hown, hts, hX, hbl, hlocks, hgv⟩ := C0
  have hA : ∀ q : Nat, s.heap.size ≤ q → (fun q : Nat => s.heap.size ≤ q) q := fun _ h => h
  have hbA : ¬ (fun q : Nat => s.heap.size ≤ q) b := Nat.not_le.mpr hbl
  have hK1 : va_K D vwCl [(cI, .int)] s := hK.sub [0] rfl
  have hin : ∀ k : Nat, k ≤ 4 → vp_in (x4 + nI k) L := fun k hk => by rw [ex4, nI_add]; exact vp_in_nI (by omega) (by omega)
  refine lv_aload_n hx hb dL_law_686 rfl (lv_at hl 1 rfl) ?_
  refine mid_callVi (w := wX cI qx σx) (As := []) (rest := []) ⟨hx, hb, hml, hown, hts⟩ (c_X5_unsure l D cI qx _ σx  _ hw) (cwV 0 hts gT_X5_unsure rfl rfl rfl (by decide +kernel) ⟨Nat.le_of_ble_eq_true rfl, Nat.le_of_ble_eq_true rfl⟩) hK1 hC hA 0 rfl rfl rfl rfl hl.1 rfl (Nat.le_of_ble_eq_true rfl) dL_law_687 ⟨by have := hcs.1; show cells ≤ 1069; omega, by have := hcs.2; show slots ≤ 10931; omega⟩ (fun r1 u1 H locs hw hC => ?_)
  refine lv_aload_n hx hb dL_law_690 rfl (lv_at hl 2 rfl) ?_
  refine mid_callVi (wa := []) (w := wM cI qm σm) (As := []) (rest := [.int r1]) ⟨hx, hb, hml, hown, hts⟩ (c_X6_unsure l D cI qm _ σm  _ hw) (cwV 0 hts gT_X6_unsure rfl rfl rfl (by decide +kernel) ⟨Nat.le_of_ble_eq_true rfl, Nat.le_of_ble_eq_true rfl⟩) hK1 hC hA 0 rfl rfl rfl rfl hl.1 rfl (Nat.le_of_ble_eq_true rfl) dL_law_691 ⟨by have := hcs.1; show cells ≤ 1069; omega, by have := hcs.2; show slots ≤ 10931; omega⟩ (fun r2 u2 H locs hw hC => ?_)
  refine lv_icmp_eq (tgt := 1009) hx hb dL_law_694 (by decide) (fun c9 => ?_) (fun c9 => ?_)
  · refine W.widen (k := cells + 1) (n := slots + 6) (Nat.le_succ _) (by omega) ?_
    exact kk u1 u2 g H locs ls hw.2 hC hl
  · exact absurd hw.1 c9
set_option maxHeartbeats 4000000 in
set_option maxRecDepth 100000 in
theorem lc_15 {p : Program} {l : Launch} {e : Env} {s : State} {m : MethodId} {below : List Frame} {meth : Method} {c : Code} {D : va_G} {cI cL : ClassId} {qx qm : Nat → Nat} {a b L i : Nat} {xs : Nat → Int32} {x4 : Int32} {σx σm : St} {g : Nat → Int64} {H : Heap} {locs : List Loc} {ls : Array Slot} {cells slots : Nat} {R : St → St → Prop} (hL : L ≤ 2560) (C0 : lw_At p s m meth c b L xs) (hK : va_K D vwCl [(cI, .int), (cL, .long)] s) (hC : Cx D (fun q : Nat => s.heap.size ≤ q) s.heap (wL cI cL qx qm a σx σm g) H locs) (hl : lv_has ls 7 [(0, .ref b), (1, .ref (qx 0)), (2, .ref (qm 0)), (3, .ref a), (4, .int x4)]) (ex4 : x4 = nI i) (hi : i + 4 < L) (hcs : cells + 1 ≤ 1069 ∧ slots + 6 ≤ 10931) (hw : w_X5_known σx  (fun r u => w_X6_known σm  (fun r2 u2 => r = r2 ∧ R u u2))) (kk : ∀ (σx σm : St) (g : Nat → Int64) (H : Heap) (locs : List Loc) (ls : Array Slot), R σx σm → Cx D (fun q : Nat => s.heap.size ≤ q) s.heap (wL cI cL qx qm a σx σm g) H locs → lv_has ls 7 [(0, .ref b), (1, .ref (qx 0)), (2, .ref (qm 0)), (3, .ref a), (4, .int x4)] → W p l e room_1 s m #[Value.ref b] below meth c H locs (cells + 1) (slots + 6) (lw_Z below #[Value.ref b] s) (F0 m 1009 ls [])) : W p l e room_1 s m #[Value.ref b] below meth c H locs cells slots (lw_Z below #[Value.ref b] s) (F0 m 699 ls []) := by
  obtain ⟨hx, hb, hr, hml, hown, hts, hX, hbl, hlocks, hgv⟩ := C0
  have hA : ∀ q : Nat, s.heap.size ≤ q → (fun q : Nat => s.heap.size ≤ q) q := fun _ h => h
  have hbA : ¬ (fun q : Nat => s.heap.size ≤ q) b := Nat.not_le.mpr hbl
  have hK1 : va_K D vwCl [(cI, .int)] s := hK.sub [0] rfl
  have hin : ∀ k : Nat, k ≤ 4 → vp_in (x4 + nI k) L := fun k hk => by rw [ex4, nI_add]; exact vp_in_nI (by omega) (by omega)
  refine lv_aload_n hx hb dL_law_699 rfl (lv_at hl 1 rfl) ?_
  refine mid_callVi (w := wX cI qx σx) (As := []) (rest := []) ⟨hx, hb, hml, hown, hts⟩ (c_X5_known l D cI qx _ σx  _ hw) (cwV 0 hts gT_X5_known rfl rfl rfl (by decide +kernel) ⟨Nat.le_of_ble_eq_true rfl, Nat.le_of_ble_eq_true rfl⟩) hK1 hC hA 0 rfl rfl rfl rfl hl.1 rfl (Nat.le_of_ble_eq_true rfl) dL_law_700 ⟨by have := hcs.1; show cells ≤ 1069; omega, by have := hcs.2; show slots ≤ 10931; omega⟩ (fun r1 u1 H locs hw hC => ?_)
  refine lv_aload_n hx hb dL_law_703 rfl (lv_at hl 2 rfl) ?_
  refine mid_callVi (wa := []) (w := wM cI qm σm) (As := []) (rest := [.int r1]) ⟨hx, hb, hml, hown, hts⟩ (c_X6_known l D cI qm _ σm  _ hw) (cwV 0 hts gT_X6_known rfl rfl rfl (by decide +kernel) ⟨Nat.le_of_ble_eq_true rfl, Nat.le_of_ble_eq_true rfl⟩) hK1 hC hA 0 rfl rfl rfl rfl hl.1 rfl (Nat.le_of_ble_eq_true rfl) dL_law_704 ⟨by have := hcs.1; show cells ≤ 1069; omega, by have := hcs.2; show slots ≤ 10931; omega⟩ (fun r2 u2 H locs hw hC => ?_)
  refine lv_icmp_eq (tgt := 1009) hx hb dL_law_707 (by decide) (fun c9 => ?_) (fun c9 => ?_)
  · refine W.widen (k := cells + 1) (n := slots + 6) (Nat.le_succ _) (by omega) ?_
    exact kk u1 u2 g H locs ls hw.2 hC hl
  · exact absurd hw.1 c9
set_option maxHeartbeats 4000000 in
set_option maxRecDepth 100000 in
theorem lc_16 {p : Program} {l : Launch} {e : Env} {s : State} {m : MethodId} {below : List Frame} {meth : Method} {c : Code} {D : va_G} {cI cL : ClassId} {qx qm : Nat → Nat} {a b L i : Nat} {xs : Nat → Int32} {x4 : Int32} {σx σm : St} {g : Nat → Int64} {H : Heap} {locs : List Loc} {ls : Array Slot} {cells slots : Nat} {R : St → St → Prop} (hL : L ≤ 2560) (C0 : lw_At p s m meth c b L xs) (hK : va_K D vwCl [(cI, .int), (cL, .long)] s) (hC : Cx D (fun q : Nat => s.heap.size ≤ q) s.heap (wL cI cL qx qm a σx σm g) H locs) (hl : lv_has ls 7 [(0, .ref b), (1, .ref (qx 0)), (2, .ref (qm 0)), (3, .ref a), (4, .int x4)]) (ex4 : x4 = nI i) (hi : i + 4 < L) (hcs : cells + 1 ≤ 1069 ∧ slots + 6 ≤ 10931) (hw : w_X5_put σx  (fun r u => w_X6_put σm  (fun r2 u2 => r = r2 ∧ R u u2))) (kk : ∀ (σx σm : St) (g : Nat → Int64) (H : Heap) (locs : List Loc) (ls : Array Slot), R σx σm → Cx D (fun q : Nat => s.heap.size ≤ q) s.heap (wL cI cL qx qm a σx σm g) H locs → lv_has ls 7 [(0, .ref b), (1, .ref (qx 0)), (2, .ref (qm 0)), (3, .ref a), (4, .int x4)] → W p l e room_1 s m #[Value.ref b] below meth c H locs (cells + 1) (slots + 6) (lw_Z below #[Value.ref b] s) (F0 m 1009 ls [])) : W p l e room_1 s m #[Value.ref b] below meth c H locs cells slots (lw_Z below #[Value.ref b] s) (F0 m 712 ls []) := by
  obtain ⟨hx, hb, hr, hml, hown, hts, hX, hbl, hlocks, hgv⟩ := C0
  have hA : ∀ q : Nat, s.heap.size ≤ q → (fun q : Nat => s.heap.size ≤ q) q := fun _ h => h
  have hbA : ¬ (fun q : Nat => s.heap.size ≤ q) b := Nat.not_le.mpr hbl
  have hK1 : va_K D vwCl [(cI, .int)] s := hK.sub [0] rfl
  have hin : ∀ k : Nat, k ≤ 4 → vp_in (x4 + nI k) L := fun k hk => by rw [ex4, nI_add]; exact vp_in_nI (by omega) (by omega)
  refine lv_aload_n hx hb dL_law_712 rfl (lv_at hl 1 rfl) ?_
  refine mid_callVi (w := wX cI qx σx) (As := []) (rest := []) ⟨hx, hb, hml, hown, hts⟩ (c_X5_put l D cI qx _ σx  _ hw) (cwV 0 hts gT_X5_put rfl rfl rfl (by decide +kernel) ⟨Nat.le_of_ble_eq_true rfl, Nat.le_of_ble_eq_true rfl⟩) hK1 hC hA 0 rfl rfl rfl rfl hl.1 rfl (Nat.le_of_ble_eq_true rfl) dL_law_713 ⟨by have := hcs.1; show cells ≤ 1069; omega, by have := hcs.2; show slots ≤ 10931; omega⟩ (fun r1 u1 H locs hw hC => ?_)
  refine lv_aload_n hx hb dL_law_716 rfl (lv_at hl 2 rfl) ?_
  refine mid_callVi (wa := []) (w := wM cI qm σm) (As := []) (rest := [.int r1]) ⟨hx, hb, hml, hown, hts⟩ (c_X6_put l D cI qm _ σm  _ hw) (cwV 0 hts gT_X6_put rfl rfl rfl (by decide +kernel) ⟨Nat.le_of_ble_eq_true rfl, Nat.le_of_ble_eq_true rfl⟩) hK1 hC hA 0 rfl rfl rfl rfl hl.1 rfl (Nat.le_of_ble_eq_true rfl) dL_law_717 ⟨by have := hcs.1; show cells ≤ 1069; omega, by have := hcs.2; show slots ≤ 10931; omega⟩ (fun r2 u2 H locs hw hC => ?_)
  refine lv_icmp_eq (tgt := 1009) hx hb dL_law_720 (by decide) (fun c9 => ?_) (fun c9 => ?_)
  · refine W.widen (k := cells + 1) (n := slots + 6) (Nat.le_succ _) (by omega) ?_
    exact kk u1 u2 g H locs ls hw.2 hC hl
  · exact absurd hw.1 c9
set_option maxHeartbeats 4000000 in
set_option maxRecDepth 100000 in
theorem lc_17 {p : Program} {l : Launch} {e : Env} {s : State} {m : MethodId} {below : List Frame} {meth : Method} {c : Code} {D : va_G} {cI cL : ClassId} {qx qm : Nat → Nat} {a b L i : Nat} {xs : Nat → Int32} {x4 : Int32} {σx σm : St} {g : Nat → Int64} {H : Heap} {locs : List Loc} {ls : Array Slot} {cells slots : Nat} {R : St → St → Prop} (hL : L ≤ 2560) (C0 : lw_At p s m meth c b L xs) (hK : va_K D vwCl [(cI, .int), (cL, .long)] s) (hC : Cx D (fun q : Nat => s.heap.size ≤ q) s.heap (wL cI cL qx qm a σx σm g) H locs) (hl : lv_has ls 7 [(0, .ref b), (1, .ref (qx 0)), (2, .ref (qm 0)), (3, .ref a), (4, .int x4)]) (ex4 : x4 = nI i) (hi : i + 4 < L) (hcs : cells + 1 ≤ 1069 ∧ slots + 6 ≤ 10931) (hw : w_X5_offset σx (xs (Int32.toNatClampNeg (x4 + 1))) (fun r u => w_X6_offset σm (xs (Int32.toNatClampNeg (x4 + 1))) (fun r2 u2 => r = r2 ∧ R u u2))) (kk : ∀ (σx σm : St) (g : Nat → Int64) (H : Heap) (locs : List Loc) (ls : Array Slot), R σx σm → Cx D (fun q : Nat => s.heap.size ≤ q) s.heap (wL cI cL qx qm a σx σm g) H locs → lv_has ls 7 [(0, .ref b), (1, .ref (qx 0)), (2, .ref (qm 0)), (3, .ref a), (4, .int x4)] → W p l e room_1 s m #[Value.ref b] below meth c H locs (cells + 1) (slots + 6) (lw_Z below #[Value.ref b] s) (F0 m 1009 ls [])) : W p l e room_1 s m #[Value.ref b] below meth c H locs cells slots (lw_Z below #[Value.ref b] s) (F0 m 725 ls []) := by
  obtain ⟨hx, hb, hr, hml, hown, hts, hX, hbl, hlocks, hgv⟩ := C0
  have hA : ∀ q : Nat, s.heap.size ≤ q → (fun q : Nat => s.heap.size ≤ q) q := fun _ h => h
  have hbA : ¬ (fun q : Nat => s.heap.size ≤ q) b := Nat.not_le.mpr hbl
  have hK1 : va_K D vwCl [(cI, .int)] s := hK.sub [0] rfl
  have hin : ∀ k : Nat, k ≤ 4 → vp_in (x4 + nI k) L := fun k hk => by rw [ex4, nI_add]; exact vp_in_nI (by omega) (by omega)
  refine lv_aload_n hx hb dL_law_725 rfl (lv_at hl 1 rfl) ?_
  refine lv_aload_n hx hb dL_law_726 rfl (lv_at hl 0 rfl) ?_
  refine lv_iload hx hb dL_law_727 (lv_at hl 4 rfl) ?_
  refine lv_iconst (v := 1) hx hb dL_law_729 (by decide) ?_
  refine lv_iadd hx hb dL_law_730 ?_
  refine va_sld hx hb hX hbl hbA hC.2.2 (hin 1 (by decide)) dL_law_731 ?_
  refine mid_callVi (w := wX cI qx σx) (As := [.int (xs (Int32.toNatClampNeg (x4 + 1)))]) (rest := []) ⟨hx, hb, hml, hown, hts⟩ (c_X5_offset l D cI qx _ σx (xs (Int32.toNatClampNeg (x4 + 1))) _ hw) (cwV 1 hts gT_X5_offset rfl rfl rfl (by decide +kernel) ⟨Nat.le_of_ble_eq_true rfl, Nat.le_of_ble_eq_true rfl⟩) hK1 hC hA 0 rfl rfl rfl rfl hl.1 rfl (Nat.le_of_ble_eq_true rfl) dL_law_732 ⟨by have := hcs.1; show cells ≤ 1069; omega, by have := hcs.2; show slots ≤ 10931; omega⟩ (fun r1 u1 H locs hw hC => ?_)
  refine lv_aload_n hx hb dL_law_735 rfl (lv_at hl 2 rfl) ?_
  refine lv_aload_n hx hb dL_law_736 rfl (lv_at hl 0 rfl) ?_
  refine lv_iload hx hb dL_law_737 (lv_at hl 4 rfl) ?_
  refine lv_iconst (v := 1) hx hb dL_law_739 (by decide) ?_
  refine lv_iadd hx hb dL_law_740 ?_
  refine va_sld hx hb hX hbl hbA hC.2.2 (hin 1 (by decide)) dL_law_741 ?_
  refine mid_callVi (wa := []) (w := wM cI qm σm) (As := [.int (xs (Int32.toNatClampNeg (x4 + 1)))]) (rest := [.int r1]) ⟨hx, hb, hml, hown, hts⟩ (c_X6_offset l D cI qm _ σm (xs (Int32.toNatClampNeg (x4 + 1))) _ hw) (cwV 1 hts gT_X6_offset rfl rfl rfl (by decide +kernel) ⟨Nat.le_of_ble_eq_true rfl, Nat.le_of_ble_eq_true rfl⟩) hK1 hC hA 0 rfl rfl rfl rfl hl.1 rfl (Nat.le_of_ble_eq_true rfl) dL_law_742 ⟨by have := hcs.1; show cells ≤ 1069; omega, by have := hcs.2; show slots ≤ 10931; omega⟩ (fun r2 u2 H locs hw hC => ?_)
  refine lv_icmp_eq (tgt := 1009) hx hb dL_law_745 (by decide) (fun c9 => ?_) (fun c9 => ?_)
  · refine W.widen (k := cells + 1) (n := slots + 6) (Nat.le_succ _) (by omega) ?_
    exact kk u1 u2 g H locs ls hw.2 hC hl
  · exact absurd hw.1 c9
set_option maxHeartbeats 4000000 in
set_option maxRecDepth 100000 in
theorem lc_19 {p : Program} {l : Launch} {e : Env} {s : State} {m : MethodId} {below : List Frame} {meth : Method} {c : Code} {D : va_G} {cI cL : ClassId} {qx qm : Nat → Nat} {a b L i : Nat} {xs : Nat → Int32} {x4 : Int32} {σx σm : St} {g : Nat → Int64} {H : Heap} {locs : List Loc} {ls : Array Slot} {cells slots : Nat} {R : St → St → Prop} (hL : L ≤ 2560) (C0 : lw_At p s m meth c b L xs) (hK : va_K D vwCl [(cI, .int), (cL, .long)] s) (hC : Cx D (fun q : Nat => s.heap.size ≤ q) s.heap (wL cI cL qx qm a σx σm g) H locs) (hl : lv_has ls 7 [(0, .ref b), (1, .ref (qx 0)), (2, .ref (qm 0)), (3, .ref a), (4, .int x4)]) (ex4 : x4 = nI i) (hi : i + 4 < L) (hcs : cells + 1 ≤ 1069 ∧ slots + 6 ≤ 10931) (hw : w_X5_time σx (xs (Int32.toNatClampNeg (x4 + 1))) (fun r u => w_X6_time σm (xs (Int32.toNatClampNeg (x4 + 1))) (fun r2 u2 => r = r2 ∧ R u u2))) (kk : ∀ (σx σm : St) (g : Nat → Int64) (H : Heap) (locs : List Loc) (ls : Array Slot), R σx σm → Cx D (fun q : Nat => s.heap.size ≤ q) s.heap (wL cI cL qx qm a σx σm g) H locs → lv_has ls 7 [(0, .ref b), (1, .ref (qx 0)), (2, .ref (qm 0)), (3, .ref a), (4, .int x4)] → W p l e room_1 s m #[Value.ref b] below meth c H locs (cells + 1) (slots + 6) (lw_Z below #[Value.ref b] s) (F0 m 1009 ls [])) : W p l e room_1 s m #[Value.ref b] below meth c H locs cells slots (lw_Z below #[Value.ref b] s) (F0 m 806 ls []) := by
  obtain ⟨hx, hb, hr, hml, hown, hts, hX, hbl, hlocks, hgv⟩ := C0
  have hA : ∀ q : Nat, s.heap.size ≤ q → (fun q : Nat => s.heap.size ≤ q) q := fun _ h => h
  have hbA : ¬ (fun q : Nat => s.heap.size ≤ q) b := Nat.not_le.mpr hbl
  have hK1 : va_K D vwCl [(cI, .int)] s := hK.sub [0] rfl
  have hin : ∀ k : Nat, k ≤ 4 → vp_in (x4 + nI k) L := fun k hk => by rw [ex4, nI_add]; exact vp_in_nI (by omega) (by omega)
  refine lv_aload_n hx hb dL_law_806 rfl (lv_at hl 1 rfl) ?_
  refine lv_aload_n hx hb dL_law_807 rfl (lv_at hl 0 rfl) ?_
  refine lv_iload hx hb dL_law_808 (lv_at hl 4 rfl) ?_
  refine lv_iconst (v := 1) hx hb dL_law_810 (by decide) ?_
  refine lv_iadd hx hb dL_law_811 ?_
  refine va_sld hx hb hX hbl hbA hC.2.2 (hin 1 (by decide)) dL_law_812 ?_
  refine mid_callVi (w := wX cI qx σx) (As := [.int (xs (Int32.toNatClampNeg (x4 + 1)))]) (rest := []) ⟨hx, hb, hml, hown, hts⟩ (c_X5_time l D cI qx _ σx (xs (Int32.toNatClampNeg (x4 + 1))) _ hw) (cwV 1 hts gT_X5_time rfl rfl rfl (by decide +kernel) ⟨Nat.le_of_ble_eq_true rfl, Nat.le_of_ble_eq_true rfl⟩) hK1 hC hA 0 rfl rfl rfl rfl hl.1 rfl (Nat.le_of_ble_eq_true rfl) dL_law_813 ⟨by have := hcs.1; show cells ≤ 1069; omega, by have := hcs.2; show slots ≤ 10931; omega⟩ (fun r1 u1 H locs hw hC => ?_)
  refine lv_aload_n hx hb dL_law_816 rfl (lv_at hl 2 rfl) ?_
  refine lv_aload_n hx hb dL_law_817 rfl (lv_at hl 0 rfl) ?_
  refine lv_iload hx hb dL_law_818 (lv_at hl 4 rfl) ?_
  refine lv_iconst (v := 1) hx hb dL_law_820 (by decide) ?_
  refine lv_iadd hx hb dL_law_821 ?_
  refine va_sld hx hb hX hbl hbA hC.2.2 (hin 1 (by decide)) dL_law_822 ?_
  refine mid_callVi (wa := []) (w := wM cI qm σm) (As := [.int (xs (Int32.toNatClampNeg (x4 + 1)))]) (rest := [.int r1]) ⟨hx, hb, hml, hown, hts⟩ (c_X6_time l D cI qm _ σm (xs (Int32.toNatClampNeg (x4 + 1))) _ hw) (cwV 1 hts gT_X6_time rfl rfl rfl (by decide +kernel) ⟨Nat.le_of_ble_eq_true rfl, Nat.le_of_ble_eq_true rfl⟩) hK1 hC hA 0 rfl rfl rfl rfl hl.1 rfl (Nat.le_of_ble_eq_true rfl) dL_law_823 ⟨by have := hcs.1; show cells ≤ 1069; omega, by have := hcs.2; show slots ≤ 10931; omega⟩ (fun r2 u2 H locs hw hC => ?_)
  refine lv_icmp_eq (tgt := 1009) hx hb dL_law_826 (by decide) (fun c9 => ?_) (fun c9 => ?_)
  · refine W.widen (k := cells + 1) (n := slots + 6) (Nat.le_succ _) (by omega) ?_
    exact kk u1 u2 g H locs ls hw.2 hC hl
  · exact absurd hw.1 c9
set_option maxHeartbeats 4000000 in
set_option maxRecDepth 100000 in
theorem lc_20 {p : Program} {l : Launch} {e : Env} {s : State} {m : MethodId} {below : List Frame} {meth : Method} {c : Code} {D : va_G} {cI cL : ClassId} {qx qm : Nat → Nat} {a b L i : Nat} {xs : Nat → Int32} {x4 : Int32} {σx σm : St} {g : Nat → Int64} {H : Heap} {locs : List Loc} {ls : Array Slot} {cells slots : Nat} {R : St → St → Prop} (hL : L ≤ 2560) (C0 : lw_At p s m meth c b L xs) (hK : va_K D vwCl [(cI, .int), (cL, .long)] s) (hC : Cx D (fun q : Nat => s.heap.size ≤ q) s.heap (wL cI cL qx qm a σx σm g) H locs) (hl : lv_has ls 7 [(0, .ref b), (1, .ref (qx 0)), (2, .ref (qm 0)), (3, .ref a), (4, .int x4)]) (ex4 : x4 = nI i) (hi : i + 4 < L) (hcs : cells + 1 ≤ 1069 ∧ slots + 6 ≤ 10931) (hw : w_X5_days σx  (fun r u => w_X6_days σm  (fun r2 u2 => r = r2 ∧ R u u2))) (kk : ∀ (σx σm : St) (g : Nat → Int64) (H : Heap) (locs : List Loc) (ls : Array Slot), R σx σm → Cx D (fun q : Nat => s.heap.size ≤ q) s.heap (wL cI cL qx qm a σx σm g) H locs → lv_has ls 7 [(0, .ref b), (1, .ref (qx 0)), (2, .ref (qm 0)), (3, .ref a), (4, .int x4)] → W p l e room_1 s m #[Value.ref b] below meth c H locs (cells + 1) (slots + 6) (lw_Z below #[Value.ref b] s) (F0 m 1009 ls [])) : W p l e room_1 s m #[Value.ref b] below meth c H locs cells slots (lw_Z below #[Value.ref b] s) (F0 m 831 ls []) := by
  obtain ⟨hx, hb, hr, hml, hown, hts, hX, hbl, hlocks, hgv⟩ := C0
  have hA : ∀ q : Nat, s.heap.size ≤ q → (fun q : Nat => s.heap.size ≤ q) q := fun _ h => h
  have hbA : ¬ (fun q : Nat => s.heap.size ≤ q) b := Nat.not_le.mpr hbl
  have hK1 : va_K D vwCl [(cI, .int)] s := hK.sub [0] rfl
  have hin : ∀ k : Nat, k ≤ 4 → vp_in (x4 + nI k) L := fun k hk => by rw [ex4, nI_add]; exact vp_in_nI (by omega) (by omega)
  refine lv_aload_n hx hb dL_law_831 rfl (lv_at hl 1 rfl) ?_
  refine mid_callVi (w := wX cI qx σx) (As := []) (rest := []) ⟨hx, hb, hml, hown, hts⟩ (c_X5_days l D cI qx _ σx  _ hw) (cwV 0 hts gT_X5_days rfl rfl rfl (by decide +kernel) ⟨Nat.le_of_ble_eq_true rfl, Nat.le_of_ble_eq_true rfl⟩) hK1 hC hA 0 rfl rfl rfl rfl hl.1 rfl (Nat.le_of_ble_eq_true rfl) dL_law_832 ⟨by have := hcs.1; show cells ≤ 1069; omega, by have := hcs.2; show slots ≤ 10931; omega⟩ (fun r1 u1 H locs hw hC => ?_)
  refine lv_aload_n hx hb dL_law_835 rfl (lv_at hl 2 rfl) ?_
  refine mid_callVi (wa := []) (w := wM cI qm σm) (As := []) (rest := [.int r1]) ⟨hx, hb, hml, hown, hts⟩ (c_X6_days l D cI qm _ σm  _ hw) (cwV 0 hts gT_X6_days rfl rfl rfl (by decide +kernel) ⟨Nat.le_of_ble_eq_true rfl, Nat.le_of_ble_eq_true rfl⟩) hK1 hC hA 0 rfl rfl rfl rfl hl.1 rfl (Nat.le_of_ble_eq_true rfl) dL_law_836 ⟨by have := hcs.1; show cells ≤ 1069; omega, by have := hcs.2; show slots ≤ 10931; omega⟩ (fun r2 u2 H locs hw hC => ?_)
  refine lv_icmp_eq (tgt := 1009) hx hb dL_law_839 (by decide) (fun c9 => ?_) (fun c9 => ?_)
  · refine W.widen (k := cells + 1) (n := slots + 6) (Nat.le_succ _) (by omega) ?_
    exact kk u1 u2 g H locs ls hw.2 hC hl
  · exact absurd hw.1 c9
set_option maxHeartbeats 4000000 in
set_option maxRecDepth 100000 in
theorem lc_21 {p : Program} {l : Launch} {e : Env} {s : State} {m : MethodId} {below : List Frame} {meth : Method} {c : Code} {D : va_G} {cI cL : ClassId} {qx qm : Nat → Nat} {a b L i : Nat} {xs : Nat → Int32} {x4 : Int32} {σx σm : St} {g : Nat → Int64} {H : Heap} {locs : List Loc} {ls : Array Slot} {cells slots : Nat} {R : St → St → Prop} (hL : L ≤ 2560) (C0 : lw_At p s m meth c b L xs) (hK : va_K D vwCl [(cI, .int), (cL, .long)] s) (hC : Cx D (fun q : Nat => s.heap.size ≤ q) s.heap (wL cI cL qx qm a σx σm g) H locs) (hl : lv_has ls 7 [(0, .ref b), (1, .ref (qx 0)), (2, .ref (qm 0)), (3, .ref a), (4, .int x4)]) (ex4 : x4 = nI i) (hi : i + 4 < L) (hcs : cells + 1 ≤ 1069 ∧ slots + 6 ≤ 10931) (hw : w_X5_day σx (xs (Int32.toNatClampNeg (x4 + 1))) (xs (Int32.toNatClampNeg (x4 + 2))) (fun r u => w_X6_day σm (xs (Int32.toNatClampNeg (x4 + 1))) (xs (Int32.toNatClampNeg (x4 + 2))) (fun r2 u2 => r = r2 ∧ R u u2))) (kk : ∀ (σx σm : St) (g : Nat → Int64) (H : Heap) (locs : List Loc) (ls : Array Slot), R σx σm → Cx D (fun q : Nat => s.heap.size ≤ q) s.heap (wL cI cL qx qm a σx σm g) H locs → lv_has ls 7 [(0, .ref b), (1, .ref (qx 0)), (2, .ref (qm 0)), (3, .ref a), (4, .int x4)] → W p l e room_1 s m #[Value.ref b] below meth c H locs (cells + 1) (slots + 6) (lw_Z below #[Value.ref b] s) (F0 m 1009 ls [])) : W p l e room_1 s m #[Value.ref b] below meth c H locs cells slots (lw_Z below #[Value.ref b] s) (F0 m 844 ls []) := by
  obtain ⟨hx, hb, hr, hml, hown, hts, hX, hbl, hlocks, hgv⟩ := C0
  have hA : ∀ q : Nat, s.heap.size ≤ q → (fun q : Nat => s.heap.size ≤ q) q := fun _ h => h
  have hbA : ¬ (fun q : Nat => s.heap.size ≤ q) b := Nat.not_le.mpr hbl
  have hK1 : va_K D vwCl [(cI, .int)] s := hK.sub [0] rfl
  have hin : ∀ k : Nat, k ≤ 4 → vp_in (x4 + nI k) L := fun k hk => by rw [ex4, nI_add]; exact vp_in_nI (by omega) (by omega)
  refine lv_aload_n hx hb dL_law_844 rfl (lv_at hl 1 rfl) ?_
  refine lv_aload_n hx hb dL_law_845 rfl (lv_at hl 0 rfl) ?_
  refine lv_iload hx hb dL_law_846 (lv_at hl 4 rfl) ?_
  refine lv_iconst (v := 1) hx hb dL_law_848 (by decide) ?_
  refine lv_iadd hx hb dL_law_849 ?_
  refine va_sld hx hb hX hbl hbA hC.2.2 (hin 1 (by decide)) dL_law_850 ?_
  refine lv_aload_n hx hb dL_law_851 rfl (lv_at hl 0 rfl) ?_
  refine lv_iload hx hb dL_law_852 (lv_at hl 4 rfl) ?_
  refine lv_iconst (v := 2) hx hb dL_law_854 (by decide) ?_
  refine lv_iadd hx hb dL_law_855 ?_
  refine va_sld hx hb hX hbl hbA hC.2.2 (hin 2 (by decide)) dL_law_856 ?_
  refine mid_callVi (w := wX cI qx σx) (As := [.int (xs (Int32.toNatClampNeg (x4 + 1))), .int (xs (Int32.toNatClampNeg (x4 + 2)))]) (rest := []) ⟨hx, hb, hml, hown, hts⟩ (c_X5_day l D cI qx _ σx (xs (Int32.toNatClampNeg (x4 + 1))) (xs (Int32.toNatClampNeg (x4 + 2))) _ hw) (cwV 2 hts gT_X5_day rfl rfl rfl (by decide +kernel) ⟨Nat.le_of_ble_eq_true rfl, Nat.le_of_ble_eq_true rfl⟩) hK1 hC hA 0 rfl rfl rfl rfl hl.1 rfl (Nat.le_of_ble_eq_true rfl) dL_law_857 ⟨by have := hcs.1; show cells ≤ 1069; omega, by have := hcs.2; show slots ≤ 10931; omega⟩ (fun r1 u1 H locs hw hC => ?_)
  refine lv_aload_n hx hb dL_law_860 rfl (lv_at hl 2 rfl) ?_
  refine lv_aload_n hx hb dL_law_861 rfl (lv_at hl 0 rfl) ?_
  refine lv_iload hx hb dL_law_862 (lv_at hl 4 rfl) ?_
  refine lv_iconst (v := 1) hx hb dL_law_864 (by decide) ?_
  refine lv_iadd hx hb dL_law_865 ?_
  refine va_sld hx hb hX hbl hbA hC.2.2 (hin 1 (by decide)) dL_law_866 ?_
  refine lv_aload_n hx hb dL_law_867 rfl (lv_at hl 0 rfl) ?_
  refine lv_iload hx hb dL_law_868 (lv_at hl 4 rfl) ?_
  refine lv_iconst (v := 2) hx hb dL_law_870 (by decide) ?_
  refine lv_iadd hx hb dL_law_871 ?_
  refine va_sld hx hb hX hbl hbA hC.2.2 (hin 2 (by decide)) dL_law_872 ?_
  refine mid_callVi (wa := []) (w := wM cI qm σm) (As := [.int (xs (Int32.toNatClampNeg (x4 + 1))), .int (xs (Int32.toNatClampNeg (x4 + 2)))]) (rest := [.int r1]) ⟨hx, hb, hml, hown, hts⟩ (c_X6_day l D cI qm _ σm (xs (Int32.toNatClampNeg (x4 + 1))) (xs (Int32.toNatClampNeg (x4 + 2))) _ hw) (cwV 2 hts gT_X6_day rfl rfl rfl (by decide +kernel) ⟨Nat.le_of_ble_eq_true rfl, Nat.le_of_ble_eq_true rfl⟩) hK1 hC hA 0 rfl rfl rfl rfl hl.1 rfl (Nat.le_of_ble_eq_true rfl) dL_law_873 ⟨by have := hcs.1; show cells ≤ 1069; omega, by have := hcs.2; show slots ≤ 10931; omega⟩ (fun r2 u2 H locs hw hC => ?_)
  refine lv_icmp_eq (tgt := 1009) hx hb dL_law_876 (by decide) (fun c9 => ?_) (fun c9 => ?_)
  · refine W.widen (k := cells + 1) (n := slots + 6) (Nat.le_succ _) (by omega) ?_
    exact kk u1 u2 g H locs ls hw.2 hC hl
  · exact absurd hw.1 c9
set_option maxHeartbeats 4000000 in
set_option maxRecDepth 100000 in
theorem lc_22 {p : Program} {l : Launch} {e : Env} {s : State} {m : MethodId} {below : List Frame} {meth : Method} {c : Code} {D : va_G} {cI cL : ClassId} {qx qm : Nat → Nat} {a b L i : Nat} {xs : Nat → Int32} {x4 : Int32} {σx σm : St} {g : Nat → Int64} {H : Heap} {locs : List Loc} {ls : Array Slot} {cells slots : Nat} {R : St → St → Prop} (hL : L ≤ 2560) (C0 : lw_At p s m meth c b L xs) (hK : va_K D vwCl [(cI, .int), (cL, .long)] s) (hC : Cx D (fun q : Nat => s.heap.size ≤ q) s.heap (wL cI cL qx qm a σx σm g) H locs) (hl : lv_has ls 7 [(0, .ref b), (1, .ref (qx 0)), (2, .ref (qm 0)), (3, .ref a), (4, .int x4)]) (ex4 : x4 = nI i) (hi : i + 4 < L) (hcs : cells + 1 ≤ 1069 ∧ slots + 6 ≤ 10931) (hw : w_X5_bursts σx  (fun r u => w_X6_bursts σm  (fun r2 u2 => r = r2 ∧ R u u2))) (kk : ∀ (σx σm : St) (g : Nat → Int64) (H : Heap) (locs : List Loc) (ls : Array Slot), R σx σm → Cx D (fun q : Nat => s.heap.size ≤ q) s.heap (wL cI cL qx qm a σx σm g) H locs → lv_has ls 7 [(0, .ref b), (1, .ref (qx 0)), (2, .ref (qm 0)), (3, .ref a), (4, .int x4)] → W p l e room_1 s m #[Value.ref b] below meth c H locs (cells + 1) (slots + 6) (lw_Z below #[Value.ref b] s) (F0 m 1009 ls [])) : W p l e room_1 s m #[Value.ref b] below meth c H locs cells slots (lw_Z below #[Value.ref b] s) (F0 m 881 ls []) := by
  obtain ⟨hx, hb, hr, hml, hown, hts, hX, hbl, hlocks, hgv⟩ := C0
  have hA : ∀ q : Nat, s.heap.size ≤ q → (fun q : Nat => s.heap.size ≤ q) q := fun _ h => h
  have hbA : ¬ (fun q : Nat => s.heap.size ≤ q) b := Nat.not_le.mpr hbl
  have hK1 : va_K D vwCl [(cI, .int)] s := hK.sub [0] rfl
  have hin : ∀ k : Nat, k ≤ 4 → vp_in (x4 + nI k) L := fun k hk => by rw [ex4, nI_add]; exact vp_in_nI (by omega) (by omega)
  refine lv_aload_n hx hb dL_law_881 rfl (lv_at hl 1 rfl) ?_
  refine mid_callVi (w := wX cI qx σx) (As := []) (rest := []) ⟨hx, hb, hml, hown, hts⟩ (c_X5_bursts l D cI qx _ σx  _ hw) (cwV 0 hts gT_X5_bursts rfl rfl rfl (by decide +kernel) ⟨Nat.le_of_ble_eq_true rfl, Nat.le_of_ble_eq_true rfl⟩) hK1 hC hA 0 rfl rfl rfl rfl hl.1 rfl (Nat.le_of_ble_eq_true rfl) dL_law_882 ⟨by have := hcs.1; show cells ≤ 1069; omega, by have := hcs.2; show slots ≤ 10931; omega⟩ (fun r1 u1 H locs hw hC => ?_)
  refine lv_aload_n hx hb dL_law_885 rfl (lv_at hl 2 rfl) ?_
  refine mid_callVi (wa := []) (w := wM cI qm σm) (As := []) (rest := [.int r1]) ⟨hx, hb, hml, hown, hts⟩ (c_X6_bursts l D cI qm _ σm  _ hw) (cwV 0 hts gT_X6_bursts rfl rfl rfl (by decide +kernel) ⟨Nat.le_of_ble_eq_true rfl, Nat.le_of_ble_eq_true rfl⟩) hK1 hC hA 0 rfl rfl rfl rfl hl.1 rfl (Nat.le_of_ble_eq_true rfl) dL_law_886 ⟨by have := hcs.1; show cells ≤ 1069; omega, by have := hcs.2; show slots ≤ 10931; omega⟩ (fun r2 u2 H locs hw hC => ?_)
  refine lv_icmp_eq (tgt := 1009) hx hb dL_law_889 (by decide) (fun c9 => ?_) (fun c9 => ?_)
  · refine W.widen (k := cells + 1) (n := slots + 6) (Nat.le_succ _) (by omega) ?_
    exact kk u1 u2 g H locs ls hw.2 hC hl
  · exact absurd hw.1 c9
set_option maxHeartbeats 4000000 in
set_option maxRecDepth 100000 in
theorem lc_23 {p : Program} {l : Launch} {e : Env} {s : State} {m : MethodId} {below : List Frame} {meth : Method} {c : Code} {D : va_G} {cI cL : ClassId} {qx qm : Nat → Nat} {a b L i : Nat} {xs : Nat → Int32} {x4 : Int32} {σx σm : St} {g : Nat → Int64} {H : Heap} {locs : List Loc} {ls : Array Slot} {cells slots : Nat} {R : St → St → Prop} (hL : L ≤ 2560) (C0 : lw_At p s m meth c b L xs) (hK : va_K D vwCl [(cI, .int), (cL, .long)] s) (hC : Cx D (fun q : Nat => s.heap.size ≤ q) s.heap (wL cI cL qx qm a σx σm g) H locs) (hl : lv_has ls 7 [(0, .ref b), (1, .ref (qx 0)), (2, .ref (qm 0)), (3, .ref a), (4, .int x4)]) (ex4 : x4 = nI i) (hi : i + 4 < L) (hcs : cells + 1 ≤ 1069 ∧ slots + 6 ≤ 10931) (hw : w_X5_longest σx  (fun r u => w_X6_longest σm  (fun r2 u2 => r = r2 ∧ R u u2))) (kk : ∀ (σx σm : St) (g : Nat → Int64) (H : Heap) (locs : List Loc) (ls : Array Slot), R σx σm → Cx D (fun q : Nat => s.heap.size ≤ q) s.heap (wL cI cL qx qm a σx σm g) H locs → lv_has ls 7 [(0, .ref b), (1, .ref (qx 0)), (2, .ref (qm 0)), (3, .ref a), (4, .int x4)] → W p l e room_1 s m #[Value.ref b] below meth c H locs (cells + 1) (slots + 6) (lw_Z below #[Value.ref b] s) (F0 m 1009 ls [])) : W p l e room_1 s m #[Value.ref b] below meth c H locs cells slots (lw_Z below #[Value.ref b] s) (F0 m 894 ls []) := by
  obtain ⟨hx, hb, hr, hml, hown, hts, hX, hbl, hlocks, hgv⟩ := C0
  have hA : ∀ q : Nat, s.heap.size ≤ q → (fun q : Nat => s.heap.size ≤ q) q := fun _ h => h
  have hbA : ¬ (fun q : Nat => s.heap.size ≤ q) b := Nat.not_le.mpr hbl
  have hK1 : va_K D vwCl [(cI, .int)] s := hK.sub [0] rfl
  have hin : ∀ k : Nat, k ≤ 4 → vp_in (x4 + nI k) L := fun k hk => by rw [ex4, nI_add]; exact vp_in_nI (by omega) (by omega)
  refine lv_aload_n hx hb dL_law_894 rfl (lv_at hl 1 rfl) ?_
  refine mid_callVi (w := wX cI qx σx) (As := []) (rest := []) ⟨hx, hb, hml, hown, hts⟩ (c_X5_longest l D cI qx _ σx  _ hw) (cwV 0 hts gT_X5_longest rfl rfl rfl (by decide +kernel) ⟨Nat.le_of_ble_eq_true rfl, Nat.le_of_ble_eq_true rfl⟩) hK1 hC hA 0 rfl rfl rfl rfl hl.1 rfl (Nat.le_of_ble_eq_true rfl) dL_law_895 ⟨by have := hcs.1; show cells ≤ 1069; omega, by have := hcs.2; show slots ≤ 10931; omega⟩ (fun r1 u1 H locs hw hC => ?_)
  refine lv_aload_n hx hb dL_law_898 rfl (lv_at hl 2 rfl) ?_
  refine mid_callVi (wa := []) (w := wM cI qm σm) (As := []) (rest := [.int r1]) ⟨hx, hb, hml, hown, hts⟩ (c_X6_longest l D cI qm _ σm  _ hw) (cwV 0 hts gT_X6_longest rfl rfl rfl (by decide +kernel) ⟨Nat.le_of_ble_eq_true rfl, Nat.le_of_ble_eq_true rfl⟩) hK1 hC hA 0 rfl rfl rfl rfl hl.1 rfl (Nat.le_of_ble_eq_true rfl) dL_law_899 ⟨by have := hcs.1; show cells ≤ 1069; omega, by have := hcs.2; show slots ≤ 10931; omega⟩ (fun r2 u2 H locs hw hC => ?_)
  refine lv_icmp_eq (tgt := 1009) hx hb dL_law_902 (by decide) (fun c9 => ?_) (fun c9 => ?_)
  · refine W.widen (k := cells + 1) (n := slots + 6) (Nat.le_succ _) (by omega) ?_
    exact kk u1 u2 g H locs ls hw.2 hC hl
  · exact absurd hw.1 c9
set_option maxHeartbeats 4000000 in
set_option maxRecDepth 100000 in
theorem lc_24 {p : Program} {l : Launch} {e : Env} {s : State} {m : MethodId} {below : List Frame} {meth : Method} {c : Code} {D : va_G} {cI cL : ClassId} {qx qm : Nat → Nat} {a b L i : Nat} {xs : Nat → Int32} {x4 : Int32} {σx σm : St} {g : Nat → Int64} {H : Heap} {locs : List Loc} {ls : Array Slot} {cells slots : Nat} {R : St → St → Prop} (hL : L ≤ 2560) (C0 : lw_At p s m meth c b L xs) (hK : va_K D vwCl [(cI, .int), (cL, .long)] s) (hC : Cx D (fun q : Nat => s.heap.size ≤ q) s.heap (wL cI cL qx qm a σx σm g) H locs) (hl : lv_has ls 7 [(0, .ref b), (1, .ref (qx 0)), (2, .ref (qm 0)), (3, .ref a), (4, .int x4)]) (ex4 : x4 = nI i) (hi : i + 4 < L) (hcs : cells + 1 ≤ 1069 ∧ slots + 6 ≤ 10931) (hw : w_X5_doubles σx  (fun r u => w_X6_doubles σm  (fun r2 u2 => r = r2 ∧ R u u2))) (kk : ∀ (σx σm : St) (g : Nat → Int64) (H : Heap) (locs : List Loc) (ls : Array Slot), R σx σm → Cx D (fun q : Nat => s.heap.size ≤ q) s.heap (wL cI cL qx qm a σx σm g) H locs → lv_has ls 7 [(0, .ref b), (1, .ref (qx 0)), (2, .ref (qm 0)), (3, .ref a), (4, .int x4)] → W p l e room_1 s m #[Value.ref b] below meth c H locs (cells + 1) (slots + 6) (lw_Z below #[Value.ref b] s) (F0 m 1009 ls [])) : W p l e room_1 s m #[Value.ref b] below meth c H locs cells slots (lw_Z below #[Value.ref b] s) (F0 m 907 ls []) := by
  obtain ⟨hx, hb, hr, hml, hown, hts, hX, hbl, hlocks, hgv⟩ := C0
  have hA : ∀ q : Nat, s.heap.size ≤ q → (fun q : Nat => s.heap.size ≤ q) q := fun _ h => h
  have hbA : ¬ (fun q : Nat => s.heap.size ≤ q) b := Nat.not_le.mpr hbl
  have hK1 : va_K D vwCl [(cI, .int)] s := hK.sub [0] rfl
  have hin : ∀ k : Nat, k ≤ 4 → vp_in (x4 + nI k) L := fun k hk => by rw [ex4, nI_add]; exact vp_in_nI (by omega) (by omega)
  refine lv_aload_n hx hb dL_law_907 rfl (lv_at hl 1 rfl) ?_
  refine mid_callVi (w := wX cI qx σx) (As := []) (rest := []) ⟨hx, hb, hml, hown, hts⟩ (c_X5_doubles l D cI qx _ σx  _ hw) (cwV 0 hts gT_X5_doubles rfl rfl rfl (by decide +kernel) ⟨Nat.le_of_ble_eq_true rfl, Nat.le_of_ble_eq_true rfl⟩) hK1 hC hA 0 rfl rfl rfl rfl hl.1 rfl (Nat.le_of_ble_eq_true rfl) dL_law_908 ⟨by have := hcs.1; show cells ≤ 1069; omega, by have := hcs.2; show slots ≤ 10931; omega⟩ (fun r1 u1 H locs hw hC => ?_)
  refine lv_aload_n hx hb dL_law_911 rfl (lv_at hl 2 rfl) ?_
  refine mid_callVi (wa := []) (w := wM cI qm σm) (As := []) (rest := [.int r1]) ⟨hx, hb, hml, hown, hts⟩ (c_X6_doubles l D cI qm _ σm  _ hw) (cwV 0 hts gT_X6_doubles rfl rfl rfl (by decide +kernel) ⟨Nat.le_of_ble_eq_true rfl, Nat.le_of_ble_eq_true rfl⟩) hK1 hC hA 0 rfl rfl rfl rfl hl.1 rfl (Nat.le_of_ble_eq_true rfl) dL_law_912 ⟨by have := hcs.1; show cells ≤ 1069; omega, by have := hcs.2; show slots ≤ 10931; omega⟩ (fun r2 u2 H locs hw hC => ?_)
  refine lv_icmp_eq (tgt := 1009) hx hb dL_law_915 (by decide) (fun c9 => ?_) (fun c9 => ?_)
  · refine W.widen (k := cells + 1) (n := slots + 6) (Nat.le_succ _) (by omega) ?_
    exact kk u1 u2 g H locs ls hw.2 hC hl
  · exact absurd hw.1 c9
set_option maxHeartbeats 4000000 in
set_option maxRecDepth 100000 in
theorem lc_25 {p : Program} {l : Launch} {e : Env} {s : State} {m : MethodId} {below : List Frame} {meth : Method} {c : Code} {D : va_G} {cI cL : ClassId} {qx qm : Nat → Nat} {a b L i : Nat} {xs : Nat → Int32} {x4 : Int32} {σx σm : St} {g : Nat → Int64} {H : Heap} {locs : List Loc} {ls : Array Slot} {cells slots : Nat} {R : St → St → Prop} (hL : L ≤ 2560) (C0 : lw_At p s m meth c b L xs) (hK : va_K D vwCl [(cI, .int), (cL, .long)] s) (hC : Cx D (fun q : Nat => s.heap.size ≤ q) s.heap (wL cI cL qx qm a σx σm g) H locs) (hl : lv_has ls 7 [(0, .ref b), (1, .ref (qx 0)), (2, .ref (qm 0)), (3, .ref a), (4, .int x4)]) (ex4 : x4 = nI i) (hi : i + 4 < L) (hcs : cells + 1 ≤ 1069 ∧ slots + 6 ≤ 10931) (hw : w_X5_can σx (xs (Int32.toNatClampNeg (x4 + 1))) (fun r u => w_X6_can σm (xs (Int32.toNatClampNeg (x4 + 1))) (fun r2 u2 => r = r2 ∧ R u u2))) (kk : ∀ (σx σm : St) (g : Nat → Int64) (H : Heap) (locs : List Loc) (ls : Array Slot), R σx σm → Cx D (fun q : Nat => s.heap.size ≤ q) s.heap (wL cI cL qx qm a σx σm g) H locs → lv_has ls 7 [(0, .ref b), (1, .ref (qx 0)), (2, .ref (qm 0)), (3, .ref a), (4, .int x4)] → W p l e room_1 s m #[Value.ref b] below meth c H locs (cells + 1) (slots + 6) (lw_Z below #[Value.ref b] s) (F0 m 1009 ls [])) : W p l e room_1 s m #[Value.ref b] below meth c H locs cells slots (lw_Z below #[Value.ref b] s) (F0 m 920 ls []) := by
  obtain ⟨hx, hb, hr, hml, hown, hts, hX, hbl, hlocks, hgv⟩ := C0
  have hA : ∀ q : Nat, s.heap.size ≤ q → (fun q : Nat => s.heap.size ≤ q) q := fun _ h => h
  have hbA : ¬ (fun q : Nat => s.heap.size ≤ q) b := Nat.not_le.mpr hbl
  have hK1 : va_K D vwCl [(cI, .int)] s := hK.sub [0] rfl
  have hin : ∀ k : Nat, k ≤ 4 → vp_in (x4 + nI k) L := fun k hk => by rw [ex4, nI_add]; exact vp_in_nI (by omega) (by omega)
  refine lv_aload_n hx hb dL_law_920 rfl (lv_at hl 1 rfl) ?_
  refine lv_aload_n hx hb dL_law_921 rfl (lv_at hl 0 rfl) ?_
  refine lv_iload hx hb dL_law_922 (lv_at hl 4 rfl) ?_
  refine lv_iconst (v := 1) hx hb dL_law_924 (by decide) ?_
  refine lv_iadd hx hb dL_law_925 ?_
  refine va_sld hx hb hX hbl hbA hC.2.2 (hin 1 (by decide)) dL_law_926 ?_
  refine mid_callVi (w := wX cI qx σx) (As := [.int (xs (Int32.toNatClampNeg (x4 + 1)))]) (rest := []) ⟨hx, hb, hml, hown, hts⟩ (c_X5_can l D cI qx _ σx (xs (Int32.toNatClampNeg (x4 + 1))) _ hw) (cwV 1 hts gT_X5_can rfl rfl rfl (by decide +kernel) ⟨Nat.le_of_ble_eq_true rfl, Nat.le_of_ble_eq_true rfl⟩) hK1 hC hA 0 rfl rfl rfl rfl hl.1 rfl (Nat.le_of_ble_eq_true rfl) dL_law_927 ⟨by have := hcs.1; show cells ≤ 1069; omega, by have := hcs.2; show slots ≤ 10931; omega⟩ (fun r1 u1 H locs hw hC => ?_)
  refine lv_aload_n hx hb dL_law_930 rfl (lv_at hl 2 rfl) ?_
  refine lv_aload_n hx hb dL_law_931 rfl (lv_at hl 0 rfl) ?_
  refine lv_iload hx hb dL_law_932 (lv_at hl 4 rfl) ?_
  refine lv_iconst (v := 1) hx hb dL_law_934 (by decide) ?_
  refine lv_iadd hx hb dL_law_935 ?_
  refine va_sld hx hb hX hbl hbA hC.2.2 (hin 1 (by decide)) dL_law_936 ?_
  refine mid_callVi (wa := []) (w := wM cI qm σm) (As := [.int (xs (Int32.toNatClampNeg (x4 + 1)))]) (rest := [.int r1]) ⟨hx, hb, hml, hown, hts⟩ (c_X6_can l D cI qm _ σm (xs (Int32.toNatClampNeg (x4 + 1))) _ hw) (cwV 1 hts gT_X6_can rfl rfl rfl (by decide +kernel) ⟨Nat.le_of_ble_eq_true rfl, Nat.le_of_ble_eq_true rfl⟩) hK1 hC hA 0 rfl rfl rfl rfl hl.1 rfl (Nat.le_of_ble_eq_true rfl) dL_law_937 ⟨by have := hcs.1; show cells ≤ 1069; omega, by have := hcs.2; show slots ≤ 10931; omega⟩ (fun r2 u2 H locs hw hC => ?_)
  refine lv_icmp_eq (tgt := 1009) hx hb dL_law_940 (by decide) (fun c9 => ?_) (fun c9 => ?_)
  · refine W.widen (k := cells + 1) (n := slots + 6) (Nat.le_succ _) (by omega) ?_
    exact kk u1 u2 g H locs ls hw.2 hC hl
  · exact absurd hw.1 c9
set_option maxHeartbeats 4000000 in
set_option maxRecDepth 100000 in
theorem lc_26 {p : Program} {l : Launch} {e : Env} {s : State} {m : MethodId} {below : List Frame} {meth : Method} {c : Code} {D : va_G} {cI cL : ClassId} {qx qm : Nat → Nat} {a b L i : Nat} {xs : Nat → Int32} {x4 : Int32} {σx σm : St} {g : Nat → Int64} {H : Heap} {locs : List Loc} {ls : Array Slot} {cells slots : Nat} {R : St → St → Prop} (hL : L ≤ 2560) (C0 : lw_At p s m meth c b L xs) (hK : va_K D vwCl [(cI, .int), (cL, .long)] s) (hC : Cx D (fun q : Nat => s.heap.size ≤ q) s.heap (wL cI cL qx qm a σx σm g) H locs) (hl : lv_has ls 7 [(0, .ref b), (1, .ref (qx 0)), (2, .ref (qm 0)), (3, .ref a), (4, .int x4)]) (ex4 : x4 = nI i) (hi : i + 4 < L) (hcs : cells + 1 ≤ 1069 ∧ slots + 6 ≤ 10931) (hw : w_X5_found σx  (fun r u => w_X6_found σm  (fun r2 u2 => r = r2 ∧ R u u2))) (kk : ∀ (σx σm : St) (g : Nat → Int64) (H : Heap) (locs : List Loc) (ls : Array Slot), R σx σm → Cx D (fun q : Nat => s.heap.size ≤ q) s.heap (wL cI cL qx qm a σx σm g) H locs → lv_has ls 7 [(0, .ref b), (1, .ref (qx 0)), (2, .ref (qm 0)), (3, .ref a), (4, .int x4)] → W p l e room_1 s m #[Value.ref b] below meth c H locs (cells + 1) (slots + 6) (lw_Z below #[Value.ref b] s) (F0 m 1009 ls [])) : W p l e room_1 s m #[Value.ref b] below meth c H locs cells slots (lw_Z below #[Value.ref b] s) (F0 m 945 ls []) := by
  obtain ⟨hx, hb, hr, hml, hown, hts, hX, hbl, hlocks, hgv⟩ := C0
  have hA : ∀ q : Nat, s.heap.size ≤ q → (fun q : Nat => s.heap.size ≤ q) q := fun _ h => h
  have hbA : ¬ (fun q : Nat => s.heap.size ≤ q) b := Nat.not_le.mpr hbl
  have hK1 : va_K D vwCl [(cI, .int)] s := hK.sub [0] rfl
  have hin : ∀ k : Nat, k ≤ 4 → vp_in (x4 + nI k) L := fun k hk => by rw [ex4, nI_add]; exact vp_in_nI (by omega) (by omega)
  refine lv_aload_n hx hb dL_law_945 rfl (lv_at hl 1 rfl) ?_
  refine mid_callVi (w := wX cI qx σx) (As := []) (rest := []) ⟨hx, hb, hml, hown, hts⟩ (c_X5_found l D cI qx _ σx  _ hw) (cwV 0 hts gT_X5_found rfl rfl rfl (by decide +kernel) ⟨Nat.le_of_ble_eq_true rfl, Nat.le_of_ble_eq_true rfl⟩) hK1 hC hA 0 rfl rfl rfl rfl hl.1 rfl (Nat.le_of_ble_eq_true rfl) dL_law_946 ⟨by have := hcs.1; show cells ≤ 1069; omega, by have := hcs.2; show slots ≤ 10931; omega⟩ (fun r1 u1 H locs hw hC => ?_)
  refine lv_aload_n hx hb dL_law_949 rfl (lv_at hl 2 rfl) ?_
  refine mid_callVi (wa := []) (w := wM cI qm σm) (As := []) (rest := [.int r1]) ⟨hx, hb, hml, hown, hts⟩ (c_X6_found l D cI qm _ σm  _ hw) (cwV 0 hts gT_X6_found rfl rfl rfl (by decide +kernel) ⟨Nat.le_of_ble_eq_true rfl, Nat.le_of_ble_eq_true rfl⟩) hK1 hC hA 0 rfl rfl rfl rfl hl.1 rfl (Nat.le_of_ble_eq_true rfl) dL_law_950 ⟨by have := hcs.1; show cells ≤ 1069; omega, by have := hcs.2; show slots ≤ 10931; omega⟩ (fun r2 u2 H locs hw hC => ?_)
  refine lv_icmp_eq (tgt := 1009) hx hb dL_law_953 (by decide) (fun c9 => ?_) (fun c9 => ?_)
  · refine W.widen (k := cells + 1) (n := slots + 6) (Nat.le_succ _) (by omega) ?_
    exact kk u1 u2 g H locs ls hw.2 hC hl
  · exact absurd hw.1 c9
set_option maxHeartbeats 4000000 in
set_option maxRecDepth 100000 in
theorem lc_27 {p : Program} {l : Launch} {e : Env} {s : State} {m : MethodId} {below : List Frame} {meth : Method} {c : Code} {D : va_G} {cI cL : ClassId} {qx qm : Nat → Nat} {a b L i : Nat} {xs : Nat → Int32} {x4 : Int32} {σx σm : St} {g : Nat → Int64} {H : Heap} {locs : List Loc} {ls : Array Slot} {cells slots : Nat} {R : St → St → Prop} (hL : L ≤ 2560) (C0 : lw_At p s m meth c b L xs) (hK : va_K D vwCl [(cI, .int), (cL, .long)] s) (hC : Cx D (fun q : Nat => s.heap.size ≤ q) s.heap (wL cI cL qx qm a σx σm g) H locs) (hl : lv_has ls 7 [(0, .ref b), (1, .ref (qx 0)), (2, .ref (qm 0)), (3, .ref a), (4, .int x4)]) (ex4 : x4 = nI i) (hi : i + 4 < L) (hcs : cells + 1 ≤ 1069 ∧ slots + 6 ≤ 10931) (hw : w_X5_strange σx  (fun r u => w_X6_strange σm  (fun r2 u2 => r = r2 ∧ R u u2))) (kk : ∀ (σx σm : St) (g : Nat → Int64) (H : Heap) (locs : List Loc) (ls : Array Slot), R σx σm → Cx D (fun q : Nat => s.heap.size ≤ q) s.heap (wL cI cL qx qm a σx σm g) H locs → lv_has ls 7 [(0, .ref b), (1, .ref (qx 0)), (2, .ref (qm 0)), (3, .ref a), (4, .int x4)] → W p l e room_1 s m #[Value.ref b] below meth c H locs (cells + 1) (slots + 6) (lw_Z below #[Value.ref b] s) (F0 m 1009 ls [])) : W p l e room_1 s m #[Value.ref b] below meth c H locs cells slots (lw_Z below #[Value.ref b] s) (F0 m 958 ls []) := by
  obtain ⟨hx, hb, hr, hml, hown, hts, hX, hbl, hlocks, hgv⟩ := C0
  have hA : ∀ q : Nat, s.heap.size ≤ q → (fun q : Nat => s.heap.size ≤ q) q := fun _ h => h
  have hbA : ¬ (fun q : Nat => s.heap.size ≤ q) b := Nat.not_le.mpr hbl
  have hK1 : va_K D vwCl [(cI, .int)] s := hK.sub [0] rfl
  have hin : ∀ k : Nat, k ≤ 4 → vp_in (x4 + nI k) L := fun k hk => by rw [ex4, nI_add]; exact vp_in_nI (by omega) (by omega)
  refine lv_aload_n hx hb dL_law_958 rfl (lv_at hl 1 rfl) ?_
  refine mid_callVi (w := wX cI qx σx) (As := []) (rest := []) ⟨hx, hb, hml, hown, hts⟩ (c_X5_strange l D cI qx _ σx  _ hw) (cwV 0 hts gT_X5_strange rfl rfl rfl (by decide +kernel) ⟨Nat.le_of_ble_eq_true rfl, Nat.le_of_ble_eq_true rfl⟩) hK1 hC hA 0 rfl rfl rfl rfl hl.1 rfl (Nat.le_of_ble_eq_true rfl) dL_law_959 ⟨by have := hcs.1; show cells ≤ 1069; omega, by have := hcs.2; show slots ≤ 10931; omega⟩ (fun r1 u1 H locs hw hC => ?_)
  refine lv_aload_n hx hb dL_law_962 rfl (lv_at hl 2 rfl) ?_
  refine mid_callVi (wa := []) (w := wM cI qm σm) (As := []) (rest := [.int r1]) ⟨hx, hb, hml, hown, hts⟩ (c_X6_strange l D cI qm _ σm  _ hw) (cwV 0 hts gT_X6_strange rfl rfl rfl (by decide +kernel) ⟨Nat.le_of_ble_eq_true rfl, Nat.le_of_ble_eq_true rfl⟩) hK1 hC hA 0 rfl rfl rfl rfl hl.1 rfl (Nat.le_of_ble_eq_true rfl) dL_law_963 ⟨by have := hcs.1; show cells ≤ 1069; omega, by have := hcs.2; show slots ≤ 10931; omega⟩ (fun r2 u2 H locs hw hC => ?_)
  refine lv_icmp_eq (tgt := 1009) hx hb dL_law_966 (by decide) (fun c9 => ?_) (fun c9 => ?_)
  · refine W.widen (k := cells + 1) (n := slots + 6) (Nat.le_succ _) (by omega) ?_
    exact kk u1 u2 g H locs ls hw.2 hC hl
  · exact absurd hw.1 c9
set_option maxHeartbeats 4000000 in
set_option maxRecDepth 100000 in
theorem lc_28 {p : Program} {l : Launch} {e : Env} {s : State} {m : MethodId} {below : List Frame} {meth : Method} {c : Code} {D : va_G} {cI cL : ClassId} {qx qm : Nat → Nat} {a b L i : Nat} {xs : Nat → Int32} {x4 : Int32} {σx σm : St} {g : Nat → Int64} {H : Heap} {locs : List Loc} {ls : Array Slot} {cells slots : Nat} {R : St → St → Prop} (hL : L ≤ 2560) (C0 : lw_At p s m meth c b L xs) (hK : va_K D vwCl [(cI, .int), (cL, .long)] s) (hC : Cx D (fun q : Nat => s.heap.size ≤ q) s.heap (wL cI cL qx qm a σx σm g) H locs) (hl : lv_has ls 7 [(0, .ref b), (1, .ref (qx 0)), (2, .ref (qm 0)), (3, .ref a), (4, .int x4)]) (ex4 : x4 = nI i) (hi : i + 4 < L) (hcs : cells + 1 ≤ 1069 ∧ slots + 6 ≤ 10931) (hw : w_X5_count σx (xs (Int32.toNatClampNeg (x4 + 1))) (fun r u => w_X6_count σm (xs (Int32.toNatClampNeg (x4 + 1))) (fun r2 u2 => r = r2 ∧ R u u2))) (kk : ∀ (σx σm : St) (g : Nat → Int64) (H : Heap) (locs : List Loc) (ls : Array Slot), R σx σm → Cx D (fun q : Nat => s.heap.size ≤ q) s.heap (wL cI cL qx qm a σx σm g) H locs → lv_has ls 7 [(0, .ref b), (1, .ref (qx 0)), (2, .ref (qm 0)), (3, .ref a), (4, .int x4)] → W p l e room_1 s m #[Value.ref b] below meth c H locs (cells + 1) (slots + 6) (lw_Z below #[Value.ref b] s) (F0 m 1009 ls [])) : W p l e room_1 s m #[Value.ref b] below meth c H locs cells slots (lw_Z below #[Value.ref b] s) (F0 m 971 ls []) := by
  obtain ⟨hx, hb, hr, hml, hown, hts, hX, hbl, hlocks, hgv⟩ := C0
  have hA : ∀ q : Nat, s.heap.size ≤ q → (fun q : Nat => s.heap.size ≤ q) q := fun _ h => h
  have hbA : ¬ (fun q : Nat => s.heap.size ≤ q) b := Nat.not_le.mpr hbl
  have hK1 : va_K D vwCl [(cI, .int)] s := hK.sub [0] rfl
  have hin : ∀ k : Nat, k ≤ 4 → vp_in (x4 + nI k) L := fun k hk => by rw [ex4, nI_add]; exact vp_in_nI (by omega) (by omega)
  refine lv_aload_n hx hb dL_law_971 rfl (lv_at hl 1 rfl) ?_
  refine lv_aload_n hx hb dL_law_972 rfl (lv_at hl 0 rfl) ?_
  refine lv_iload hx hb dL_law_973 (lv_at hl 4 rfl) ?_
  refine lv_iconst (v := 1) hx hb dL_law_975 (by decide) ?_
  refine lv_iadd hx hb dL_law_976 ?_
  refine va_sld hx hb hX hbl hbA hC.2.2 (hin 1 (by decide)) dL_law_977 ?_
  refine mid_callVi (w := wX cI qx σx) (As := [.int (xs (Int32.toNatClampNeg (x4 + 1)))]) (rest := []) ⟨hx, hb, hml, hown, hts⟩ (c_X5_count l D cI qx _ σx (xs (Int32.toNatClampNeg (x4 + 1))) _ hw) (cwV 1 hts gT_X5_count rfl rfl rfl (by decide +kernel) ⟨Nat.le_of_ble_eq_true rfl, Nat.le_of_ble_eq_true rfl⟩) hK1 hC hA 0 rfl rfl rfl rfl hl.1 rfl (Nat.le_of_ble_eq_true rfl) dL_law_978 ⟨by have := hcs.1; show cells ≤ 1069; omega, by have := hcs.2; show slots ≤ 10931; omega⟩ (fun r1 u1 H locs hw hC => ?_)
  refine lv_aload_n hx hb dL_law_981 rfl (lv_at hl 2 rfl) ?_
  refine lv_aload_n hx hb dL_law_982 rfl (lv_at hl 0 rfl) ?_
  refine lv_iload hx hb dL_law_983 (lv_at hl 4 rfl) ?_
  refine lv_iconst (v := 1) hx hb dL_law_985 (by decide) ?_
  refine lv_iadd hx hb dL_law_986 ?_
  refine va_sld hx hb hX hbl hbA hC.2.2 (hin 1 (by decide)) dL_law_987 ?_
  refine mid_callVi (wa := []) (w := wM cI qm σm) (As := [.int (xs (Int32.toNatClampNeg (x4 + 1)))]) (rest := [.int r1]) ⟨hx, hb, hml, hown, hts⟩ (c_X6_count l D cI qm _ σm (xs (Int32.toNatClampNeg (x4 + 1))) _ hw) (cwV 1 hts gT_X6_count rfl rfl rfl (by decide +kernel) ⟨Nat.le_of_ble_eq_true rfl, Nat.le_of_ble_eq_true rfl⟩) hK1 hC hA 0 rfl rfl rfl rfl hl.1 rfl (Nat.le_of_ble_eq_true rfl) dL_law_988 ⟨by have := hcs.1; show cells ≤ 1069; omega, by have := hcs.2; show slots ≤ 10931; omega⟩ (fun r2 u2 H locs hw hC => ?_)
  refine lv_icmp_eq (tgt := 1009) hx hb dL_law_991 (by decide) (fun c9 => ?_) (fun c9 => ?_)
  · refine W.widen (k := cells + 1) (n := slots + 6) (Nat.le_succ _) (by omega) ?_
    exact kk u1 u2 g H locs ls hw.2 hC hl
  · exact absurd hw.1 c9
set_option maxHeartbeats 4000000 in
set_option maxRecDepth 100000 in
theorem lc_29 {p : Program} {l : Launch} {e : Env} {s : State} {m : MethodId} {below : List Frame} {meth : Method} {c : Code} {D : va_G} {cI cL : ClassId} {qx qm : Nat → Nat} {a b L i : Nat} {xs : Nat → Int32} {x4 : Int32} {σx σm : St} {g : Nat → Int64} {H : Heap} {locs : List Loc} {ls : Array Slot} {cells slots : Nat} {R : St → St → Prop} (hL : L ≤ 2560) (C0 : lw_At p s m meth c b L xs) (hK : va_K D vwCl [(cI, .int), (cL, .long)] s) (hC : Cx D (fun q : Nat => s.heap.size ≤ q) s.heap (wL cI cL qx qm a σx σm g) H locs) (hl : lv_has ls 7 [(0, .ref b), (1, .ref (qx 0)), (2, .ref (qm 0)), (3, .ref a), (4, .int x4)]) (ex4 : x4 = nI i) (hi : i + 4 < L) (hcs : cells + 1 ≤ 1069 ∧ slots + 6 ≤ 10931) (hw : w_X5_trouble σx  (fun r u => w_X6_trouble σm  (fun r2 u2 => r = r2 ∧ R u u2))) (kk : ∀ (σx σm : St) (g : Nat → Int64) (H : Heap) (locs : List Loc) (ls : Array Slot), R σx σm → Cx D (fun q : Nat => s.heap.size ≤ q) s.heap (wL cI cL qx qm a σx σm g) H locs → lv_has ls 7 [(0, .ref b), (1, .ref (qx 0)), (2, .ref (qm 0)), (3, .ref a), (4, .int x4)] → W p l e room_1 s m #[Value.ref b] below meth c H locs (cells + 1) (slots + 6) (lw_Z below #[Value.ref b] s) (F0 m 1009 ls [])) : W p l e room_1 s m #[Value.ref b] below meth c H locs cells slots (lw_Z below #[Value.ref b] s) (F0 m 996 ls []) := by
  obtain ⟨hx, hb, hr, hml, hown, hts, hX, hbl, hlocks, hgv⟩ := C0
  have hA : ∀ q : Nat, s.heap.size ≤ q → (fun q : Nat => s.heap.size ≤ q) q := fun _ h => h
  have hbA : ¬ (fun q : Nat => s.heap.size ≤ q) b := Nat.not_le.mpr hbl
  have hK1 : va_K D vwCl [(cI, .int)] s := hK.sub [0] rfl
  have hin : ∀ k : Nat, k ≤ 4 → vp_in (x4 + nI k) L := fun k hk => by rw [ex4, nI_add]; exact vp_in_nI (by omega) (by omega)
  refine lv_aload_n hx hb dL_law_996 rfl (lv_at hl 1 rfl) ?_
  refine mid_callVi (w := wX cI qx σx) (As := []) (rest := []) ⟨hx, hb, hml, hown, hts⟩ (c_X5_trouble l D cI qx _ σx  _ hw) (cwV 0 hts gT_X5_trouble rfl rfl rfl (by decide +kernel) ⟨Nat.le_of_ble_eq_true rfl, Nat.le_of_ble_eq_true rfl⟩) hK1 hC hA 0 rfl rfl rfl rfl hl.1 rfl (Nat.le_of_ble_eq_true rfl) dL_law_997 ⟨by have := hcs.1; show cells ≤ 1069; omega, by have := hcs.2; show slots ≤ 10931; omega⟩ (fun r1 u1 H locs hw hC => ?_)
  refine lv_aload_n hx hb dL_law_1000 rfl (lv_at hl 2 rfl) ?_
  refine mid_callVi (wa := []) (w := wM cI qm σm) (As := []) (rest := [.int r1]) ⟨hx, hb, hml, hown, hts⟩ (c_X6_trouble l D cI qm _ σm  _ hw) (cwV 0 hts gT_X6_trouble rfl rfl rfl (by decide +kernel) ⟨Nat.le_of_ble_eq_true rfl, Nat.le_of_ble_eq_true rfl⟩) hK1 hC hA 0 rfl rfl rfl rfl hl.1 rfl (Nat.le_of_ble_eq_true rfl) dL_law_1001 ⟨by have := hcs.1; show cells ≤ 1069; omega, by have := hcs.2; show slots ≤ 10931; omega⟩ (fun r2 u2 H locs hw hC => ?_)
  refine lv_icmp_eq (tgt := 1009) hx hb dL_law_1004 (by decide) (fun c9 => ?_) (fun c9 => ?_)
  · refine W.widen (k := cells + 1) (n := slots + 6) (Nat.le_succ _) (by omega) ?_
    exact kk u1 u2 g H locs ls hw.2 hC hl
  · exact absurd hw.1 c9
set_option maxHeartbeats 4000000 in
set_option maxRecDepth 100000 in
theorem lc_18 {p : Program} {l : Launch} {e : Env} {s : State} {m : MethodId} {below : List Frame} {meth : Method} {c : Code} {D : va_G} {cI cL : ClassId} {qx qm : Nat → Nat} {a b L i : Nat} {xs : Nat → Int32} {x4 : Int32} {σx σm : St} {g : Nat → Int64} {H : Heap} {locs : List Loc} {ls : Array Slot} {cells slots : Nat} {R : St → St → Prop} {sa : Nat} (hL : L ≤ 2560) (C0 : lw_At p s m meth c b L xs) (hK : va_K D vwCl [(cI, .int), (cL, .long)] s) (hC : Cx D (fun q : Nat => s.heap.size ≤ q) s.heap (wL cI cL qx qm a σx σm g) H locs) (hl : lv_has ls 7 [(0, .ref b), (1, .ref (qx 0)), (2, .ref (qm 0)), (3, .ref a), (4, .int x4)]) (ex4 : x4 = nI i) (hi : i + 4 < L) (hcs : cells + 1 ≤ 1069 ∧ slots + 6 ≤ 10931) (hlt : l.stackTraces = false) (hT : Thr (fun q : Nat => s.heap.size ≤ q) sa s) (hw : w_L_row (σx, g) (xs (Int32.toNatClampNeg (x4 + 1))) (fun k u => w_X6_row σm (xs (Int32.toNatClampNeg (x4 + 1))) (fun b v => w_X6_thrown v (fun t v2 => t = k ∧ (k = 0 → lg_cmp (u.2 (Int32.toNatClampNeg 0)) b.toInt64 = 0) ∧ R u.1 v2)))) (kk : ∀ (σx σm : St) (g : Nat → Int64) (H : Heap) (locs : List Loc) (ls : Array Slot), R σx σm → Cx D (fun q : Nat => s.heap.size ≤ q) s.heap (wL cI cL qx qm a σx σm g) H locs → lv_has ls 7 [(0, .ref b), (1, .ref (qx 0)), (2, .ref (qm 0)), (3, .ref a), (4, .int x4)] → W p l e room_1 s m #[Value.ref b] below meth c H locs (cells + 1) (slots + 6) (lw_Z below #[Value.ref b] s) (F0 m 1009 ls [])) : W p l e room_1 s m #[Value.ref b] below meth c H locs cells slots (lw_Z below #[Value.ref b] s) (F0 m 750 ls []) := by
  obtain ⟨hx, hb, hr, hml, hown, hts, hX, hbl, hlocks, hgv⟩ := C0
  have hA : ∀ q : Nat, s.heap.size ≤ q → (fun q : Nat => s.heap.size ≤ q) q := fun _ h => h
  have hbA : ¬ (fun q : Nat => s.heap.size ≤ q) b := Nat.not_le.mpr hbl
  have hK1 : va_K D vwCl [(cI, .int)] s := hK.sub [0] rfl
  have hin : ∀ k : Nat, k ≤ 4 → vp_in (x4 + nI k) L := fun k hk => by rw [ex4, nI_add]; exact vp_in_nI (by omega) (by omega)
  refine lv_aload_n hx hb dL_law_750 rfl (lv_at hl 1 rfl) ?_
  refine lv_aload_n hx hb dL_law_751 rfl (lv_at hl 0 rfl) ?_
  refine lv_iload hx hb dL_law_752 (lv_at hl 4 rfl) ?_
  refine lv_iconst (v := 1) hx hb dL_law_754 (by decide) ?_
  refine lv_iadd hx hb dL_law_755 ?_
  refine va_sld hx hb hX hbl hbA hC.2.2 (hin 1 (by decide)) dL_law_756 ?_
  refine lv_aload_n hx hb dL_law_757 rfl (lv_at hl 3 rfl) ?_
  have hC2 : Cx D (fun q : Nat => s.heap.size ≤ q) s.heap (wM cI qm σm ++ (wXo cI cL qx a (σx, g) ++ [])) H locs := by rw [List.append_nil]; exact hC
  have hF := mid_free hC2 hA
  refine va_calli (vx_runSW (As := [.ref (qx 0), .int (xs (Int32.toNatClampNeg (x4 + 1))), .ref a]) (rest := []) ⟨hx, hb, hml, hown, hts⟩ (c_L_row l hlt D cI cL qx a H.size sa (σx, g) _ _ hw) (vx_cwSW 3 hts gT_L_row rfl rfl rfl (by decide +kernel) ⟨Nat.le_of_ble_eq_true rfl, Nat.le_of_ble_eq_true rfl⟩)
    ⟨fun a9 U g9 mk q9 => ⟨q9.1, ⟨q9.2.1.1, q9.2.1.2.1, va_K.moved (u := U) (U := U.calling g9 mk a9) (Vm.Alike.refl U.vm) q9.2.1.2.2.1, q9.2.1.2.2.2⟩, thr_blind q9.2.2⟩, fun U hU hW => ⟨rfl, ⟨by rw [hU], by rw [hU]; exact mid_P hC2, va_K.moved hW.alike hK, (mid_D hC2).weaken (fun _ _ _ _ => trivial)⟩, thr_warm hT hW hU hC2.2.2 hF⟩⟩ rfl rfl hl.1 rfl (lv_room (Nat.le_of_ble_eq_true rfl)) dL_law_758 hcs) hC.2.2 (fun q _ h => hF q h) hF (fun k u t H1 locs1 ht hvm hw hB hz1 hk1 hS1 => ?_)
  obtain ⟨hP1, hKt, hD1⟩ := hB
  rw [ht] at hP1
  have hC3 := cx_mid hC2 hA hk1 hP1 hD1 hS1
  rw [List.append_nil] at hC3
  have hC : Cx D (fun q : Nat => s.heap.size ≤ q) s.heap (wM cI qm σm ++ (wX cI qx u.1 ++ wo cL a u.2)) H1 locs1 := hC3
  refine lv_istore (lv' := [(5, .int k), (0, .ref b), (1, .ref (qx 0)), (2, .ref (qm 0)), (3, .ref a), (4, .int x4)]) hx hb dL_law_761 hl (by decide) rfl (fun ls hl => ?_)
  refine lv_aload_n hx hb dL_law_763 rfl (lv_at hl 3 rfl) ?_
  refine lv_aload_n hx hb dL_law_764 rfl (lv_at hl 1 rfl) ?_
  refine lv_iload hx hb dL_law_765 (lv_at hl 5 rfl) ?_
  refine lv_iconst (v := 1) hx hb dL_law_767 (by decide) ?_
  refine lv_iadd hx hb dL_law_768 ?_
  refine va_sld hx hb hX hbl hbA hC.2.2 (hin 1 (by decide)) dL_law_769 ?_
  refine mid_callVi (wa := []) (w := wM cI qm σm) (As := [.int (xs (Int32.toNatClampNeg (x4 + 1)))]) (rest := []) ⟨hx, hb, hml, hown, hts⟩ (c_X6_row l D cI qm _ σm _ _ hw) (cwV 1 hts gT_X6_row rfl rfl rfl (by decide +kernel) ⟨Nat.le_of_ble_eq_true rfl, Nat.le_of_ble_eq_true rfl⟩) hK1 hC hA 0 rfl rfl rfl rfl hl.1 rfl (Nat.le_of_ble_eq_true rfl) dL_law_770 hcs (fun b2 v H locs hw hC => ?_)
  refine lv_istore (lv' := [(6, .int b2), (5, .int k), (0, .ref b), (1, .ref (qx 0)), (2, .ref (qm 0)), (3, .ref a), (4, .int x4)]) hx hb dL_law_773 hl (by decide) rfl (fun ls hl => ?_)
  refine lv_aload_n hx hb dL_law_775 rfl (lv_at hl 4 rfl) ?_
  refine mid_callVi (wa := []) (w := wM cI qm v) (As := []) (rest := []) ⟨hx, hb, hml, hown, hts⟩ (c_X6_thrown l D cI qm _ v _ hw) (cwV 0 hts gT_X6_thrown rfl rfl rfl (by decide +kernel) ⟨Nat.le_of_ble_eq_true rfl, Nat.le_of_ble_eq_true rfl⟩) hK1 hC hA 0 rfl rfl rfl rfl hl.1 rfl (Nat.le_of_ble_eq_true rfl) dL_law_776 hcs (fun t2 v2 H locs hw hC => ?_)
  have hC : Cx D (fun q : Nat => s.heap.size ≤ q) s.heap (wM cI qm v2 ++ (wX cI qx u.1 ++ wo cL a u.2)) H locs := hC
  refine lv_iload hx hb dL_law_779 (lv_at hl 1 rfl) ?_
  refine lv_icmp_eq (tgt := 786) hx hb dL_law_781 (by decide) (fun c9 => ?_) (fun c9 => absurd hw.1 c9)
  refine lv_iload hx hb dL_law_786 (lv_at hl 1 rfl) ?_
  have hl5 : lv_has ls 7 [(0, .ref b), (1, .ref (qx 0)), (2, .ref (qm 0)), (3, .ref a), (4, .int x4)] := lv_sub hl [2, 3, 4, 5, 6] rfl
  refine lv_if_ne (tgt := 803) hx hb dL_law_788 (by decide) (fun c8 => ?_) (fun c8 => ?_)
  · refine lv_goto (tgt := 1009) hx hb dL_law_803 (by decide) ?_
    exact kk u.1 v2 u.2 H locs ls hw.2.2 hC hl5
  · refine lv_aload_n hx hb dL_law_791 rfl (lv_at hl 5 rfl) ?_
    refine lv_iconst (v := 0) hx hb dL_law_792 (by decide) ?_
    refine va_lald (D := D) (cl := vwCl) (tys := [(cI, .int), (cL, .long)]) (ws := wM cI qm v2 ++ (wX cI qx u.1 ++ wo cL a u.2)) (f := u.2) hx hb hK hC.1 43 1 rfl rfl (by unfold vp_in; decide) dL_law_793 ?_
    refine lv_iload hx hb dL_law_794 (lv_at hl 0 rfl) ?_
    refine lv_i2l (v := b2.toInt64) hx hb dL_law_796 rfl ?_
    refine W.lcmp hx hb dL_law_797 ?_
    refine lv_if_eq (tgt := 803) hx hb dL_law_798 (by decide) (fun c7 => ?_) (fun c7 => absurd (hw.2.1 c8) c7)
    refine lv_goto (tgt := 1009) hx hb dL_law_803 (by decide) ?_
    exact kk u.1 v2 u.2 H locs ls hw.2.2 hC hl5
