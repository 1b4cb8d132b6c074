/-! a state of numbers and of arrays; the context of a walk; contracts of the two kinds that the class and the reference need -/
abbrev St : Type := (Nat → Int32) × (Nat → Nat → Int32)
def Cx (D : va_G) (A : Nat → Prop) (H0 : Heap) (ws : va_W) (H : Heap) (locs : List Loc) : Prop := va_P D vwCl ws H ∧ va_D A ws ∧ va_S A H0 H locs
def Pw (D : va_G) (cI : ClassId) (ws : va_W) (sz : Nat) : State → Prop := fun U => U.heap.size = sz ∧ va_P D vwCl ws U.heap ∧ va_K D vwCl [(cI, .int)] U ∧ va_D (fun _ => True) ws
def Bw {S : Type} (D : va_G) (cI : ClassId) (A : Nat → Prop) (wf : S → va_W) : S → State → Prop := fun u t => va_P D vwCl (wf u) t.heap ∧ va_K D vwCl [(cI, .int)] t ∧ va_D A (wf u)
abbrev Rm (fr lo : Nat) : Room := { frames := fr, cells := 0, slots := 0, locals := lo }
abbrev Ci (l : Launch) (y : MethodName) (ws : List Cond) (fr lo : Nat) (D : va_G) (cI : ClassId) (wc : va_W) (sz : Nat) (As : List Value) {S : Type} (wf : S → va_W) (post : Int32 → S → Prop) : Prop :=
  Met l y ws (Rm fr lo) (va_Pc As (Pw D cI wc sz)) (va_Qi post (Bw D cI (va_A wc sz) wf) (va_A wc sz)) 0 0 (va_A wc sz)
abbrev Cv (l : Launch) (y : MethodName) (ws : List Cond) (fr lo : Nat) (D : va_G) (cI : ClassId) (wc : va_W) (sz : Nat) (As : List Value) {S : Type} (wf : S → va_W) (post : S → Prop) : Prop :=
  Met l y ws (Rm fr lo) (va_Pc As (Pw D cI wc sz)) (va_Qv post (Bw D cI (va_A wc sz) wf) (va_A wc sz)) 0 0 (va_A wc sz)
theorem pw_blind {D : va_G} {cI : ClassId} {ws : va_W} {sz : Nat} {As : List Value} : FrameBlind (va_Pc As (Pw D cI ws sz)) := fun a U g mk q => by
  obtain ⟨q0, q1, qP, qK, qD⟩ := q
  exact ⟨q0, q1, qP, va_K.moved (u := U) (U := U.calling g mk a) (Vm.Alike.refl U.vm) qK, qD⟩
section BASE
variable {p : Program} {l : Launch} {e : Env} {R : Room} {s : State} {m : MethodId} {args : Array Value} {below : List Frame} {meth : Method} {c : Code} {H : Heap} {locs : List Loc} {cells slots : Nat} {Q : State → Prop}
variable {cc : ByteArray} {pc : Nat} {ls : Array Slot} {rest : List Value} {D : va_G} {cI : ClassId} {A : Nat → Prop} {a : Nat} {ws : va_W} {H0 : Heap}
theorem cx_get (hexec : p.tables.exec = Jvm.exec) (hb : c.code = cc) {own ref C : String} {T : u_T} {N ci index : Nat} {Ts : List Cond} (hts : ∀ w ∈ Ts, w.before args s = true) (hin : ∀ w ∈ u_ws C T N, w ∈ Ts) (hown : s.vm.findClass own = some m.cls) (hK : va_K D vwCl [(cI, .int)] s) (hC : Cx D A H0 ws H locs) (q0 : Nat) {fs : List Value} (he : ws[q0]? = some (a, .inr (ci, fs))) (hc : vwCl[ci]? = some (C, T, N)) (k : Nat) (hk : k < N) (hlink : (Cond.fieldLink own index ref (T k).2.1 (T k).2.2.1).before args s = true) (hsame : (T k).1 = ref) {v : Value} (hv : fs[k]? = some v) (hdg : decode cc pc = .ok (.getfield index, 3))
    (kk : W p l e R s m args below meth c H locs cells slots Q (F0 m (pc + 3) ls (v :: rest))) : W p l e R s m args below meth c H locs cells slots Q (F0 m pc ls (.ref a :: rest)) :=
  va_get (D := D) (cl := vwCl) hexec hb hts hin hown hK hC.1 q0 he hc k hk hlink (fun x hx => by rw [← hsame]; exact hx) hv hdg kk
theorem cx_put (hexec : p.tables.exec = Jvm.exec) (hb : c.code = cc) {own ref C : String} {T : u_T} {N ci index : Nat} {Ts : List Cond} (hts : ∀ w ∈ Ts, w.before args s = true) (hin : ∀ w ∈ u_ws C T N, w ∈ Ts) (ty0 : Nat → FieldType) (hty : ∀ k, k < N → parseFieldDescriptor (T k).2.2.1 = some (ty0 k)) (hnm : ∀ a, a < N → ∀ b, b < N → a ≠ b → (T a).2.1 ≠ (T b).2.1) (hown : s.vm.findClass own = some m.cls) (hK : va_K D vwCl [(cI, .int)] s) (hC : Cx D A H0 ws H locs) (q0 : Nat) {fs : List Value} (he : ws[q0]? = some (a, .inr (ci, fs))) (hc : vwCl[ci]? = some (C, T, N)) (k : Nat) (hk : k < N) (hlink : (Cond.fieldLink own index ref (T k).2.1 (T k).2.2.1).before args s = true) (hsame : (T k).1 = ref) (hfin : (T k).2.2.2 = false) {ty : FieldType} {v : Value} (hd : parseFieldDescriptor (T k).2.2.1 = some ty) (hn : narrow ty v = v) (hfit : fits ty v = true) (hl : k < fs.length) (hdg : decode cc pc = .ok (.putfield index, 3)) {ws' : va_W} (hset : ws.set q0 (a, .inr (ci, fs.set k v)) = ws')
    (kk : ∀ (H : Heap) (locs : List Loc), Cx D A H0 ws' H locs → W p l e R s m args below meth c H locs cells slots Q (F0 m (pc + 3) ls rest)) : W p l e R s m args below meth c H locs cells slots Q (F0 m pc ls (v :: .ref a :: rest)) := by
  subst hset
  exact va_put (D := D) (cl := vwCl) hexec hb hts hin ty0 hty hnm hown hK hC.1 hC.2.1 hC.2.2 q0 he hc k hk hlink (fun x hx => by rw [← hsame]; exact hx) hfin hd hn hfit hl hdg (fun H1 locs1 h1 h2 h3 => kk H1 locs1 ⟨h1, h2, h3⟩)
theorem cx_iald (hexec : p.tables.exec = Jvm.exec) (hb : c.code = cc) (hK : va_K D vwCl [(cI, .int)] s) (hC : Cx D A H0 ws H locs) (q0 : Nat) {n : Nat} {f : Nat → Int32} (ha : ws[q0]? = some (a, .inl (cI, n, .inl f))) {i : Int32} (hin : vp_in i n) (hdg : decode cc pc = .ok (.iaload, 1))
    (kk : W p l e R s m args below meth c H locs cells slots Q (F0 m (pc + 1) ls (.int (f i.toNatClampNeg) :: rest))) : W p l e R s m args below meth c H locs cells slots Q (F0 m pc ls (.int i :: .ref a :: rest)) :=
  va_iald (D := D) (cl := vwCl) hexec hb hK hC.1 q0 0 ha rfl hin hdg kk
theorem cx_iast (hexec : p.tables.exec = Jvm.exec) (hb : c.code = cc) (hK : va_K D vwCl [(cI, .int)] s) (hC : Cx D A H0 ws H locs) (q0 : Nat) {n : Nat} {f : Nat → Int32} (ha : ws[q0]? = some (a, .inl (cI, n, .inl f))) {i : Int32} {x : Int32} (hin : vp_in i n) (hdg : decode cc pc = .ok (.iastore, 1)) {ws' : va_W} (hset : ws.set q0 (a, .inl (cI, n, .inl (upd f i.toNatClampNeg x))) = ws')
    (kk : ∀ (H : Heap) (locs : List Loc), Cx D A H0 ws' H locs → W p l e R s m args below meth c H locs cells slots Q (F0 m (pc + 1) ls rest)) : W p l e R s m args below meth c H locs cells slots Q (F0 m pc ls (.int x :: .int i :: .ref a :: rest)) := by
  subst hset
  exact va_iast (D := D) (cl := vwCl) hexec hb hK hC.1 hC.2.1 hC.2.2 q0 0 ha rfl hin hdg (fun H1 locs1 h1 h2 h3 => kk H1 locs1 ⟨h1, h2, h3⟩)
theorem cx_alen (hexec : p.tables.exec = Jvm.exec) (hb : c.code = cc) (hK : va_K D vwCl [(cI, .int)] s) (hC : Cx D A H0 ws H locs) (q0 : Nat) {n : Nat} {f : Nat → Int32} (ha : ws[q0]? = some (a, .inl (cI, n, .inl f))) {v : Int32} (hv : Int32.ofNat n = v) (hdg : decode cc pc = .ok (.arraylength, 1))
    (kk : W p l e R s m args below meth c H locs cells slots Q (F0 m (pc + 1) ls (.int v :: rest))) : W p l e R s m args below meth c H locs cells slots Q (F0 m pc ls (.ref a :: rest)) :=
  va_alen (D := D) (cl := vwCl) hexec hb hK hC.1 q0 0 ha (ty := .int) rfl hv hdg kk
theorem cx_ret_i {S : Type} {wf : S → va_W} {post : Int32 → S → Prop} {u : S} {v : Int32} (hx : p.tables.exec = Jvm.exec) (hb : c.code = cc) (hr : meth.sig.returnType = some .int) (hlocks : meth.locks = false) (hK : va_K D vwCl [(cI, .int)] s) (hC : Cx D A s.heap (wf u) H locs) (hp : post v u) (hdg : decode cc pc = .ok (.ireturn, 1)) :
    W p l e R s m args below meth c H locs 0 0 (MQ below (va_Qi post (Bw D cI A wf) A) args s 0 0 A) (F0 m pc ls [.int v]) :=
  W.iret (v := v) hx hb hr (fun t ht hW => ⟨⟨v, u, rfl, hp, by rw [ht]; exact hC.1, va_K.moved hW.alike hK, hC.2.1⟩, hC.2.2.F ht⟩) hC.2.2.2.2 hdg hlocks
theorem cx_ret_z {S : Type} {wf : S → va_W} {post : Int32 → S → Prop} {u : S} {v : Int32} (hx : p.tables.exec = Jvm.exec) (hb : c.code = cc) (hr : meth.sig.returnType = some .boolean) (hlocks : meth.locks = false) (hK : va_K D vwCl [(cI, .int)] s) (hC : Cx D A s.heap (wf u) H locs) (hn : narrow .boolean (.int v) = .int v) (hp : post v u) (hdg : decode cc pc = .ok (.ireturn, 1)) :
    W p l e R s m args below meth c H locs 0 0 (MQ below (va_Qi post (Bw D cI A wf) A) args s 0 0 A) (F0 m pc ls [.int v]) :=
  W.zret (v := v) hx hb hr hn (fun t ht hW => ⟨⟨v, u, rfl, hp, by rw [ht]; exact hC.1, va_K.moved hW.alike hK, hC.2.1⟩, hC.2.2.F ht⟩) hC.2.2.2.2 hdg hlocks
theorem cx_ret_v {S : Type} {wf : S → va_W} {post : S → Prop} {u : S} (hx : p.tables.exec = Jvm.exec) (hb : c.code = cc) (hr : meth.sig.returnType = none) (hlocks : meth.locks = false) (hK : va_K D vwCl [(cI, .int)] s) (hC : Cx D A s.heap (wf u) H locs) (hp : post u) (hdg : decode cc pc = .ok (.return_, 1)) :
    W p l e R s m args below meth c H locs 0 0 (MQ below (va_Qv post (Bw D cI A wf) A) args s 0 0 A) (F0 m pc ls []) :=
  W.vret hx hb hr (fun t ht hW => ⟨⟨u, rfl, hp, by rw [ht]; exact hC.1, va_K.moved hW.alike hK, hC.2.1⟩, hC.2.2.F ht⟩) hC.2.2.2.2 hdg hlocks
/-- a call over a part of the world: what comes before it, and what behind it -/
theorem cx_pre {wc : va_W} (hK : va_K D vwCl [(cI, .int)] s) (hC : Cx D A H0 ws H locs) (isC : List Nat) (hnC : va_nd isC = true) (hc : isC.map (fun i => ws[i]?) = wc.map some) {As : List Value} : ∀ U : State, U.heap = H → s.WarmedH U.vm → va_Pc As (Pw D cI wc H.size) As.toArray U := fun U hU hW =>
  ⟨rfl, by rw [hU], by rw [hU]; intro k q hk; exact (by
    have h1 : (isC.map (fun i => ws[i]?))[k]? = some (some q) := by rw [hc, List.getElem?_map, hk]; rfl
    rw [List.getElem?_map] at h1
    cases hi : isC[k]? with
    | none => rw [hi] at h1; cases h1
    | some i => rw [hi] at h1; exact hC.1 i q (Option.some.inj h1)), va_K.moved hW.alike hK, (hC.2.1.sub isC hnC hc).weaken (fun _ _ _ _ => trivial)⟩
theorem cx_post {wc wr w1 ws' : va_W} {H1 : Heap} {locs1 : List Loc} (hC : Cx D A H0 ws H locs) (isC isR : List Nat) (hc : isC.map (fun i => ws[i]?) = wc.map some) (hR : isR.map (fun i => ws[i]?) = wr.map some) (hn : va_nd isR = true) (hdis : ∀ i ∈ isR, i ∉ isC) (hA : ∀ q, H0.size ≤ q → A q)
    (hk : ∀ q : Nat, q < H.size → ¬ va_A wc H.size q → H1[q]? = H[q]?) (hP1 : va_P D vwCl w1 H1) (hD1 : va_D (va_A wc H.size) w1) (hS1 : va_S A H0 H1 locs1) (is2 : List Nat) (hn2 : va_nd is2 = true) (h2 : is2.map (fun i => (wr ++ w1)[i]?) = ws'.map some) : Cx D A H0 ws' H1 locs1 := by
  obtain ⟨hP, hD⟩ := va_join hC.1 hC.2.1 isC isR hc hR hn hdis hk (va_free hC.2.1 hC.2.2 hA isC hc) hP1 hD1
  refine ⟨?_, hD.sub is2 hn2 h2, hS1⟩
  intro k q hk
  have h1 : (is2.map (fun i => (wr ++ w1)[i]?))[k]? = some (some q) := by rw [h2, List.getElem?_map, hk]; rfl
  rw [List.getElem?_map] at h1
  cases hi : is2[k]? with
  | none => rw [hi] at h1; cases h1
  | some i => rw [hi] at h1; exact hP i q (Option.some.inj h1)
variable {y : MethodName} {bytes : ByteArray} {maxL nL n index fr lo : Nat} {ret : Option FieldType} {wsy : List Cond} {Ts : List Cond} {own C : String} {b : Addr} {As st0 : List Value}
theorem cx_callVi {S : Type} {wf : S → va_W} {post : Int32 → S → Prop} {wc wr : va_W} {ws' : S → va_W} (S0 : CallFix p m c cc nL s args Ts own) (hM : Ci l y wsy fr lo D cI wc H.size (.ref b :: As) wf post) (cw : CallW R s args own C index y bytes maxL ret wsy (Rm fr lo) 0 0 n) (hK : va_K D vwCl [(cI, .int)] s) (hC : Cx D A s.heap ws H locs) (hA : ∀ q, s.heap.size ≤ q → A q)
    (isC isR : List Nat) (hnC : va_nd isC = true) (hc : isC.map (fun i => ws[i]?) = wc.map some) (hR : isR.map (fun i => ws[i]?) = wr.map some) (hn : va_nd isR = true) (hdis : ∀ i ∈ isR, i ∉ isC) (q0 : Nat) {ci : Nat} {fs : List Value} (he : ws[q0]? = some (b, .inr (ci, fs))) {q : vw_C} (hcl : vwCl[ci]? = some q) (hq : q.1 = C)
    (hlen : As.length = n) (hl : ls.size = nL) (hst : st0 = As.reverse ++ .ref b :: rest) (hW : (rest.map fun v => v.category).sum ≤ 8) (hdg : decode cc pc = .ok (.invokevirtual index, 3)) (hf : cells ≤ R.cells ∧ slots ≤ R.slots) (is2 : List Nat) (hn2 : va_nd is2 = true) (h2 : ∀ u, is2.map (fun i => (wr ++ wf u)[i]?) = (ws' u).map some)
    (kk : ∀ (r : Int32) (u : S) (H : Heap) (locs : List Loc), post r u → Cx D A s.heap (ws' u) H locs → W p l e R s m args below meth c H locs cells slots Q (F0 m (pc + 3) ls (.int r :: rest))) : W p l e R s m args below meth c H locs cells slots Q (F0 m pc ls st0) := by
  subst hst
  subst hq
  have hF := va_free hC.2.1 hC.2.2 hA isC hc
  refine va_calli (va_runV (As := As) (rest := rest) S0 hM cw ⟨pw_blind, va_recv (ws := ws) hK hC.1 hcl he, cx_pre hK hC isC hnC hc⟩ rfl hlen hl rfl (lv_room hW) hdg hf) hC.2.2 (fun q _ h => hF q h) hF (fun r u t H1 locs1 ht hvm hw hB hz1 hk1 hS1 => ?_)
  obtain ⟨hP1, hK1, hD1⟩ := hB
  rw [ht] at hP1
  exact kk r u H1 locs1 hw (cx_post hC isC isR hc hR hn hdis hA hk1 hP1 hD1 hS1 is2 hn2 (h2 u))
theorem cx_callVv {S : Type} {wf : S → va_W} {post : S → Prop} {wc wr : va_W} {ws' : S → va_W} (S0 : CallFix p m c cc nL s args Ts own) (hM : Cv l y wsy fr lo D cI wc H.size (.ref b :: As) wf post) (cw : CallW R s args own C index y bytes maxL ret wsy (Rm fr lo) 0 0 n) (hK : va_K D vwCl [(cI, .int)] s) (hC : Cx D A s.heap ws H locs) (hA : ∀ q, s.heap.size ≤ q → A q)
    (isC isR : List Nat) (hnC : va_nd isC = true) (hc : isC.map (fun i => ws[i]?) = wc.map some) (hR : isR.map (fun i => ws[i]?) = wr.map some) (hn : va_nd isR = true) (hdis : ∀ i ∈ isR, i ∉ isC) (q0 : Nat) {ci : Nat} {fs : List Value} (he : ws[q0]? = some (b, .inr (ci, fs))) {q : vw_C} (hcl : vwCl[ci]? = some q) (hq : q.1 = C)
    (hlen : As.length = n) (hl : ls.size = nL) (hst : st0 = As.reverse ++ .ref b :: rest) (hW : (rest.map fun v => v.category).sum ≤ 8) (hdg : decode cc pc = .ok (.invokevirtual index, 3)) (hf : cells ≤ R.cells ∧ slots ≤ R.slots) (is2 : List Nat) (hn2 : va_nd is2 = true) (h2 : ∀ u, is2.map (fun i => (wr ++ wf u)[i]?) = (ws' u).map some)
    (kk : ∀ (u : S) (H : Heap) (locs : List Loc), post u → Cx D A s.heap (ws' u) H locs → W p l e R s m args below meth c H locs cells slots Q (F0 m (pc + 3) ls rest)) : W p l e R s m args below meth c H locs cells slots Q (F0 m pc ls st0) := by
  subst hst
  subst hq
  have hF := va_free hC.2.1 hC.2.2 hA isC hc
  refine va_callv (va_runV (As := As) (rest := rest) S0 hM cw ⟨pw_blind, va_recv (ws := ws) hK hC.1 hcl he, cx_pre hK hC isC hnC hc⟩ rfl hlen hl rfl (lv_room hW) hdg hf) hC.2.2 (fun q _ h => hF q h) hF (fun u t H1 locs1 ht hvm hw hB hz1 hk1 hS1 => ?_)
  obtain ⟨hP1, hK1, hD1⟩ := hB
  rw [ht] at hP1
  exact kk u H1 locs1 hw (cx_post hC isC isR hc hR hn hdis hA hk1 hP1 hD1 hS1 is2 hn2 (h2 u))
theorem cx_callSi {S : Type} {wf : S → va_W} {post : Int32 → S → Prop} {wc wr : va_W} {ws' : S → va_W} (S0 : CallFix p m c cc nL s args Ts own) (hM : Ci l y wsy fr lo D cI wc H.size As wf post) (cw : CallB R s args own index y bytes maxL ret wsy (Rm fr lo) 0 0 n ∧ (Cond.static y).before args s = true) (hK : va_K D vwCl [(cI, .int)] s) (hC : Cx D A s.heap ws H locs) (hA : ∀ q, s.heap.size ≤ q → A q)
    (isC isR : List Nat) (hnC : va_nd isC = true) (hc : isC.map (fun i => ws[i]?) = wc.map some) (hR : isR.map (fun i => ws[i]?) = wr.map some) (hn : va_nd isR = true) (hdis : ∀ i ∈ isR, i ∉ isC)
    (hlen : As.length = n) (hl : ls.size = nL) (hst : st0 = As.reverse ++ rest) (hW : (rest.map fun v => v.category).sum ≤ 8) (hdg : decode cc pc = .ok (.invokestatic index, 3)) (hf : cells ≤ R.cells ∧ slots ≤ R.slots) (is2 : List Nat) (hn2 : va_nd is2 = true) (h2 : ∀ u, is2.map (fun i => (wr ++ wf u)[i]?) = (ws' u).map some)
    (kk : ∀ (r : Int32) (u : S) (H : Heap) (locs : List Loc), post r u → Cx D A s.heap (ws' u) H locs → W p l e R s m args below meth c H locs cells slots Q (F0 m (pc + 3) ls (.int r :: rest))) : W p l e R s m args below meth c H locs cells slots Q (F0 m pc ls st0) := by
  subst hst
  have hF := va_free hC.2.1 hC.2.2 hA isC hc
  refine va_calli (va_runS (As := As) (rest := rest) S0 hM cw ⟨pw_blind, cx_pre hK hC isC hnC hc⟩ rfl hlen hl rfl (lv_room hW) hdg hf) hC.2.2 (fun q _ h => hF q h) hF (fun r u t H1 locs1 ht hvm hw hB hz1 hk1 hS1 => ?_)
  obtain ⟨hP1, hK1, hD1⟩ := hB
  rw [ht] at hP1
  exact kk r u H1 locs1 hw (cx_post hC isC isR hc hR hn hdis hA hk1 hP1 hD1 hS1 is2 hn2 (h2 u))
theorem cx_callSv {S : Type} {wf : S → va_W} {post : S → Prop} {wc wr : va_W} {ws' : S → va_W} (S0 : CallFix p m c cc nL s args Ts own) (hM : Cv l y wsy fr lo D cI wc H.size As wf post) (cw : CallB R s args own index y bytes maxL ret wsy (Rm fr lo) 0 0 n ∧ (Cond.static y).before args s = true) (hK : va_K D vwCl [(cI, .int)] s) (hC : Cx D A s.heap ws H locs) (hA : ∀ q, s.heap.size ≤ q → A q)
    (isC isR : List Nat) (hnC : va_nd isC = true) (hc : isC.map (fun i => ws[i]?) = wc.map some) (hR : isR.map (fun i => ws[i]?) = wr.map some) (hn : va_nd isR = true) (hdis : ∀ i ∈ isR, i ∉ isC)
    (hlen : As.length = n) (hl : ls.size = nL) (hst : st0 = As.reverse ++ rest) (hW : (rest.map fun v => v.category).sum ≤ 8) (hdg : decode cc pc = .ok (.invokestatic index, 3)) (hf : cells ≤ R.cells ∧ slots ≤ R.slots) (is2 : List Nat) (hn2 : va_nd is2 = true) (h2 : ∀ u, is2.map (fun i => (wr ++ wf u)[i]?) = (ws' u).map some)
    (kk : ∀ (u : S) (H : Heap) (locs : List Loc), post u → Cx D A s.heap (ws' u) H locs → W p l e R s m args below meth c H locs cells slots Q (F0 m (pc + 3) ls rest)) : W p l e R s m args below meth c H locs cells slots Q (F0 m pc ls st0) := by
  subst hst
  have hF := va_free hC.2.1 hC.2.2 hA isC hc
  refine va_callv (va_runS (As := As) (rest := rest) S0 hM cw ⟨pw_blind, cx_pre hK hC isC hnC hc⟩ rfl hlen hl rfl (lv_room hW) hdg hf) hC.2.2 (fun q _ h => hF q h) hF (fun u t H1 locs1 ht hvm hw hB hz1 hk1 hS1 => ?_)
  obtain ⟨hP1, hK1, hD1⟩ := hB
  rw [ht] at hP1
  exact kk u H1 locs1 hw (cx_post hC isC isR hc hR hn hdis hA hk1 hP1 hD1 hS1 is2 hn2 (h2 u))
theorem cx_free (hC : Cx D A s.heap ws H locs) (hA : ∀ q, s.heap.size ≤ q → A q) : ∀ q, va_A ws H.size q → A q := by
  rintro q (⟨k, e, h⟩ | h)
  · exact hC.2.1.2 k _ h
  · exact hA q (Nat.le_trans hC.2.2.1 h)
theorem cx_pre0 (hK : va_K D vwCl [(cI, .int)] s) (hC : Cx D A H0 ws H locs) {As : List Value} : ∀ U : State, U.heap = H → s.WarmedH U.vm → va_Pc As (Pw D cI ws H.size) As.toArray U := fun U hU hW =>
  ⟨rfl, by rw [hU], by rw [hU]; exact hC.1, va_K.moved hW.alike hK, hC.2.1.weaken (fun _ _ _ _ => trivial)⟩
theorem cx_callVi0 {S : Type} {wf : S → va_W} {post : Int32 → S → Prop} (S0 : CallFix p m c cc nL s args Ts own) (hM : Ci l y wsy fr lo D cI ws H.size (.ref b :: As) wf post) (cw : CallW R s args own C index y bytes maxL ret wsy (Rm fr lo) 0 0 n) (hK : va_K D vwCl [(cI, .int)] s) (hC : Cx D A s.heap ws H locs) (hA : ∀ q, s.heap.size ≤ q → A q) (q0 : Nat) {ci : Nat} {fs : List Value} (he : ws[q0]? = some (b, .inr (ci, fs))) {q : vw_C} (hcl : vwCl[ci]? = some q) (hq : q.1 = C)
    (hlen : As.length = n) (hl : ls.size = nL) (hst : st0 = As.reverse ++ .ref b :: rest) (hW : (rest.map fun v => v.category).sum ≤ 8) (hdg : decode cc pc = .ok (.invokevirtual index, 3)) (hf : cells ≤ R.cells ∧ slots ≤ R.slots)
    (kk : ∀ (r : Int32) (u : S) (H : Heap) (locs : List Loc), post r u → Cx D A s.heap (wf u) H locs → W p l e R s m args below meth c H locs cells slots Q (F0 m (pc + 3) ls (.int r :: rest))) : W p l e R s m args below meth c H locs cells slots Q (F0 m pc ls st0) := by
  subst hst
  subst hq
  have hF := cx_free hC hA
  refine va_calli (va_runV (As := As) (rest := rest) S0 hM cw ⟨pw_blind, va_recv (ws := ws) hK hC.1 hcl he, cx_pre0 hK hC⟩ rfl hlen hl rfl (lv_room hW) hdg hf) hC.2.2 (fun q _ h => hF q h) hF (fun r u t H1 locs1 ht hvm hw hB hz1 hk1 hS1 => ?_)
  obtain ⟨hP1, hK1, hD1⟩ := hB
  rw [ht] at hP1
  exact kk r u H1 locs1 hw ⟨hP1, hD1.weaken (fun k q _ h => hF q.1 h), hS1⟩
theorem cx_callVv0 {S : Type} {wf : S → va_W} {post : S → Prop} (S0 : CallFix p m c cc nL s args Ts own) (hM : Cv l y wsy fr lo D cI ws H.size (.ref b :: As) wf post) (cw : CallW R s args own C index y bytes maxL ret wsy (Rm fr lo) 0 0 n) (hK : va_K D vwCl [(cI, .int)] s) (hC : Cx D A s.heap ws H locs) (hA : ∀ q, s.heap.size ≤ q → A q) (q0 : Nat) {ci : Nat} {fs : List Value} (he : ws[q0]? = some (b, .inr (ci, fs))) {q : vw_C} (hcl : vwCl[ci]? = some q) (hq : q.1 = C)
    (hlen : As.length = n) (hl : ls.size = nL) (hst : st0 = As.reverse ++ .ref b :: rest) (hW : (rest.map fun v => v.category).sum ≤ 8) (hdg : decode cc pc = .ok (.invokevirtual index, 3)) (hf : cells ≤ R.cells ∧ slots ≤ R.slots)
    (kk : ∀ (u : S) (H : Heap) (locs : List Loc), post u → Cx D A s.heap (wf u) H locs → W p l e R s m args below meth c H locs cells slots Q (F0 m (pc + 3) ls rest)) : W p l e R s m args below meth c H locs cells slots Q (F0 m pc ls st0) := by
  subst hst
  subst hq
  have hF := cx_free hC hA
  refine va_callv (va_runV (As := As) (rest := rest) S0 hM cw ⟨pw_blind, va_recv (ws := ws) hK hC.1 hcl he, cx_pre0 hK hC⟩ rfl hlen hl rfl (lv_room hW) hdg hf) hC.2.2 (fun q _ h => hF q h) hF (fun u t H1 locs1 ht hvm hw hB hz1 hk1 hS1 => ?_)
  obtain ⟨hP1, hK1, hD1⟩ := hB
  rw [ht] at hP1
  exact kk u H1 locs1 hw ⟨hP1, hD1.weaken (fun k q _ h => hF q.1 h), hS1⟩
theorem cx_callSi0 {S : Type} {wf : S → va_W} {post : Int32 → S → Prop} (S0 : CallFix p m c cc nL s args Ts own) (hM : Ci l y wsy fr lo D cI ws H.size As wf post) (cw : CallB R s args own index y bytes maxL ret wsy (Rm fr lo) 0 0 n ∧ (Cond.static y).before args s = true) (hK : va_K D vwCl [(cI, .int)] s) (hC : Cx D A s.heap ws H locs) (hA : ∀ q, s.heap.size ≤ q → A q)
    (hlen : As.length = n) (hl : ls.size = nL) (hst : st0 = As.reverse ++ rest) (hW : (rest.map fun v => v.category).sum ≤ 8) (hdg : decode cc pc = .ok (.invokestatic index, 3)) (hf : cells ≤ R.cells ∧ slots ≤ R.slots)
    (kk : ∀ (r : Int32) (u : S) (H : Heap) (locs : List Loc), post r u → Cx D A s.heap (wf u) H locs → W p l e R s m args below meth c H locs cells slots Q (F0 m (pc + 3) ls (.int r :: rest))) : W p l e R s m args below meth c H locs cells slots Q (F0 m pc ls st0) := by
  subst hst
  have hF := cx_free hC hA
  refine va_calli (va_runS (As := As) (rest := rest) S0 hM cw ⟨pw_blind, cx_pre0 hK hC⟩ rfl hlen hl rfl (lv_room hW) hdg hf) hC.2.2 (fun q _ h => hF q h) hF (fun r u t H1 locs1 ht hvm hw hB hz1 hk1 hS1 => ?_)
  obtain ⟨hP1, hK1, hD1⟩ := hB
  rw [ht] at hP1
  exact kk r u H1 locs1 hw ⟨hP1, hD1.weaken (fun k q _ h => hF q.1 h), hS1⟩
theorem cx_callSv0 {S : Type} {wf : S → va_W} {post : S → Prop} (S0 : CallFix p m c cc nL s args Ts own) (hM : Cv l y wsy fr lo D cI ws H.size As wf post) (cw : CallB R s args own index y bytes maxL ret wsy (Rm fr lo) 0 0 n ∧ (Cond.static y).before args s = true) (hK : va_K D vwCl [(cI, .int)] s) (hC : Cx D A s.heap ws H locs) (hA : ∀ q, s.heap.size ≤ q → A q)
    (hlen : As.length = n) (hl : ls.size = nL) (hst : st0 = As.reverse ++ rest) (hW : (rest.map fun v => v.category).sum ≤ 8) (hdg : decode cc pc = .ok (.invokestatic index, 3)) (hf : cells ≤ R.cells ∧ slots ≤ R.slots)
    (kk : ∀ (u : S) (H : Heap) (locs : List Loc), post u → Cx D A s.heap (wf u) H locs → W p l e R s m args below meth c H locs cells slots Q (F0 m (pc + 3) ls rest)) : W p l e R s m args below meth c H locs cells slots Q (F0 m pc ls st0) := by
  subst hst
  have hF := cx_free hC hA
  refine va_callv (va_runS (As := As) (rest := rest) S0 hM cw ⟨pw_blind, cx_pre0 hK hC⟩ rfl hlen hl rfl (lv_room hW) hdg hf) hC.2.2 (fun q _ h => hF q h) hF (fun u t H1 locs1 ht hvm hw hB hz1 hk1 hS1 => ?_)
  obtain ⟨hP1, hK1, hD1⟩ := hB
  rw [ht] at hP1
  exact kk u H1 locs1 hw ⟨hP1, hD1.weaken (fun k q _ h => hF q.1 h), hS1⟩
theorem cx_callSiE {post : Int32 → Unit → Prop} (S0 : CallFix p m c cc nL s args Ts own) (hM : Ci l y wsy fr lo D cI [] H.size As (fun _ : Unit => []) post) (cw : CallB R s args own index y bytes maxL ret wsy (Rm fr lo) 0 0 n ∧ (Cond.static y).before args s = true) (hK : va_K D vwCl [(cI, .int)] s) (hC : Cx D A s.heap ws H locs) (hA : ∀ q, s.heap.size ≤ q → A q)
    (hlen : As.length = n) (hl : ls.size = nL) (hst : st0 = As.reverse ++ rest) (hW : (rest.map fun v => v.category).sum ≤ 8) (hdg : decode cc pc = .ok (.invokestatic index, 3)) (hf : cells ≤ R.cells ∧ slots ≤ R.slots)
    (kk : ∀ (r : Int32) (H : Heap) (locs : List Loc), post r () → Cx D A s.heap ws H locs → W p l e R s m args below meth c H locs cells slots Q (F0 m (pc + 3) ls (.int r :: rest))) : W p l e R s m args below meth c H locs cells slots Q (F0 m pc ls st0) := by
  subst hst
  have hE : Cx D A s.heap [] H locs := ⟨fun k q h => by simp at h, ⟨fun i j p q h => by simp at h, fun k q h => by simp at h⟩, hC.2.2⟩
  have hF := cx_free hE hA
  refine va_calli (va_runS (As := As) (rest := rest) S0 hM cw ⟨pw_blind, cx_pre0 hK hE⟩ rfl hlen hl rfl (lv_room hW) hdg hf) hC.2.2 (fun q _ h => hF q h) hF (fun r u t H1 locs1 ht hvm hw hB hz1 hk1 hS1 => ?_)
  refine kk r H1 locs1 hw ⟨hC.1.kept (fun k q hq => hk1 q.1 (hC.1 k q hq).lt ?_), hC.2.1, hS1⟩
  rintro (⟨k2, e2, h2⟩ | h2)
  · simp at h2
  · exact absurd (hC.1 k q hq).lt (Nat.not_lt.mpr h2)
theorem cx_copyi (hexec : p.tables.exec = Jvm.exec) (hb : c.code = cc) (hml : c.maxLocals = ls.size) (hown : s.vm.findClass own = some m.cls) (hlink : (Cond.methodLink own index arraycopyName).before args s = true) (hnat : (Cond.native arraycopyName).before args s = true) (hstat : (Cond.static arraycopyName).before args s = true) (hini : (Cond.initialized "java/lang/System").before args s = true)
    (hK : va_K D vwCl [(cI, .int)] s) (hC : Cx D A H0 ws H locs) (q0 q1 : Nat) {a0 : Nat} {n0 n1 : Nat} {f g : Nat → Int32} (ha0 : ws[q0]? = some (a0, .inl (cI, n0, .inl f))) (ha1 : ws[q1]? = some (a, .inl (cI, n1, .inl g)))
    {sp dp n : Int32} (h1 : ¬ sp < 0) (h2 : ¬ dp < 0) (h3 : ¬ n < 0) (h4 : sp.toNatClampNeg + n.toNatClampNeg ≤ n0) (h5 : dp.toNatClampNeg + n.toNatClampNeg ≤ n1)
    (hframes : 1 ≤ R.frames) (hlocals : (rest.map fun v => v.category).sum + (nativeFrameWords "java/lang/System" "arraycopy" 5 + 11) ≤ R.locals) (hdg : decode cc pc = .ok (.invokestatic index, 3)) {ws' : va_W} (hset : ws.set q1 (a, .inl (cI, n1, .inl (va_cpy f g sp.toNatClampNeg dp.toNatClampNeg n.toNatClampNeg))) = ws')
    (kk : ∀ (H : Heap) (locs : List Loc), Cx D A H0 ws' H locs → W p l e R s m args below meth c H locs cells slots Q (F0 m (pc + 3) ls rest)) : W p l e R s m args below meth c H locs cells slots Q (F0 m pc ls (.int n :: .int dp :: .ref a :: .int sp :: .ref a0 :: rest)) := by
  subst hset
  exact va_copyi (D := D) (cl := vwCl) hexec hb hml hown hlink hnat hstat hini hK hC.1 hC.2.1 hC.2.2 q0 q1 0 0 ha0 ha1 (ty := .int) rfl rfl rfl h1 h2 h3 h4 h5 (fun _ _ => rfl) hframes hlocals hdg (fun H1 locs1 h1 h2 h3 => kk H1 locs1 ⟨h1, h2, h3⟩)
end BASE
section BODY
variable {l : Launch} {y : MethodName} {ws ws' : List Cond} {fr lo : Nat} {D : va_G} {cI : ClassId} {wc : va_W} {sz : Nat} {As : List Value} {cc : ByteArray} {maxL : Nat} {ret : Option FieldType}
/-- a method's body, from its entry -/
theorem mo_i {S : Type} {wf : S → va_W} {post : Int32 → S → Prop} (hy : plainName y.cls = true) (hw : ws = Cond.code y cc maxL ret :: ws') (hlen : (lg_sl As).length ≤ maxL)
    (body : ∀ (p : Program) (e : Env) (s : State) (m : MethodId) (below : List Frame) (meth : Method) (c : Code), p.tables.exec = Jvm.exec → c.code = cc → meth.sig.returnType = ret → c.maxLocals = maxL → (∀ w ∈ ws, w.before As.toArray s = true) → s.vm.findClass y.cls = some m.cls → meth.locks = false → va_K D vwCl [(cI, .int)] s → ∀ (A : Nat → Prop), (∀ q, s.heap.size ≤ q → A q) → Cx D A s.heap wc s.heap [] → ∀ ls, lv_has ls maxL (lv_args 0 As) →
      W p l e (Rm fr lo) s m As.toArray below meth c s.heap [] 0 0 (MQ below (va_Qi post (Bw D cI A wf) A) As.toArray s 0 0 A) (F0 m 0 ls [])) : Ci l y ws fr lo D cI wc sz As wf post := by
  refine Met.ofW (cc := cc) (maxL := maxL) (ret := ret) hy hw ?_
  intro p e s m args below meth c s₁ B hml hv
  obtain ⟨rfl, hsz, hP, hK, hD0⟩ := hv
  subst hsz
  rw [lg_entry_eq]
  exact body p e s m below meth c B.exec B.bytes B.returns hml (atoms_spec (ws := ws) B.pre) (findClass_of_methodNamed B.named) B.notSynchronized hK (va_A wc s.heap.size) (fun q h => Or.inr h) ⟨hP, hD0.self (sz := s.heap.size), va_S.rf⟩ _ (lv_entry As hlen)
theorem mo_v {S : Type} {wf : S → va_W} {post : S → Prop} (hy : plainName y.cls = true) (hw : ws = Cond.code y cc maxL ret :: ws') (hlen : (lg_sl As).length ≤ maxL)
    (body : ∀ (p : Program) (e : Env) (s : State) (m : MethodId) (below : List Frame) (meth : Method) (c : Code), p.tables.exec = Jvm.exec → c.code = cc → meth.sig.returnType = ret → c.maxLocals = maxL → (∀ w ∈ ws, w.before As.toArray s = true) → s.vm.findClass y.cls = some m.cls → meth.locks = false → va_K D vwCl [(cI, .int)] s → ∀ (A : Nat → Prop), (∀ q, s.heap.size ≤ q → A q) → Cx D A s.heap wc s.heap [] → ∀ ls, lv_has ls maxL (lv_args 0 As) →
      W p l e (Rm fr lo) s m As.toArray below meth c s.heap [] 0 0 (MQ below (va_Qv post (Bw D cI A wf) A) As.toArray s 0 0 A) (F0 m 0 ls [])) : Cv l y ws fr lo D cI wc sz As wf post := by
  refine Met.ofW (cc := cc) (maxL := maxL) (ret := ret) hy hw ?_
  intro p e s m args below meth c s₁ B hml hv
  obtain ⟨rfl, hsz, hP, hK, hD0⟩ := hv
  subst hsz
  rw [lg_entry_eq]
  exact body p e s m below meth c B.exec B.bytes B.returns hml (atoms_spec (ws := ws) B.pre) (findClass_of_methodNamed B.named) B.notSynchronized hK (va_A wc s.heap.size) (fun q h => Or.inr h) ⟨hP, hD0.self (sz := s.heap.size), va_S.rf⟩ _ (lv_entry As hlen)
end BODY
abbrev QI {S : Type} (below : List Frame) (D : va_G) (cI : ClassId) (A : Nat → Prop) (wf : S → va_W) (post : Int32 → S → Prop) (args : Array Value) (s : State) : State → Prop := MQ below (va_Qi post (Bw D cI A wf) A) args s 0 0 A
abbrev QV {S : Type} (below : List Frame) (D : va_G) (cI : ClassId) (A : Nat → Prop) (wf : S → va_W) (post : S → Prop) (args : Array Value) (s : State) : State → Prop := MQ below (va_Qv post (Bw D cI A wf) A) args s 0 0 A
