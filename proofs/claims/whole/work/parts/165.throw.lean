/-! a NoSuchElementException thrown. Its constructor goes on to RuntimeException's by link 13, where the library's chain has 7: the words are the library's without that chain, and the chain as it is -/
def exN : String := "java/util/NoSuchElementException"
def exR : String := "java/lang/RuntimeException"
def exUp : List String := [exR, "java/lang/Exception"]
abbrev exCode : ByteArray := prog_17_method_4_code
theorem ex_0 : decode exCode 0 = .ok (.aload_n 0, 1) := by decide +kernel
theorem ex_1 : decode exCode 1 = .ok (.aload_n 1, 1) := by decide +kernel
theorem ex_2 : decode exCode 2 = .ok (.invokespecial 13, 3) := by decide +kernel
theorem ex_5 : decode exCode 5 = .ok (.return_, 1) := by decide +kernel
def exChain : List Cond := Bundle.passSAtoms exN exR 13 exCode ++ Bundle.chainSAtoms exR ["java/lang/Exception"]
def exOwn : List Cond := exChain ++ (Bundle.ownAtoms RX5 145 exN []).filter (fun w => decide (w ∉ Bundle.chainSAtoms exN []))
def exA : List Cond := exOwn.filter vx_no
/-- the field of exN's objects that Throwable lays, by its name and type -/
abbrev exLay (n d : String) : Cond := .lays exN Bundle.tN n d
abbrev exStat (n d : String) : Cond := .isRef (.static Bundle.tN n d)
theorem exIn_T : ∀ w ∈ Bundle.throwableAtoms, w ∈ exOwn := by decide +kernel
theorem exIn_S : ∀ w ∈ Bundle.throwableSAtoms, w ∈ exOwn := by decide +kernel
theorem exIn_C : ∀ w ∈ exChain, w ∈ exOwn := fun _ hw => List.mem_append_left _ hw
theorem exIn_1 : ∀ w ∈ [exLay "cause" "Ljava/lang/Throwable;", exLay "stackTrace" Bundle.steD, exLay "suppressedExceptions" Bundle.listD, exLay "detailMessage" "Ljava/lang/String;", exLay "backtrace" "Ljava/lang/Object;", exStat "UNASSIGNED_STACK" Bundle.steD, exStat "SUPPRESSED_SENTINEL" Bundle.listD, .fieldLink Bundle.tN 198 Bundle.tN "backtrace" "Ljava/lang/Object;", .lays Bundle.tN Bundle.tN "backtrace" "Ljava/lang/Object;", .instantiable exN 6, .selects exN Bundle.tFill Bundle.tFill, .selects exN Bundle.tFill0 Bundle.tFill0, .methodLink RX5 145 (Bundle.initS exN), .instanceMethod (Bundle.initS exN), .code (Bundle.initS exN) exCode 2 none], w ∈ exOwn := by decide +kernel
/-- the three constructors between exN and Throwable, each the next one's caller -/
theorem ex_way {args : Array Value} {s : State} {pl : Platform} (hpl : pl.magicAccessors = ({} : Platform).magicAccessors) {top : MethodId} (htop : s.methodNamed? (Bundle.initS Bundle.tN) = some top) (h : ∀ w ∈ exOwn, w.before args s = true) :
    ∃ (A : PassC) (As : List PassC), As.length = 2 ∧ (∀ P, P ∈ A :: As → P.LinksS pl s) ∧ s.methodNamed? (Bundle.initS exN) = some A.m ∧ PassesOn top ((A :: As).map (·.toPassT)) := by
  have hc : ∀ w ∈ exChain, w.before args s = true := fun w hw => h w (exIn_C w hw)
  obtain ⟨A, la, na, ta⟩ := PassC.ofS_atoms (args := args) (s := s) hpl (X := exN) (Y := exR) (by decide) (by decide) ex_0 ex_1 ex_2 ex_5 (fun w hw => hc w (List.mem_append_left _ hw))
  obtain ⟨B, Bs, lenB, lb, lbs, nb, tb, tbs⟩ := Bundle.chainS (args := args) hpl htop ["java/lang/Exception"] exR (by decide) (by decide) (fun w hw => hc w (List.mem_append_right _ hw))
  have all : ∀ P, P ∈ A :: B :: Bs → P.LinksS pl s := by
    intro P hP
    cases hP with
    | head => exact la
    | tail _ hP =>
      cases hP with
      | head => exact lb
      | tail _ hP => exact lbs P hP
  have up : A.sup = B.m := by
    rw [ta] at nb
    exact Option.some.inj nb
  exact ⟨A, B :: Bs, congrArg (· + 1) lenB, all, na, up, tb, tbs⟩
section EXT
variable {p : Program} {l : Launch} {e : Env} {R : Room} {s : State} {m : MethodId} {args : Array Value} {below : List Frame} {meth : Method} {c : Code} {V : State} {cells slots : Nat}
/-- Throwable's own methods aren't overridden in exN -/
theorem ex_sel (ha : l.admits e) (h : ∀ w ∈ exOwn, w.before args s = true) {k : ClassId} (hX : s.vm.findClass exN = some k) {y : MethodName} {n : MethodId} (hy : y.cls ≠ "java/lang/invoke/MethodHandle" ∧ y.cls ≠ "java/lang/invoke/VarHandle") (hw : Cond.selects exN y y ∈ exOwn) (hn : s.methodNamed? y = some n) : selectMethod e.platform s.vm k n = .method n := by
  have hs : (Cond.selects exN y y).holds args s none s [] = true := h _ hw
  obtain ⟨k2, r, n2, f1, f2, f3, f4, -⟩ := Cond.selects_spec hs
  rw [hX] at f1
  rw [State.methodFound?_of_named hn hy] at f2
  rw [hn] at f3
  injection f1 with f1
  injection f2 with f2
  injection f3 with f3
  subst f1 f2 f3
  exact (Launch.admits_selectMethod ha s.vm k n).trans f4
/-- what an object of exN has at a field of Throwable's -/
theorem ex_fld (h : ∀ w ∈ exOwn, w.before args s = true) {k : ClassId} {kX : Class} (hX : s.vm.findClass exN = some k) (hk : s.vm.classes[k]? = some kX) {n d : String} {cT : ClassId} {kT : Class} {i : Nat} {f : Field} (hw : exLay n d ∈ exOwn) (hf : s.fieldFound? Bundle.tN n d = some (cT, kT, i, f)) : kX.instanceTypes[f.slot]? = some f.type ∧ ∃ q, Jmm.declares? s.vm f.slot (k + 1) k = some q ∧ q.2.name = f.name := by
  have hl : (exLay n d).holds args s none s [] = true := h _ hw
  exact Cond.laysAt hX hk hf hl
set_option maxHeartbeats 1000000 in
/-- the call of exN's constructor with a text, on a new object: it comes back, the object is still a plain one of exN, and nothing but it was written -/
theorem ex_made (X : Stand p l e R s m args below meth c V [] cells slots) (hexec : p.tables.exec = Jvm.exec) (htr : e.platform.stackTraces = false) (hown : s.vm.findClass RX5 = some m.cls) (h : ∀ w ∈ exOwn, w.before args s = true)
    {a : Addr} {k : ClassId} {kX : Class} (hX : s.vm.findClass exN = some k) (hk : s.vm.classes[k]? = some kX) (hcell : V.heap[a]? = some (freshCell k kX)) (hnew : s.heap.size ≤ a) {msg : Value} (hmsg : msg.isRef = true)
    {g : JFrame} (hg : g.method = m) (hsize : g.locals.size = c.maxLocals) {rest : List Value} (hst : g.stack = msg :: .ref a :: rest) (hd : decode c.code g.pc = .ok (.invokespecial 145, 3)) (hfr : 5 < R.frames) (hlo : 2 * g.monitorRoom + (rest.map fun v => v.category).sum + 81 ≤ R.locals) :
    ∃ (V2 : State) (ce : Cell) (L : List Loc), (∀ y ∈ L, y.base = a) ∧ Stand p l e R s m args below meth c V2 L cells slots ∧ V2.heap[a]? = some ce ∧ ce.vm = .none ∧ ce.cls = k ∧
      ∀ t, Steps p.tables e below (V2.setTop { g with stack := rest, pc := g.pc + 3 }) t → Steps p.tables e below (V.setTop g) t := by
  have pl1 : e.platform.frameOwnsMonitors = true := by rw [X.admits.platform]
  have pl2 : e.platform.finalization = false := by rw [X.admits.platform]
  have pl3 : e.platform.magicAccessors = ({} : Platform).magicAccessors := by rw [X.admits.platform]
  have wd : ∀ w, w ∈ exOwn → w.holds args s none s [] = true := h
  obtain ⟨T, T0, lT, -, yT⟩ := ThrowableC.of_atoms (args := args) pl1 pl2 pl3 (fun w hw => h w (exIn_T w hw))
  obtain ⟨I, M, lI, lM, nI'⟩ := Init0T.ofS_atoms (args := args) pl3 lT yT (fun w hw => h w (exIn_S w hw))
  obtain ⟨A, As, len, lA, nA, way⟩ := ex_way (args := args) pl3 nI' h
  have kA : A.m.cls = k := by
    have := findClass_of_methodNamed nA
    rw [show (Bundle.initS exN).cls = exN from rfl, hX] at this
    exact (Option.some.inj this).symm
  have ord : kX.kind = .ordinary := by
    obtain ⟨k2, kY, f1, f2, f3, -⟩ := Cond.instantiable_spec (wd (.instantiable exN 6) (exIn_1 _ (by simp)))
    rw [hX] at f1
    injection f1 with f1
    subst f1
    rw [hk] at f2
    injection f2 with f2
    subst f2
    exact f3
  -- Throwable's statics, at the start and now
  obtain ⟨z0, hz0, sz0⟩ := yT.statics
  obtain ⟨u, hu⟩ := Cond.staticRefV yT.unassigned lT.unassignedStatic lT.statics hz0 sz0 (wd (exStat "UNASSIGNED_STACK" Bundle.steD) (exIn_1 _ (by simp)))
  obtain ⟨v, hv⟩ := Cond.staticRefV yT.sentinel lT.sentinelStatic lT.statics hz0 sz0 (wd (exStat "SUPPRESSED_SENTINEL" Bundle.listD) (exIn_1 _ (by simp)))
  obtain ⟨z, hz, vz, -, same⟩ := X.same.2.2.2.2.2 T.aS z0 hz0
  have same' : ∀ i, z.slots[i]? = z0.slots[i]? := fun i => same i (fun q => nomatch q)
  have apart : T.aS ≠ a := by
    have := (Array.getElem?_eq_some_iff.mp hz0).1
    intro q
    rw [q] at this
    exact absurd hnew (Nat.not_le.mpr this)
  have zk : z.vm ≠ .unknown := by
    rw [vz]
    intro q
    rw [show z0.vm = .unknown from q] at sz0
    cases sz0
  -- the object's fields
  obtain ⟨jM, fM⟩ := yT.msg
  obtain ⟨ci, jB, B, b1, b2, b3, b4, -, b6, b7, fB⟩ := Cond.ownField (t := .object "java/lang/Object") yT.found lT.cls (by decide +kernel) (wd (.fieldLink Bundle.tN 198 Bundle.tN "backtrace" "Ljava/lang/Object;") (exIn_1 _ (by simp))) (wd (.lays Bundle.tN Bundle.tN "backtrace" "Ljava/lang/Object;") (exIn_1 _ (by simp))) e.platform pl3
  obtain ⟨tyC, qC, eC, oC⟩ := ex_fld h hX hk (exIn_1 _ (by simp)) yT.cause
  obtain ⟨tyS, qS, eS, oS⟩ := ex_fld h hX hk (exIn_1 _ (by simp)) yT.stack
  obtain ⟨tyP, qP, eP, oP⟩ := ex_fld h hX hk (exIn_1 _ (by simp)) yT.supp
  obtain ⟨tyM, qM, eM, oM⟩ := ex_fld h hX hk (exIn_1 _ (by simp)) fM
  obtain ⟨tyB, qB, eB, oB⟩ := ex_fld h hX hk (exIn_1 _ (by simp)) fB
  have nC : T.fCause.slot ≠ B.slot := Cond.laysApart eC eB oC oB (by rw [yT.causeName, b6]; decide)
  have nS : T.fStack.slot ≠ B.slot := Cond.laysApart eS eB oS oB (by rw [yT.stackName, b6]; decide)
  have nP : T.fSupp.slot ≠ B.slot := Cond.laysApart eP eB oP oB (by rw [yT.suppName, b6]; decide)
  have null : (freshCell k kX).slots[B.slot]? = some .null := by
    rw [fresh_default tyB, b7]
    rfl
  have skip : SkipFacts T e.platform s (fun t => t) u ((preparedCellV T.toThrowableT (freshCell k kX) a u v).withEntry V.cur) := by
    refine ⟨⟨ci, jB, B⟩, ⟨b1, b2, b3, b4⟩, ?_, fun _ _ => rfl⟩
    simp only [preparedCellV, Cell.setSlot, Cell.withEntry, Array.getElem?_setIfInBounds, nC, nS, nP, if_false]
    exact null
  have fits0 : ∀ {f : Field} {x : Value}, kX.instanceTypes[f.slot]? = some f.type → fits f.type x = true → Takes s (freshCell k kX) f x := fun ty hx => Takes.of_laid hk ord ty hx
  -- the call, and the constructors
  obtain ⟨n, -, -, -, vm1, hn, -, -, -, -, -, -, -, w1, go1⟩ := Steps.initColdS (tb := p.tables) (e := e) (below := below) (s := s) (U := V) X.here hexec X.warmed pl3 hown (idx := 145) (t := Bundle.initS exN) rfl rfl (by decide) (args := args) (h _ (exIn_1 _ (by simp))) (h _ (exIn_1 _ (by simp))) (bytes := exCode) (maxL := 2) (h (.code (Bundle.initS exN) exCode 2 none) (exIn_1 _ (by simp))) hg (a := a) (msg := msg) (rest := rest) hst hd
  rw [nA] at hn
  injection hn with hn
  subst hn
  obtain ⟨vm2, X2, go2⟩ := (X.noted w1).ctorMessageOffV hexec (g := { g with stack := rest }) hg hsize T lT I lI M lM (A :: As) lA way (u0 := u) (sen := v) (self := a) hmsg (cell := freshCell k kX) (cellS := z) hcell (fun _ => by simp) (by simp) rfl rfl
    (ex_sel X.admits h hX (by decide) (exIn_1 _ (by simp)) yT.fill0) (ex_sel X.admits h hX (by decide) (exIn_1 _ (by simp)) yT.fill) hz apart zk ((same' _).trans hu) ((same' _).trans hv)
    (fits0 tyC (by rw [yT.causeType]; rfl)) (fits0 tyS (by rw [yT.stackType]; exact fits_refV_array _ u)) (fits0 tyP (by rw [yT.suppType]; exact fits_refV_object _ v)) (fits0 tyM (by rw [yT.msgType]; exact fits_refV_object _ ⟨msg, hmsg⟩))
    yT.objLocals skip htr [] hd (by rw [List.length_cons, len]; omega) (by rw [List.length_cons, len]; exact hlo)
  refine ⟨_, _, _, ?_, X2, heapAt_setCell_self _ (Array.getElem?_eq_some_iff.mp hcell).1, rfl, rfl, fun t ht => go1 t (fun acts => ?_)⟩
  · intro y hy
    simp only [List.nil_append, List.mem_cons, List.not_mem_nil, or_false] at hy
    rcases hy with q | q | q | q | q <;> rw [q]
  · rw [doInvoke_state]
    exact go2 t ht
/-- .. and thrown: out of the method, with nothing written that was there -/
theorem ex_leave (X : Stand p l e R s m args below meth c V [] cells slots) (hexec : p.tables.exec = Jvm.exec) (htr : e.platform.stackTraces = false) (hown : s.vm.findClass RX5 = some m.cls) (h : ∀ w ∈ exOwn, w.before args s = true)
    {a : Addr} {k : ClassId} {kX : Class} (hX : s.vm.findClass exN = some k) (hk : s.vm.classes[k]? = some kX) (hcell : V.heap[a]? = some (freshCell k kX)) (hnew : s.heap.size ≤ a) {msg : Value} (hmsg : msg.isRef = true)
    {g : JFrame} (hg : g.method = m) (hsize : g.locals.size = c.maxLocals) (hlk : g.locked = none) (hen : g.entered = []) {rest : List Value} (hst : g.stack = msg :: .ref a :: .ref a :: rest) (hd : decode c.code g.pc = .ok (.invokespecial 145, 3)) (hd3 : decode c.code (g.pc + 3) = .ok (.athrow, 1)) (hout : ∀ x ∈ c.exceptionTable.toList, covers x (g.pc + 3) = false)
    (hfr : 5 < R.frames) (hlo : 2 * g.monitorRoom + ((Value.ref a :: rest).map fun v => v.category).sum + 81 ≤ R.locals) (hlocks : meth.locks = false) :
    ∃ U : State, Steps p.tables e below (V.setTop g) U ∧ U.status = .running ∧ Ended U below (.threw a) ∧ s.WarmedH U.vm ∧ s.sameButNew ({ U with vm := s.vm } : State) [] cells slots ∧ ∃ ce, U.heap[a]? = some ce ∧ ce.vm = .none ∧ s.vm.findClass exN = some ce.cls := by
  obtain ⟨V2, ce, L, hL, X2, c1, c2, c3, go⟩ := ex_made X hexec htr hown h hX hk hcell hnew hmsg hg hsize hst hd hfr hlo
  obtain ⟨st, run, fin, wrm, kept⟩ := X2.athrowLeaves hexec (g := { g with stack := .ref a :: rest, pc := g.pc + 3 }) hg hlk hen hout rfl hd3 hlocks
  exact ⟨_, go _ st, run, fin, wrm, kept.weaken (fun y hy lt => absurd lt (by rw [hL y hy]; exact Nat.not_lt.mpr hnew)) (Nat.le_refl _) (Nat.le_refl _), ce, c1, c2, by rw [c3]; exact hX⟩
end EXT
section EXU
variable {p : Program} {l : Launch} {e : Env} {R : Room} {s : State} {m : MethodId} {args : Array Value} {below : List Frame} {meth : Method} {c : Code} {H : Heap} {locs : List Loc} {cells slots : Nat} {free : Addr → Prop} {ls : Array Slot} {rest : List Value} {Qc : Array Value → State → Outcome → State → Prop} {XC : String → State → State → Prop}
set_option maxHeartbeats 1000000 in
theorem ex_throw {cc : ByteArray} {pc : Nat} (hexec : p.tables.exec = Jvm.exec) (hb : c.code = cc) (hl : l.stackTraces = false) {text : String} {ik is mc ms sa : Nat} {A : Nat → Prop}
    (hown : s.vm.findClass RX5 = some m.cls) 
    (hk : (Cond.classLink RX5 ik exN).before args s = true) (hini : (Cond.initialized exN).before args s = true) (hstr : vk_R RX5 is text sa s) (hat : ∀ w ∈ exA, w.before args s = true)
    (hgood : ∀ w ∈ Cond.classLink RX5 ik exN :: Cond.initialized exN :: exA, vx_ot w = true)
    (hU : vx_Zq Bundle.tN "UNASSIGNED_STACK" Bundle.steD A s s.heap) (hN : vx_Zq Bundle.tN "SUPPRESSED_SENTINEL" Bundle.listD A s s.heap) (hS : va_S A s.heap H locs) (hsize : ls.size = c.maxLocals)
    (d0 : decode cc pc = .ok (.new ik, 3)) (d3 : decode cc (pc + 3) = .ok (.dup, 1)) (d4 : decode cc (pc + 4) = .ok (.ldc is, 2)) (d6 : decode cc (pc + 6) = .ok (.invokespecial 145, 3)) (d9 : decode cc (pc + 9) = .ok (.athrow, 1))
    (hout : ∀ x ∈ c.exceptionTable.toList, covers x (pc + 9) = false)
    (hRframes : exUp.length + 3 < R.frames) (hRlocals : (rest.map fun v => v.category).sum + (13 * (exUp.length + 1) + 43) ≤ R.locals) (hRcells : cells + 1 ≤ R.cells) (hRslots : slots + 6 ≤ R.slots) (hlocks : meth.locks = false)
    (hx : ∀ t : State, s.vm.Alike t.vm → H.size ≤ t.heap.size → (∀ q : Nat, q < H.size → t.heap[q]? = H[q]?) → XC exN s t)
    (hf : ∀ z ∈ locs, free z.base) (hc : cells + 1 ≤ mc) (hs : slots + 6 ≤ ms) :
    W p l e R s m args below meth c H locs cells slots (vx_MQ below Qc XC args s mc ms free) (F0 m pc ls rest) := by
  intro T hT X
  have htr : e.platform.stackTraces = false := (show e.platform.stackTraces = l.stackTraces by rw [X.admits.platform]).trans hl
  have Y := vx_rebase X (R' := { frames := R.frames, locals := R.locals, cells := 1, slots := 6 }) (Nat.le_refl _) (Nat.le_refl _) hRcells hRslots
  obtain ⟨s', hA⟩ : ∃ z, z = (T.setVm s.vm).setFrames (.invoking m args :: below) := ⟨_, rfl⟩
  rw [← hA] at Y
  have hvm : s'.vm = s.vm := by rw [hA]; rfl
  have hhp : s'.heap = H := by rw [hA]; exact hT
  have hW0 : s.WarmedH s'.vm := by rw [hvm]; exact State.WarmedH.refl s
  have hat' : ∀ w ∈ exA, w.before args s' = true := fun w hw => vx_ot_at hW0 hvm.symm (hgood w (List.mem_cons_of_mem _ (List.mem_cons_of_mem _ hw))) (hat w hw)
  have hk' : (Cond.classLink RX5 ik exN).before args s' = true := vx_ot_at hW0 hvm.symm (hgood _ List.mem_cons_self) hk
  have hini' : (Cond.initialized exN).before args s' = true := vx_ot_at hW0 hvm.symm (hgood _ (List.mem_cons_of_mem _ List.mem_cons_self)) hini
  have hU' : vx_Zq Bundle.tN "UNASSIGNED_STACK" Bundle.steD A s' s'.heap := by rw [hhp]; exact vx_Zq.moved hW0.alike (hU.kept hS.2.1)
  have hN' : vx_Zq Bundle.tN "SUPPRESSED_SENTINEL" Bundle.listD A s' s'.heap := by rw [hhp]; exact vx_Zq.moved hW0.alike (hN.kept hS.2.1)
  have h : ∀ w ∈ exOwn, w.before args s' = true := vx_own hat' (vx_isRefq hU'.1) (vx_isRefq hN'.1) hU'.2.word hN'.2.word
  have hown' : s'.vm.findClass RX5 = some m.cls := by rw [hvm]; exact hown
  have hins : (Cond.instantiable exN 6).before args s' = true := h _ (exIn_1 _ (by simp))
  obtain ⟨vm₁, cX, kX, hfX, hkX, -, -, X₁, st1⟩ := Y.newCold hexec (own := RX5) (C := exN) (index := ik) (n := 6) hown' hk' hins hini'
    (g := F0 m pc ls rest) rfl (by rw [hb]; exact d0) (Nat.le_refl _) (Nat.le_refl _)
  generalize hT1 : (T.setVm vm₁).pushCell { cls := cX, slots := kX.instanceTypes.map defaultValue, vm := .none } = T1 at X₁ st1
  have hcat : (Value.ref T.heap.size).category = 1 := rfl
  have hcellA : T1.heap[T.heap.size]? = some (freshCell cX kX) := by rw [← hT1]; exact State.heap_pushCell_size _ _
  have d3' : decode c.code (pc + 3) = .ok (.dup, 1) := by rw [hb]; exact d3
  have d4' : decode c.code (pc + 4) = .ok (.ldc is, 2) := by rw [hb]; exact d4
  have hstr' : vk_R RX5 is text sa s' := vk_R.warm hW0 hstr
  obtain ⟨U, hsteps, hrun, hend, hW, hsame, ce, hce, hOv, hOc⟩ := ex_leave X₁ hexec htr hown' h hfX hkX hcellA (by rw [hhp, hT]; exact Nat.le_refl _) (msg := .ref sa) rfl
    (g := { method := m, pc := pc + 6, locals := ls, stack := .ref sa :: .ref T.heap.size :: .ref T.heap.size :: rest, locked := none }) rfl hsize rfl rfl (rest := rest) rfl
    (by rw [hb]; exact d6) (by rw [hb]; exact d9) hout hRframes (by have two : exUp.length = 2 := rfl; simp only [List.map_cons, List.sum_cons, hcat]; omega) hlocks
  obtain ⟨f1, f2⟩ := vx_frame hsame
  rw [hhp] at f1 f2
  have hWs : s.WarmedH U.vm := State.WarmedH.trans hW0 hW
  have hcl : s.vm.findClass exN = some ce.cls := by
    have h9 := hOc
    rw [hvm] at h9
    exact h9
  have hall : s.sameButNew ({ U with vm := s.vm } : State) locs mc ms := by
    subst hA
    obtain ⟨e1, e2⟩ := hsame
    rw [State.setFrames_setFrames] at e1
    have h2 : (T.setVm s.vm).sameButNew ({ U with vm := s.vm } : State) [] (0 + 1) (0 + 6) := ⟨e1, e2⟩
    have h3 := X.same.trans h2
    rw [List.append_nil] at h3
    exact h3.mono hc hs
  refine ⟨U, ?_, .threw T.heap.size, hrun, hend, Or.inr ⟨T.heap.size, rfl, exN, ce, locs, hx U hWs.alike f1 (fun q hq => f2 q hq (fun z hz => nomatch hz)), hce, hOv, hcl, hWs, hall, hf⟩⟩
  refine st1 _ ?_
  show Steps p.tables e below (T1.setTop { method := m, pc := pc + 3, locals := ls, stack := .ref T.heap.size :: rest, locked := none }) _
  jvm_step X₁.here [X₁.here.top, hexec, d3', Value.category]
  exact X₁.ldcString hexec (own := RX5) (text := text) (index := is) (a := sa) hown' hstr'.1 hstr'.2
    (g := { method := m, pc := pc + 4, locals := ls, stack := .ref T.heap.size :: .ref T.heap.size :: rest, locked := none }) rfl d4' _ hsteps
end EXU
