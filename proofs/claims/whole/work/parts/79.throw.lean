/-! a throw of an exception whose constructor passes its message on by any entry: my own proof, over the library's laws by their names -/
def wx_seen : List (String × String) := [("detailMessage", "Ljava/lang/String;"), ("cause", "Ljava/lang/Throwable;"), ("stackTrace", Bundle.steD), ("suppressedExceptions", Bundle.listD), ("backtrace", "Ljava/lang/Object;")]
def wx_tail (own : String) (ic : Nat) (X : String) : List Cond := [Cond.instantiable X 6, Cond.methodLink own ic (Bundle.initS X), Cond.selects X Bundle.tFill Bundle.tFill, Cond.selects X Bundle.tFill0 Bundle.tFill0, Cond.fieldLink Bundle.tN 198 Bundle.tN "backtrace" "Ljava/lang/Object;", Cond.lays Bundle.tN Bundle.tN "backtrace" "Ljava/lang/Object;", Cond.isRef (.static Bundle.tN "SUPPRESSED_SENTINEL" Bundle.listD), Cond.isRef (.static Bundle.tN "UNASSIGNED_STACK" Bundle.steD)]
def wx_own (own : String) (ic : Nat) (X Y : String) (names : List String) (ix : Nat) (rx : ByteArray) : List Cond := Bundle.passSAtoms X Y ix rx ++ (Bundle.chainSAtoms Y names ++ (Bundle.throwableAtoms ++ (Bundle.throwableSAtoms ++ (wx_seen.map (fun q => Cond.lays X Bundle.tN q.1 q.2) ++ wx_tail own ic X))))
def wx_atS (own : String) (ic : Nat) (X Y : String) (names : List String) (ix : Nat) (rx : ByteArray) : List Cond := (wx_own own ic X Y names ix rx).filter vx_no
section WXC
variable {args : Array Value} {s : State}
/-- the list taken apart -/
theorem wx_read {own X Y : String} {names : List String} {ic ix : Nat} {rx : ByteArray} (h : ∀ w ∈ wx_own own ic X Y names ix rx, w.before args s = true) : (∀ w ∈ Bundle.passSAtoms X Y ix rx, w.before args s = true) ∧ (∀ w ∈ Bundle.chainSAtoms Y names, w.before args s = true) ∧ (∀ w ∈ Bundle.throwableAtoms, w.before args s = true) ∧ (∀ w ∈ Bundle.throwableSAtoms, w.before args s = true) ∧ (∀ q ∈ wx_seen, (Cond.lays X Bundle.tN q.1 q.2).before args s = true) ∧ ∀ w ∈ wx_tail own ic X, w.before args s = true := by
  have h1 := List.forall_mem_append.mp h
  have h2 := List.forall_mem_append.mp h1.2
  have h3 := List.forall_mem_append.mp h2.2
  have h4 := List.forall_mem_append.mp h3.2
  have h5 := List.forall_mem_append.mp h4.2
  exact ⟨h1.1, h2.1, h3.1, h4.1, fun q hq => h5.1 _ (List.mem_map.mpr ⟨q, hq, rfl⟩), h5.2⟩
/-- a method that its own word says is the one selected -/
theorem wx_sel {l : Launch} {e : Env} (ha : l.admits e) {X : String} {cX : ClassId} {y : MethodName} {my : MethodId} (hX : s.vm.findClass X = some cX) (hy : s.methodNamed? y = some my) (hne : y.cls ≠ "java/lang/invoke/MethodHandle" ∧ y.cls ≠ "java/lang/invoke/VarHandle") (h : (Cond.selects X y y).before args s = true) : selectMethod e.platform s.vm cX my = .method my := by
  obtain ⟨c', r, z, e1, e2, e3, e4, -⟩ := Cond.selects_spec (args := args) (first := s) (o := none) (idx := []) h
  rw [State.methodFound?_of_named hy hne] at e2
  rw [hX] at e1
  rw [hy] at e3
  rw [Option.some.inj e1, Launch.admits_selectMethod ha]
  rw [← Option.some.inj e2, ← Option.some.inj e3] at e4
  exact e4
/-- a cell of statics, which no place of locs names, reads as it read -/
theorem wx_still {V : State} {locs : List Loc} {cells slots : Nat} (hV : s.sameButNew V locs cells slots) (hl : ∀ x ∈ locs, ∀ cell, s.heap[x.base]? = some cell → cell.vm.isStatics = false) {q : Addr} {x : Cell} (hq : s.heap[q]? = some x) (hx : x.vm.isStatics = true) : ∃ y, V.heap[q]? = some y ∧ y.vm ≠ .unknown ∧ ∀ i : Nat, y.slots[i]? = x.slots[i]? := by
  obtain ⟨y, y1, y2, -, y4⟩ := hV.2.2.2.2.2 q x hq
  refine ⟨y, y1, fun hu => ?_, fun i => y4 i fun hm => ?_⟩
  · have hv : y.vm = x.vm := by rw [y2]
    rw [← hv, hu] at hx
    cases hx
  · have hf := hl _ hm x hq
    rw [hx] at hf
    cases hf
/-- a slot that preparing a throwable leaves alone -/
theorem wx_alone {T : ThrowableT} {x : Cell} {self : Addr} {u0 sen : RefV} {t : ThreadId} {i : Nat} {v : Value} (hv : x.slots[i]? = some v) (h1 : i ≠ T.fCause.slot) (h2 : i ≠ T.fStack.slot) (h3 : i ≠ T.fSupp.slot) : ((preparedCellV T x self u0 sen).withEntry t).slots[i]? = some v := by
  show (((x.slots.setIfInBounds T.fCause.slot _).setIfInBounds T.fStack.slot _).setIfInBounds T.fSupp.slot _)[i]? = _
  rw [Array.getElem?_setIfInBounds_ne h3.symm, Array.getElem?_setIfInBounds_ne h2.symm, Array.getElem?_setIfInBounds_ne h1.symm]
  exact hv
end WXC
set_option maxHeartbeats 2000000 in
theorem wx_ctorThrow {p : Program} {l : Launch} {e : Env} {R : Room} {s : State} {m₀ : MethodId} {args : Array Value} {below : List Frame} {meth : Method} {c : Code} {W : State} {locs : List Loc} {cells slots : Nat} (X : Stand p l e R s m₀ args below meth c W locs cells slots) (hexec : p.tables.exec = Jvm.exec) (htr : e.platform.stackTraces = false)
    {own cls Y0 : String} {names : List String} {ic ix : Nat} {rx : ByteArray} (x0 : decode rx 0 = .ok (.aload_n 0, 1)) (x1 : decode rx 1 = .ok (.aload_n 1, 1)) (x2 : decode rx 2 = .ok (.invokespecial ix, 3)) (x5 : decode rx 5 = .ok (.return_, 1))
    (hown : s.vm.findClass own = some m₀.cls) (fX : Bundle.fit cls = true) (fY : Bundle.fit Y0 = true) (fN : ∀ n ∈ names, Bundle.fit n = true) (h : ∀ w ∈ wx_own own ic cls Y0 names ix rx, w.before args s = true)
    (hl : ∀ x ∈ locs, ∀ cell, s.heap[x.base]? = some cell → cell.vm.isStatics = false)
    {a : Addr} {cX : ClassId} {kX : Class} (hX : s.vm.findClass cls = some cX) (hkX : s.vm.classes[cX]? = some kX) (hA : W.heap[a]? = some (freshCell cX kX)) (hnew : s.heap.size ≤ a) {msg : Value} (hmsg : msg.isRef = true)
    {g : JFrame} (hg : g.method = m₀) (hsz : g.locals.size = c.maxLocals) (hlo : g.locked = none) (hen : g.entered = []) {rest : List Value} (hst : g.stack = msg :: .ref a :: .ref a :: rest)
    (d0 : decode c.code g.pc = .ok (.invokespecial ic, 3)) (d3 : decode c.code (g.pc + 3) = .ok (.athrow, 1)) (hout : ∀ x ∈ c.exceptionTable.toList, covers x (g.pc + 3) = false)
    (rF : names.length + 4 < R.frames) (rL : 2 * g.monitorRoom + ((Value.ref a :: rest).map fun v => v.category).sum + (13 * (names.length + 2) + 42) ≤ R.locals) (hlk : meth.locks = false) :
    ∃ U : State, Steps p.tables e below (W.setTop g) U ∧ U.status = .running ∧ Ended U below (.threw a) ∧ s.WarmedH U.vm ∧ s.sameButNew ({ U with vm := s.vm } : State) locs cells slots ∧ ∃ ce, U.heap[a]? = some ce ∧ ce.vm = .none ∧ s.vm.findClass cls = some ce.cls := by
  obtain ⟨wP, wC, wT, wS, wF, wZ⟩ := wx_read h
  have eP := X.admits.platform
  have hma : e.platform.magicAccessors = ({} : Platform).magicAccessors := by rw [eP]
  obtain ⟨T, _, LT, _, Y⟩ := ThrowableC.of_atoms (args := args) (s := s) (pl := e.platform) (by rw [eP]) (by rw [eP]) hma wT
  obtain ⟨Z, M, LZ, LM, nZ⟩ := Init0T.ofS_atoms (args := args) hma LT Y wS
  obtain ⟨Q, Qs, qn, LQ, LQs, nQ, sQ, pQ⟩ := Bundle.chainS (args := args) hma nZ names Y0 fY fN wC
  obtain ⟨P, LP, nP, sP⟩ := PassC.ofS_atoms (args := args) (s := s) hma (X := cls) (Y := Y0) (Bundle.fit_spec fX).1 (Bundle.fit_spec fY).2 x0 x1 x2 x5 wP
  have ord : kX.kind = .ordinary := by
    obtain ⟨c1, k1, q1, q2, q3, -⟩ := Cond.instantiable_spec (args := args) (first := s) (o := none) (idx := []) (wZ (.instantiable cls 6) (by simp [wx_tail]))
    rw [← Option.some.inj (hX.symm.trans q1)] at q2
    rw [Option.some.inj (hkX.symm.trans q2)]; exact q3
  -- where the fields of a throwable lie in this class
  have lay : ∀ {n d : String} {i : Nat} {f : Field}, (n, d) ∈ wx_seen → s.fieldFound? Bundle.tN n d = some (T.cT, T.kT, i, f) → kX.instanceTypes[f.slot]? = some f.type ∧ ∃ z, Jmm.declares? s.vm f.slot (cX + 1) cX = some z ∧ z.2.name = f.name := fun hq hf => Cond.laysAt (args := args) (first := s) (o := none) (idx := []) hX hkX hf (wF _ hq)
  obtain ⟨_, fM⟩ := Y.msg
  have yM := lay (by simp [wx_seen]) fM
  obtain ⟨yC, zC, zC1, zC2⟩ := lay (by simp [wx_seen]) Y.cause
  obtain ⟨yS, zS, zS1, zS2⟩ := lay (by simp [wx_seen]) Y.stack
  obtain ⟨yP, zP, zP1, zP2⟩ := lay (by simp [wx_seen]) Y.supp
  obtain ⟨b1, b2, fB, l1, l2, l3, l4, -, nB, tB, ffB⟩ := Cond.ownField (args := args) (first := s) (o := none) (idx := []) (t := .object "java/lang/Object") Y.found LT.cls (by decide +kernel) (wZ (.fieldLink Bundle.tN 198 Bundle.tN "backtrace" "Ljava/lang/Object;") (by simp [wx_tail])) (wZ (.lays Bundle.tN Bundle.tN "backtrace" "Ljava/lang/Object;") (by simp [wx_tail])) e.platform hma
  obtain ⟨yB, zB, zB1, zB2⟩ := lay (by simp [wx_seen]) ffB
  have far : ∀ {f : Field} {z : Class × Field}, Jmm.declares? s.vm f.slot (cX + 1) cX = some z → z.2.name = f.name → f.name ≠ "backtrace" → fB.slot ≠ f.slot := fun q1 q2 q3 => Cond.laysApart zB1 q1 zB2 q2 fun hh => q3 (hh.symm.trans nB)
  have null : (freshCell cX kX).slots[fB.slot]? = some .null := by rw [fresh_default yB, tB]; rfl
  -- the two statics
  obtain ⟨S0, hS0, iS0⟩ := Y.statics
  obtain ⟨u0, hu0⟩ := Cond.staticRefV (args := args) (first := s) (o := none) (idx := []) Y.unassigned LT.unassignedStatic LT.statics hS0 iS0 (wZ (.isRef (.static Bundle.tN "UNASSIGNED_STACK" Bundle.steD)) (by simp [wx_tail]))
  obtain ⟨un, hun⟩ := Cond.staticRefV (args := args) (first := s) (o := none) (idx := []) Y.sentinel LT.sentinelStatic LT.statics hS0 iS0 (wZ (.isRef (.static Bundle.tN "SUPPRESSED_SENTINEL" Bundle.listD)) (by simp [wx_tail]))
  obtain ⟨S1, hS1, kS1, eS1⟩ := wx_still X.same hl hS0 iS0
  have apart : T.aS ≠ a := fun q => absurd (Array.getElem?_eq_some_iff.mp hS0).1 (by rw [q]; exact Nat.not_lt.mpr hnew)
  -- into the constructor, through it, and out by the throw
  obtain ⟨tm, _, _, _, v1, nT, -, -, -, -, -, -, -, hv1, enter⟩ := Steps.initColdS (tb := p.tables) (e := e) (below := below) (s := s) (U := W) (args := args) X.here hexec X.warmed hma hown (t := Bundle.initS cls) rfl rfl (Bundle.fit_spec fX).2 (wZ (.methodLink own ic (Bundle.initS cls)) (by simp [wx_tail])) (wP (.instanceMethod (Bundle.initS cls)) (by simp [Bundle.passSAtoms])) (wP (.code (Bundle.initS cls) rx 2 none) (by simp [Bundle.passSAtoms])) (f := g) hg hst d0
  have eT : tm = P.m := Option.some.inj (nT.symm.trans nP)
  have eQ : P.sup = Q.m := Option.some.inj (sP.symm.trans nQ)
  have links : ∀ B, B ∈ P :: Q :: Qs → B.LinksS e.platform s := by
    simp only [List.forall_mem_cons]
    exact ⟨LP, LQ, LQs⟩
  obtain ⟨v2, X2, thru⟩ := (X.noted hv1).ctorMessageOffV hexec (g := { g with stack := .ref a :: rest }) hg hsz T LT Z LZ M LM (P :: Q :: Qs) links ⟨eQ, sQ, pQ⟩ (u0 := u0) (sen := un) (self := a) hmsg (cell := freshCell cX kX) (cellS := S1) hA (fun _ => nofun) nofun rfl rfl
    (wx_sel X.admits hX Y.fill0 (by decide) (wZ (.selects cls Bundle.tFill0 Bundle.tFill0) (by simp [wx_tail]))) (wx_sel X.admits hX Y.fill (by decide) (wZ (.selects cls Bundle.tFill Bundle.tFill) (by simp [wx_tail])))
    hS1 apart kS1 ((eS1 _).trans hu0) ((eS1 _).trans hun)
    (Takes.of_laid hkX ord yC (by rw [Y.causeType]; rfl)) (Takes.of_laid hkX ord yS (by rw [Y.stackType]; exact fits_refV_array _ u0)) (Takes.of_laid hkX ord yP (by rw [Y.suppType]; exact fits_refV_object _ un)) (Takes.of_laid hkX ord yM.1 (by rw [Y.msgType]; exact fits_refV_object _ ⟨msg, hmsg⟩))
    Y.objLocals ⟨⟨b1, b2, fB⟩, ⟨l1, l2, l3, l4⟩, wx_alone null (far zC1 zC2 (by rw [Y.causeName]; decide)) (far zS1 zS2 (by rw [Y.stackName]; decide)) (far zP1 zP2 (by rw [Y.suppName]; decide)), fun _ _ => rfl⟩ htr [] d0
    (by show (Qs.length + 1 + 1) + 2 < R.frames; omega) (by show 2 * g.monitorRoom + _ + (13 * (Qs.length + 1 + 1) + 42) ≤ R.locals; rw [qn]; exact rL)
  obtain ⟨leave, t1, t2, t3, t4⟩ := X2.athrowLeaves hexec (g := { g with stack := .ref a :: rest, pc := g.pc + 3 }) hg hlo hen hout (a := a) (rest := rest) rfl d3 hlk
  refine ⟨_, enter _ fun acts => ?_, t1, t2, t3, t4.weaken (fun y hy hlt => ?_) (Nat.le_refl _) (Nat.le_refl _), _, heapAt_setCell_self (s := (W.setVm v1).setVm v2) _ (Array.getElem?_eq_some_iff.mp hA).1, rfl, hX⟩
  · rw [doInvoke_state, eT]
    exact thru _ leave
  · refine (List.mem_append.mp hy).elim id fun h5 => absurd hlt ?_
    have hb : y.base = a := by
      have all : ∀ z ∈ ([⟨a, T.fCause.slot⟩, ⟨a, T.fStack.slot⟩, ⟨a, T.fSupp.slot⟩, ⟨a, T.fStack.slot⟩, ⟨a, T.fMsg.slot⟩] : List Loc), z.base = a := by simp
      exact all y h5
    rw [hb]; exact Nat.not_lt.mpr hnew
section WXT
variable {p : Program} {l : Launch} {e : Env} {R : Room} {s : State} {m : MethodId} {args : Array Value} {below : List Frame} {meth : Method} {c : Code} {H : Heap} {locs : List Loc} {cells slots : Nat} {free : Addr → Prop} {ls : Array Slot} {rest : List Value}
variable {Qc : Array Value → State → Outcome → State → Prop} {XC : String → State → State → Prop}
theorem wx_throwS {cc : ByteArray} {pc : Nat} (hexec : p.tables.exec = Jvm.exec) (hb : c.code = cc) (hl : l.stackTraces = false) {own cls text Y0 : String} {names : List String} {ik is ic ix mc ms sa : Nat} {rx : ByteArray} (x0 : decode rx 0 = .ok (.aload_n 0, 1)) (x1 : decode rx 1 = .ok (.aload_n 1, 1)) (x2 : decode rx 2 = .ok (.invokespecial ix, 3)) (x5 : decode rx 5 = .ok (.return_, 1)) {A : Nat → Prop}
    (hown : s.vm.findClass own = some m.cls) (hcls : Bundle.fit cls = true) (hY0 : Bundle.fit Y0 = true) (hnames : ∀ n ∈ names, Bundle.fit n = true)
    (hk : (Cond.classLink own ik cls).before args s = true) (hini : (Cond.initialized cls).before args s = true) (hstr : vk_R own is text sa s) (hat : ∀ w ∈ wx_atS own ic cls Y0 names ix rx, w.before args s = true)
    (hgood : ∀ w ∈ Cond.classLink own ik cls :: Cond.initialized cls :: wx_atS own ic cls Y0 names ix rx, vx_ot w = true)
    (hU : vx_Zq Bundle.tN "UNASSIGNED_STACK" Bundle.steD A s s.heap) (hN : vx_Zq Bundle.tN "SUPPRESSED_SENTINEL" Bundle.listD A s s.heap) (hS : va_S A s.heap H locs) (hsize : ls.size = c.maxLocals)
    (d0 : decode cc pc = .ok (.new ik, 3)) (d3 : decode cc (pc + 3) = .ok (.dup, 1)) (d4 : decode cc (pc + 4) = .ok (.ldc is, 2)) (d6 : decode cc (pc + 6) = .ok (.invokespecial ic, 3)) (d9 : decode cc (pc + 9) = .ok (.athrow, 1))
    (hout : ∀ x ∈ c.exceptionTable.toList, covers x (pc + 9) = false)
    (hRframes : names.length + 4 < R.frames) (hRlocals : (rest.map fun v => v.category).sum + (13 * (names.length + 2) + 43) ≤ R.locals) (hRcells : cells + 1 ≤ R.cells) (hRslots : slots + 6 ≤ R.slots) (hlocks : meth.locks = false)
    (hx : ∀ t : State, s.vm.Alike t.vm → H.size ≤ t.heap.size → (∀ q : Nat, q < H.size → t.heap[q]? = H[q]?) → XC cls s t)
    (hf : ∀ z ∈ locs, free z.base) (hc : cells + 1 ≤ mc) (hs : slots + 6 ≤ ms) :
    W p l e R s m args below meth c H locs cells slots (vx_MQ below Qc XC args s mc ms free) (F0 m pc ls rest) := by
  intro T hT X
  have htr : e.platform.stackTraces = false := (show e.platform.stackTraces = l.stackTraces by rw [X.admits.platform]).trans hl
  have Y := vx_rebase X (R' := { frames := R.frames, locals := R.locals, cells := 1, slots := 6 }) (Nat.le_refl _) (Nat.le_refl _) hRcells hRslots
  obtain ⟨s', hA⟩ : ∃ z, z = (T.setVm s.vm).setFrames (.invoking m args :: below) := ⟨_, rfl⟩
  rw [← hA] at Y
  have hvm : s'.vm = s.vm := by rw [hA]; rfl
  have hhp : s'.heap = H := by rw [hA]; exact hT
  have hW0 : s.WarmedH s'.vm := by rw [hvm]; exact State.WarmedH.refl s
  have hat' : ∀ w ∈ wx_atS own ic cls Y0 names ix rx, w.before args s' = true := fun w hw => vx_ot_at hW0 hvm.symm (hgood w (List.mem_cons_of_mem _ (List.mem_cons_of_mem _ hw))) (hat w hw)
  have hk' : (Cond.classLink own ik cls).before args s' = true := vx_ot_at hW0 hvm.symm (hgood _ List.mem_cons_self) hk
  have hini' : (Cond.initialized cls).before args s' = true := vx_ot_at hW0 hvm.symm (hgood _ (List.mem_cons_of_mem _ List.mem_cons_self)) hini
  have hU' : vx_Zq Bundle.tN "UNASSIGNED_STACK" Bundle.steD A s' s'.heap := by rw [hhp]; exact vx_Zq.moved hW0.alike (hU.kept hS.2.1)
  have hN' : vx_Zq Bundle.tN "SUPPRESSED_SENTINEL" Bundle.listD A s' s'.heap := by rw [hhp]; exact vx_Zq.moved hW0.alike (hN.kept hS.2.1)
  have h : ∀ w ∈ wx_own own ic cls Y0 names ix rx, w.before args s' = true := vx_own hat' (vx_isRefq hU'.1) (vx_isRefq hN'.1) hU'.2.word hN'.2.word
  have hown' : s'.vm.findClass own = some m.cls := by rw [hvm]; exact hown
  have hins : (Cond.instantiable cls 6).before args s' = true := h _ (by simp [wx_own, wx_tail])
  obtain ⟨vm₁, cX, kX, hfX, hkX, -, -, X₁, st1⟩ := Y.newCold hexec (own := own) (C := cls) (index := ik) (n := 6) hown' hk' hins hini'
    (g := F0 m pc ls rest) rfl (by rw [hb]; exact d0) (Nat.le_refl _) (Nat.le_refl _)
  generalize hT1 : (T.setVm vm₁).pushCell { cls := cX, slots := kX.instanceTypes.map defaultValue, vm := .none } = T1 at X₁ st1
  have hcat : (Value.ref T.heap.size).category = 1 := rfl
  have hcellA : T1.heap[T.heap.size]? = some (freshCell cX kX) := by rw [← hT1]; exact State.heap_pushCell_size _ _
  have d3' : decode c.code (pc + 3) = .ok (.dup, 1) := by rw [hb]; exact d3
  have d4' : decode c.code (pc + 4) = .ok (.ldc is, 2) := by rw [hb]; exact d4
  have hstr' : vk_R own is text sa s' := vk_R.warm hW0 hstr
  obtain ⟨U, hsteps, hrun, hend, hW, hsame, ce, hce, hOv, hOc⟩ := wx_ctorThrow X₁ hexec htr (own := own) (cls := cls) (names := names) (ic := ic) x0 x1 x2 x5 hown' hcls hY0 hnames h (fun x hx => nomatch hx) hfX hkX hcellA (by rw [hhp, hT]; exact Nat.le_refl _) (msg := .ref sa) rfl
    (g := { method := m, pc := pc + 6, locals := ls, stack := .ref sa :: .ref T.heap.size :: .ref T.heap.size :: rest, locked := none }) rfl hsize rfl rfl (rest := rest) rfl
    (by rw [hb]; exact d6) (by rw [hb]; exact d9) hout hRframes (by simp only [List.map_cons, List.sum_cons, hcat]; omega) hlocks
  obtain ⟨f1, f2⟩ := vx_frame hsame
  rw [hhp] at f1 f2
  have hWs : s.WarmedH U.vm := State.WarmedH.trans hW0 hW
  have hcl : s.vm.findClass cls = some ce.cls := by
    have h9 := hOc
    rw [hvm] at h9
    exact h9
  have hall : s.sameButNew ({ U with vm := s.vm } : State) locs mc ms := by
    subst hA
    obtain ⟨e1, e2⟩ := hsame
    rw [State.setFrames_setFrames] at e1
    have h2 : (T.setVm s.vm).sameButNew ({ U with vm := s.vm } : State) [] (0 + 1) (0 + 6) := ⟨e1, e2⟩
    have h3 := X.same.trans h2
    rw [List.append_nil] at h3
    exact h3.mono hc hs
  refine ⟨U, ?_, .threw T.heap.size, hrun, hend, Or.inr ⟨T.heap.size, rfl, cls, ce, locs, hx U hWs.alike f1 (fun q hq => f2 q hq (fun z hz => nomatch hz)), hce, hOv, hcl, hWs, hall, hf⟩⟩
  refine st1 _ ?_
  show Steps p.tables e below (T1.setTop { method := m, pc := pc + 3, locals := ls, stack := .ref T.heap.size :: rest, locked := none }) _
  jvm_step X₁.here [X₁.here.top, hexec, d3', Value.category]
  exact X₁.ldcString hexec (own := own) (text := text) (index := is) (a := sa) hown' hstr'.1 hstr'.2
    (g := { method := m, pc := pc + 4, locals := ls, stack := .ref T.heap.size :: .ref T.heap.size :: rest, locked := none }) rfl d4' _ hsteps
theorem wx_throwSW {cc : ByteArray} {pc : Nat} (hexec : p.tables.exec = Jvm.exec) (hb : c.code = cc) (hl : l.stackTraces = false) {own cls text Y0 : String} {names : List String} {ik is ic ix mc ms sa : Nat} {rx : ByteArray} (x0 : decode rx 0 = .ok (.aload_n 0, 1)) (x1 : decode rx 1 = .ok (.aload_n 1, 1)) (x2 : decode rx 2 = .ok (.invokespecial ix, 3)) (x5 : decode rx 5 = .ok (.return_, 1)) {A : Nat → Prop}
    (hown : s.vm.findClass own = some m.cls) (hcls : Bundle.fit cls = true) (hY0 : Bundle.fit Y0 = true) (hnames : ∀ n ∈ names, Bundle.fit n = true)
    (hk : (Cond.classLink own ik cls).before args s = true) (hini : (Cond.initialized cls).before args s = true) (hstr : vk_R own is text sa s) (hat : ∀ w ∈ wx_atS own ic cls Y0 names ix rx, w.before args s = true)
    (hgood : ∀ w ∈ Cond.classLink own ik cls :: Cond.initialized cls :: wx_atS own ic cls Y0 names ix rx, vx_ot w = true)
    (hU : vx_Zq Bundle.tN "UNASSIGNED_STACK" Bundle.steD A s s.heap) (hN : vx_Zq Bundle.tN "SUPPRESSED_SENTINEL" Bundle.listD A s s.heap) (hS : va_S A s.heap H locs) (hsize : ls.size = c.maxLocals)
    (d0 : decode cc pc = .ok (.new ik, 3)) (d3 : decode cc (pc + 3) = .ok (.dup, 1)) (d4 : decode cc (pc + 4) = .ok (.ldc_w is, 3)) (d7 : decode cc (pc + 7) = .ok (.invokespecial ic, 3)) (d10 : decode cc (pc + 10) = .ok (.athrow, 1))
    (hout : ∀ x ∈ c.exceptionTable.toList, covers x (pc + 10) = false)
    (hRframes : names.length + 4 < R.frames) (hRlocals : (rest.map fun v => v.category).sum + (13 * (names.length + 2) + 43) ≤ R.locals) (hRcells : cells + 1 ≤ R.cells) (hRslots : slots + 6 ≤ R.slots) (hlocks : meth.locks = false)
    (hx : ∀ t : State, s.vm.Alike t.vm → H.size ≤ t.heap.size → (∀ q : Nat, q < H.size → t.heap[q]? = H[q]?) → XC cls s t)
    (hf : ∀ z ∈ locs, free z.base) (hc : cells + 1 ≤ mc) (hs : slots + 6 ≤ ms) :
    W p l e R s m args below meth c H locs cells slots (vx_MQ below Qc XC args s mc ms free) (F0 m pc ls rest) := by
  intro T hT X
  have htr : e.platform.stackTraces = false := (show e.platform.stackTraces = l.stackTraces by rw [X.admits.platform]).trans hl
  have Y := vx_rebase X (R' := { frames := R.frames, locals := R.locals, cells := 1, slots := 6 }) (Nat.le_refl _) (Nat.le_refl _) hRcells hRslots
  obtain ⟨s', hA⟩ : ∃ z, z = (T.setVm s.vm).setFrames (.invoking m args :: below) := ⟨_, rfl⟩
  rw [← hA] at Y
  have hvm : s'.vm = s.vm := by rw [hA]; rfl
  have hhp : s'.heap = H := by rw [hA]; exact hT
  have hW0 : s.WarmedH s'.vm := by rw [hvm]; exact State.WarmedH.refl s
  have hat' : ∀ w ∈ wx_atS own ic cls Y0 names ix rx, w.before args s' = true := fun w hw => vx_ot_at hW0 hvm.symm (hgood w (List.mem_cons_of_mem _ (List.mem_cons_of_mem _ hw))) (hat w hw)
  have hk' : (Cond.classLink own ik cls).before args s' = true := vx_ot_at hW0 hvm.symm (hgood _ List.mem_cons_self) hk
  have hini' : (Cond.initialized cls).before args s' = true := vx_ot_at hW0 hvm.symm (hgood _ (List.mem_cons_of_mem _ List.mem_cons_self)) hini
  have hU' : vx_Zq Bundle.tN "UNASSIGNED_STACK" Bundle.steD A s' s'.heap := by rw [hhp]; exact vx_Zq.moved hW0.alike (hU.kept hS.2.1)
  have hN' : vx_Zq Bundle.tN "SUPPRESSED_SENTINEL" Bundle.listD A s' s'.heap := by rw [hhp]; exact vx_Zq.moved hW0.alike (hN.kept hS.2.1)
  have h : ∀ w ∈ wx_own own ic cls Y0 names ix rx, w.before args s' = true := vx_own hat' (vx_isRefq hU'.1) (vx_isRefq hN'.1) hU'.2.word hN'.2.word
  have hown' : s'.vm.findClass own = some m.cls := by rw [hvm]; exact hown
  have hins : (Cond.instantiable cls 6).before args s' = true := h _ (by simp [wx_own, wx_tail])
  obtain ⟨vm₁, cX, kX, hfX, hkX, -, -, X₁, st1⟩ := Y.newCold hexec (own := own) (C := cls) (index := ik) (n := 6) hown' hk' hins hini'
    (g := F0 m pc ls rest) rfl (by rw [hb]; exact d0) (Nat.le_refl _) (Nat.le_refl _)
  generalize hT1 : (T.setVm vm₁).pushCell { cls := cX, slots := kX.instanceTypes.map defaultValue, vm := .none } = T1 at X₁ st1
  have hcat : (Value.ref T.heap.size).category = 1 := rfl
  have hcellA : T1.heap[T.heap.size]? = some (freshCell cX kX) := by rw [← hT1]; exact State.heap_pushCell_size _ _
  have d3' : decode c.code (pc + 3) = .ok (.dup, 1) := by rw [hb]; exact d3
  have d4' : decode c.code (pc + 4) = .ok (.ldc_w is, 3) := by rw [hb]; exact d4
  have hstr' : vk_R own is text sa s' := vk_R.warm hW0 hstr
  obtain ⟨U, hsteps, hrun, hend, hW, hsame, ce, hce, hOv, hOc⟩ := wx_ctorThrow X₁ hexec htr (own := own) (cls := cls) (names := names) (ic := ic) x0 x1 x2 x5 hown' hcls hY0 hnames h (fun x hx => nomatch hx) hfX hkX hcellA (by rw [hhp, hT]; exact Nat.le_refl _) (msg := .ref sa) rfl
    (g := { method := m, pc := pc + 7, locals := ls, stack := .ref sa :: .ref T.heap.size :: .ref T.heap.size :: rest, locked := none }) rfl hsize rfl rfl (rest := rest) rfl
    (by rw [hb]; exact d7) (by rw [hb]; exact d10) hout hRframes (by simp only [List.map_cons, List.sum_cons, hcat]; omega) hlocks
  obtain ⟨f1, f2⟩ := vx_frame hsame
  rw [hhp] at f1 f2
  have hWs : s.WarmedH U.vm := State.WarmedH.trans hW0 hW
  have hcl : s.vm.findClass cls = some ce.cls := by
    have h9 := hOc
    rw [hvm] at h9
    exact h9
  have hall : s.sameButNew ({ U with vm := s.vm } : State) locs mc ms := by
    subst hA
    obtain ⟨e1, e2⟩ := hsame
    rw [State.setFrames_setFrames] at e1
    have h2 : (T.setVm s.vm).sameButNew ({ U with vm := s.vm } : State) [] (0 + 1) (0 + 6) := ⟨e1, e2⟩
    have h3 := X.same.trans h2
    rw [List.append_nil] at h3
    exact h3.mono hc hs
  refine ⟨U, ?_, .threw T.heap.size, hrun, hend, Or.inr ⟨T.heap.size, rfl, cls, ce, locs, hx U hWs.alike f1 (fun q hq => f2 q hq (fun z hz => nomatch hz)), hce, hOv, hcl, hWs, hall, hf⟩⟩
  refine st1 _ ?_
  show Steps p.tables e below (T1.setTop { method := m, pc := pc + 3, locals := ls, stack := .ref T.heap.size :: rest, locked := none }) _
  jvm_step X₁.here [X₁.here.top, hexec, d3', Value.category]
  exact X₁.ldcStringW hexec (own := own) (text := text) (index := is) (a := sa) hown' hstr'.1 hstr'.2
    (g := { method := m, pc := pc + 4, locals := ls, stack := .ref T.heap.size :: .ref T.heap.size :: rest, locked := none }) rfl d4' _ hsteps
end WXT
