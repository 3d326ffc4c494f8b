/-- a cell's kind: an array (type, length, first cell and stride of its references) or an object (class, its fields: none an int, some r a reference to cell r) -/
abbrev wS : Type := (FieldType × Nat × Nat × Nat) ⊕ (Nat × List (Option Nat))
/-- where all lies: the cells' addresses, the classes' numbers and slots, the array classes, the heap's size at the law's entry -/
abbrev wG : Type := (Nat → Nat) × va_G × (FieldType → ClassId) × Nat
def wA (G : wG) : Nat → Prop := fun q => G.2.2.2 ≤ q
def wSh : List wS := [.inr (10, [some 1, some 3, some 7, some 13, some 23, some 28, some 32, some 34, some 141, some 142, some 145]),
  .inr (9, [some 2, none]),
  .inl (.char, 80, 0, 0),
  .inr (5, [some 4, some 5, some 6, none, none, none, none]),
  .inl (.int, 40, 0, 0),
  .inl (.int, 40, 0, 0),
  .inl (.int, 40, 0, 0),
  .inr (2, [some 8, some 9, some 10, some 11, none, none, some 12]),
  .inl (.int, 9, 0, 0),
  .inl (.int, 9, 0, 0),
  .inl (.int, 9, 0, 0),
  .inl (.int, 3, 0, 0),
  .inl (.int, 81, 0, 0),
  .inr (0, [some 14, some 15, some 16, some 17, some 18, some 19, none, none, none, some 20, some 21, some 22, none, none]),
  .inl (.int, 9, 0, 0),
  .inl (.int, 9, 0, 0),
  .inl (.int, 9, 0, 0),
  .inl (.int, 36, 0, 0),
  .inl (.int, 36, 0, 0),
  .inl (.int, 36, 0, 0),
  .inl (.int, 9, 0, 0),
  .inl (.int, 36, 0, 0),
  .inl (.int, 9, 0, 0),
  .inr (6, [some 24, none, some 25, none, some 26, some 27, none, none, none, none, none]),
  .inl (.long, 3000, 0, 0),
  .inl (.long, 2048, 0, 0),
  .inl (.int, 72, 0, 0),
  .inl (.int, 72, 0, 0),
  .inr (1, [some 29, some 30, none, some 31]),
  .inl (.int, 9, 0, 0),
  .inl (.int, 9, 0, 0),
  .inl (.int, 9, 0, 0),
  .inr (3, [some 33, none]),
  .inl (.int, 10, 0, 0),
  .inr (4, [none, some 35, none]),
  .inl (.object "WellsNotEven$Snapshot", 21, 36, 5),
  .inr (8, [some 37, some 38, some 39, some 40, none, none]),
  .inl (.int, 9, 0, 0),
  .inl (.int, 9, 0, 0),
  .inl (.int, 9, 0, 0),
  .inl (.int, 3, 0, 0),
  .inr (8, [some 42, some 43, some 44, some 45, none, none]),
  .inl (.int, 9, 0, 0),
  .inl (.int, 9, 0, 0),
  .inl (.int, 9, 0, 0),
  .inl (.int, 3, 0, 0),
  .inr (8, [some 47, some 48, some 49, some 50, none, none]),
  .inl (.int, 9, 0, 0),
  .inl (.int, 9, 0, 0),
  .inl (.int, 9, 0, 0),
  .inl (.int, 3, 0, 0),
  .inr (8, [some 52, some 53, some 54, some 55, none, none]),
  .inl (.int, 9, 0, 0),
  .inl (.int, 9, 0, 0),
  .inl (.int, 9, 0, 0),
  .inl (.int, 3, 0, 0),
  .inr (8, [some 57, some 58, some 59, some 60, none, none]),
  .inl (.int, 9, 0, 0),
  .inl (.int, 9, 0, 0),
  .inl (.int, 9, 0, 0),
  .inl (.int, 3, 0, 0),
  .inr (8, [some 62, some 63, some 64, some 65, none, none]),
  .inl (.int, 9, 0, 0),
  .inl (.int, 9, 0, 0),
  .inl (.int, 9, 0, 0),
  .inl (.int, 3, 0, 0),
  .inr (8, [some 67, some 68, some 69, some 70, none, none]),
  .inl (.int, 9, 0, 0),
  .inl (.int, 9, 0, 0),
  .inl (.int, 9, 0, 0),
  .inl (.int, 3, 0, 0),
  .inr (8, [some 72, some 73, some 74, some 75, none, none]),
  .inl (.int, 9, 0, 0),
  .inl (.int, 9, 0, 0),
  .inl (.int, 9, 0, 0),
  .inl (.int, 3, 0, 0),
  .inr (8, [some 77, some 78, some 79, some 80, none, none]),
  .inl (.int, 9, 0, 0),
  .inl (.int, 9, 0, 0),
  .inl (.int, 9, 0, 0),
  .inl (.int, 3, 0, 0),
  .inr (8, [some 82, some 83, some 84, some 85, none, none]),
  .inl (.int, 9, 0, 0),
  .inl (.int, 9, 0, 0),
  .inl (.int, 9, 0, 0),
  .inl (.int, 3, 0, 0),
  .inr (8, [some 87, some 88, some 89, some 90, none, none]),
  .inl (.int, 9, 0, 0),
  .inl (.int, 9, 0, 0),
  .inl (.int, 9, 0, 0),
  .inl (.int, 3, 0, 0),
  .inr (8, [some 92, some 93, some 94, some 95, none, none]),
  .inl (.int, 9, 0, 0),
  .inl (.int, 9, 0, 0),
  .inl (.int, 9, 0, 0),
  .inl (.int, 3, 0, 0),
  .inr (8, [some 97, some 98, some 99, some 100, none, none]),
  .inl (.int, 9, 0, 0),
  .inl (.int, 9, 0, 0),
  .inl (.int, 9, 0, 0),
  .inl (.int, 3, 0, 0),
  .inr (8, [some 102, some 103, some 104, some 105, none, none]),
  .inl (.int, 9, 0, 0),
  .inl (.int, 9, 0, 0),
  .inl (.int, 9, 0, 0),
  .inl (.int, 3, 0, 0),
  .inr (8, [some 107, some 108, some 109, some 110, none, none]),
  .inl (.int, 9, 0, 0),
  .inl (.int, 9, 0, 0),
  .inl (.int, 9, 0, 0),
  .inl (.int, 3, 0, 0),
  .inr (8, [some 112, some 113, some 114, some 115, none, none]),
  .inl (.int, 9, 0, 0),
  .inl (.int, 9, 0, 0),
  .inl (.int, 9, 0, 0),
  .inl (.int, 3, 0, 0),
  .inr (8, [some 117, some 118, some 119, some 120, none, none]),
  .inl (.int, 9, 0, 0),
  .inl (.int, 9, 0, 0),
  .inl (.int, 9, 0, 0),
  .inl (.int, 3, 0, 0),
  .inr (8, [some 122, some 123, some 124, some 125, none, none]),
  .inl (.int, 9, 0, 0),
  .inl (.int, 9, 0, 0),
  .inl (.int, 9, 0, 0),
  .inl (.int, 3, 0, 0),
  .inr (8, [some 127, some 128, some 129, some 130, none, none]),
  .inl (.int, 9, 0, 0),
  .inl (.int, 9, 0, 0),
  .inl (.int, 9, 0, 0),
  .inl (.int, 3, 0, 0),
  .inr (8, [some 132, some 133, some 134, some 135, none, none]),
  .inl (.int, 9, 0, 0),
  .inl (.int, 9, 0, 0),
  .inl (.int, 9, 0, 0),
  .inl (.int, 3, 0, 0),
  .inr (8, [some 137, some 138, some 139, some 140, none, none]),
  .inl (.int, 9, 0, 0),
  .inl (.int, 9, 0, 0),
  .inl (.int, 9, 0, 0),
  .inl (.int, 3, 0, 0),
  .inl (.object "WellsNotEven$Snapshot", 3, 146, 5),
  .inr (7, [none, some 143, some 144]),
  .inl (.int, 10, 0, 0),
  .inl (.int, 10, 0, 0),
  .inl (.int, 200, 0, 0),
  .inr (8, [some 147, some 148, some 149, some 150, none, none]),
  .inl (.int, 9, 0, 0),
  .inl (.int, 9, 0, 0),
  .inl (.int, 9, 0, 0),
  .inl (.int, 3, 0, 0),
  .inr (8, [some 152, some 153, some 154, some 155, none, none]),
  .inl (.int, 9, 0, 0),
  .inl (.int, 9, 0, 0),
  .inl (.int, 9, 0, 0),
  .inl (.int, 3, 0, 0),
  .inr (8, [some 157, some 158, some 159, some 160, none, none]),
  .inl (.int, 9, 0, 0),
  .inl (.int, 9, 0, 0),
  .inl (.int, 9, 0, 0),
  .inl (.int, 3, 0, 0),
  .inr (11, [none, none, some 162, none, some 163, some 164, some 165, some 166, some 167, some 168, none, some 169, none, none, none, none, some 170, some 171, some 172, some 173, none, some 174, some 175, some 176, some 177, none, some 178, none, some 179, some 180, some 181, some 182, some 183, some 184, none, none, some 185, none, some 186, some 187, some 188, some 189, some 190, none, some 191, some 192, some 193, some 194, some 195]),
  .inl (.int, 24, 0, 0),
  .inl (.int, 9, 0, 0),
  .inl (.int, 9, 0, 0),
  .inl (.int, 9, 0, 0),
  .inl (.int, 81, 0, 0),
  .inl (.int, 9, 0, 0),
  .inl (.int, 3, 0, 0),
  .inl (.int, 80, 0, 0),
  .inl (.int, 9, 0, 0),
  .inl (.int, 9, 0, 0),
  .inl (.int, 9, 0, 0),
  .inl (.int, 81, 0, 0),
  .inl (.int, 399, 0, 0),
  .inl (.int, 16, 0, 0),
  .inl (.int, 16, 0, 0),
  .inl (.int, 16, 0, 0),
  .inl (.int, 9, 0, 0),
  .inl (.long, 3000, 0, 0),
  .inl (.int, 3000, 0, 0),
  .inl (.int, 3000, 0, 0),
  .inl (.int, 3000, 0, 0),
  .inl (.int, 16384, 0, 0),
  .inl (.int, 9, 0, 0),
  .inl (.int, 3000, 0, 0),
  .inl (.int, 9, 0, 0),
  .inl (.int, 9, 0, 0),
  .inl (.int, 9, 0, 0),
  .inl (.int, 9, 0, 0),
  .inl (.int, 9, 0, 0),
  .inl (.int, 10, 0, 0),
  .inl (.int, 10, 0, 0),
  .inl (.int, 777, 0, 0),
  .inl (.boolean, 3, 0, 0),
  .inl (.int, 96, 0, 0),
  .inl (.long, 1, 0, 0)]
def wArr (G : wG) (s : wM) (k : Nat) (q : FieldType × Nat × Nat × Nat) : ClassId × vp_A := match q.1 with
  | .long => (G.2.2.1 .long, q.2.1, .inr (.inl (s.2 k)))
  | .object C => (G.2.2.1 (.object C), q.2.1, .inr (.inr (.inr (.inr (fun i => some (G.1 (q.2.2.1 + q.2.2.2 * i)))))))
  | ty => (G.2.2.1 ty, q.2.1, .inl (s.1 k))
def wFv (G : wG) (s : wM) (k j : Nat) (x : Option Nat) : Value := match x with
  | none => .int (s.1 k j)
  | some r => .ref (G.1 r)
def wFs (G : wG) (s : wM) (k : Nat) (fs : List (Option Nat)) : List Value := fs.mapIdx (fun j x => wFv G s k j x)
def wE (G : wG) (s : wM) (k : Nat) (e : wS) : va_E := match e with
  | .inl q => .inl (wArr G s k q)
  | .inr q => .inr (q.1, wFs G s k q.2)
def wL (G : wG) (s : wM) : va_W := wSh.mapIdx (fun k e => (G.1 k, wE G s k e))
def wGeo (G : wG) : Prop := (∀ i j : Nat, i < wSh.length → j < wSh.length → G.1 i = G.1 j → i = j) ∧ ∀ i : Nat, i < wSh.length → wA G (G.1 i)
abbrev wSn : FieldType := .object "WellsNotEven$Snapshot"
def wTy (G : wG) : List (ClassId × FieldType) := [(G.2.2.1 .int, .int), (G.2.2.1 .long, .long), (G.2.2.1 .boolean, .boolean), (G.2.2.1 .char, .char), (G.2.2.1 wSn, wSn)]
theorem wL_at {G : wG} {s : wM} {k : Nat} {e : wS} (h : wSh[k]? = some e) : (wL G s)[k]? = some (G.1 k, wE G s k e) := by
  simp [wL, List.getElem?_mapIdx, h]
theorem wL_D {G : wG} (hG : wGeo G) (s : wM) : va_D (wA G) (wL G s) := by
  have key : ∀ (i : Nat) (p : Nat × va_E), (wL G s)[i]? = some p → i < wSh.length ∧ p.1 = G.1 i := by
    intro i p h
    simp only [wL, List.getElem?_mapIdx] at h
    cases he : wSh[i]? with
    | none => rw [he] at h; cases h
    | some e =>
      rw [he] at h
      cases h
      exact ⟨(List.getElem?_eq_some_iff.mp he).1, rfl⟩
  refine ⟨fun i j p q hi hj hpq => ?_, fun k q hk => ?_⟩
  · obtain ⟨a1, a2⟩ := key i p hi
    obtain ⟨b1, b2⟩ := key j q hj
    exact hG.1 i j a1 b1 (by rw [← a2, ← b2]; exact hpq)
  · obtain ⟨a1, a2⟩ := key k q hk
    rw [a2]
    exact hG.2 k a1
theorem wE_congr {G : wG} {s s' : wM} {k : Nat} (h1 : s'.1 k = s.1 k) (h2 : s'.2 k = s.2 k) (e : wS) : wE G s' k e = wE G s k e := by
  cases e with
  | inl q =>
    obtain ⟨ty, n, r, t⟩ := q
    cases ty <;> simp [wE, wArr, h1, h2]
  | inr q =>
    simp only [wE, wFs]
    congr 1
    congr 1
    have : (fun (j : Nat) (x : Option Nat) => wFv G s' k j x) = (fun j x => wFv G s k j x) := by
      funext j x
      cases x <;> simp [wFv, h1]
    rw [this]
theorem wL_set {G : wG} {s s' : wM} {k : Nat} {e : wS} (hk : wSh[k]? = some e) (ho : ∀ i : Nat, i ≠ k → s'.1 i = s.1 i ∧ s'.2 i = s.2 i) : (wL G s).set k (G.1 k, wE G s' k e) = wL G s' := by
  apply List.ext_getElem?
  intro i
  have hlen : k < wSh.length := (List.getElem?_eq_some_iff.mp hk).1
  by_cases hi : i = k
  · subst hi
    rw [wL_at hk, List.getElem?_set]
    simp [wL, hlen]
  · rw [List.getElem?_set_ne (fun q => hi q.symm)]
    simp only [wL, List.getElem?_mapIdx]
    cases he : wSh[i]? with
    | none => rfl
    | some e' => simp [wE_congr (ho i hi).1 (ho i hi).2]
theorem wsI_off {s : wM} {k j : Nat} {v : Int32} (i : Nat) (h : i ≠ k) : (wsI s k j v).1 i = s.1 i ∧ (wsI s k j v).2 i = s.2 i := ⟨by funext b; simp [wsI, h], rfl⟩
theorem wsL_off {s : wM} {k j : Nat} {v : Int64} (i : Nat) (h : i ≠ k) : (wsL s k j v).1 i = s.1 i ∧ (wsL s k j v).2 i = s.2 i := ⟨rfl, by funext b; simp [wsL, h]⟩
theorem wsI_at (s : wM) (k j : Nat) (v : Int32) : (wsI s k j v).1 k = upd (s.1 k) j v := by
  funext b
  simp [wsI, upd]
theorem wsL_at (s : wM) (k j : Nat) (v : Int64) : (wsL s k j v).2 k = vp_updL (s.2 k) j v := by
  funext b
  simp [wsL, vp_updL]
theorem wFs_set {G : wG} {s : wM} {k j : Nat} {v : Int32} {fs : List (Option Nat)} (h : fs[j]? = some none) : (wFs G s k fs).set j (.int v) = wFs G (wsI s k j v) k fs := by
  apply List.ext_getElem?
  intro i
  by_cases hi : i = j
  · subst hi
    have hl : i < fs.length := (List.getElem?_eq_some_iff.mp h).1
    rw [List.getElem?_set]
    have e : fs[i] = none := by
      rw [List.getElem?_eq_getElem hl] at h
      exact Option.some.inj h
    simp [wFs, hl, e, wFv, wsI]
  · rw [List.getElem?_set_ne (fun q => hi q.symm)]
    simp only [wFs, List.getElem?_mapIdx]
    cases he : fs[i]? with
    | none => rfl
    | some x => cases x <;> simp [wFv, wsI, hi]
/-- the words of the tables -/
def wNs : List Cond := lw_tbl.filter (fun w => match w with | .methodLinkNest .. => true | _ => false)
def wTok (U : State) : Prop := (∀ w ∈ wTs, ∀ a : Array Value, w.before a U = true) ∧ ∀ (a : String) (i : Nat) (x : MethodName) (h : String), Cond.methodLinkNest a i x h ∈ lw_tbl → va_Nw (.methodLinkNest a i x h) U
theorem wTok.warm {s U : State} (hW : s.WarmedH U.vm) (h : wTok s) : wTok U := ⟨fun w hw a => word_at hW (good_of_word (List.mem_filter.mp hw).2) (h.1 w hw #[]), fun a i x z hz => va_Nw.warmM hW (h.2 a i x z hz)⟩
theorem wTok.same {s U : State} (hv : s.vm = U.vm) (h : wTok s) : wTok U := h.warm (by rw [← hv]; exact State.WarmedH.refl s)
/-- a walk's fixed things: program, launch, environment, room, the state at entry, method, arguments, what lies below, the method and its code, the goal, how many locals, cells and slots made so far -/
abbrev wX : Type := Program × Launch × Env × Room × State × MethodId × Array Value × List Frame × Method × Code × (State → Prop) × Nat × Nat × Nat
/-- THE JUDGEMENT: at pc, with these locals, this stack, this memory, the machine comes to its goal -/
def WB (G : wG) (X : wX) (pc : Nat) (loc : List (Nat × Value)) (st : List Value) (s : wM) : Prop := match X with
  | (p, l, e, R, s0, m, args, below, meth, c, Q, nL, cells, slots) => ∀ (H : Heap) (locs : List Loc) (ls : Array Slot), va_P G.2.1 vwCl (wL G s) H → va_S (wA G) s0.heap H locs → lv_has ls nL loc → W p l e R s0 m args below meth c H locs cells slots Q (F0 m pc ls st)
def wOK (G : wG) (X : wX) (cc : ByteArray) (own : String) (ret : Option FieldType) (d : Nat) : Prop := match X with
  | (p, _, _, R, s, m, args, _, meth, c, _, nL, cells, slots) => p.tables.exec = Jvm.exec ∧ c.code = cc ∧ meth.sig.returnType = ret ∧ c.maxLocals = nL ∧ s.vm.findClass own = some m.cls ∧ wTok s ∧ va_K G.2.1 vwCl (wTy G) s ∧ meth.locks = false ∧ wGeo G ∧ d + 1 ≤ R.frames ∧ 60 * (d + 1) ≤ R.locals ∧ cells ≤ R.cells ∧ slots ≤ R.slots
def wNl (X : wX) : Nat := X.2.2.2.2.2.2.2.2.2.2.2.1
def wRt (G : wG) (X : wX) (Qc : Array Value → State → Outcome → State → Prop) : Prop := match X with
  | (_, _, _, _, s, _, args, below, _, _, Q, _, cells, slots) => Q = MQ below Qc args s cells slots (wA G)
def wQi (G : wG) (r0 : Int32) (s1 : wM) : Array Value → State → Outcome → State → Prop := va_Qi (S := wM) (fun r u => r = r0 ∧ u = s1) (fun u t => va_P G.2.1 vwCl (wL G u) t.heap) (wA G)
def wQl (G : wG) (r0 : Int64) (s1 : wM) : Array Value → State → Outcome → State → Prop := va_Ql (S := wM) (fun r u => r = r0 ∧ u = s1) (fun u t => va_P G.2.1 vwCl (wL G u) t.heap) (wA G)
def wQv (G : wG) (s1 : wM) : Array Value → State → Outcome → State → Prop := va_Qv (S := wM) (fun u => u = s1) (fun u t => va_P G.2.1 vwCl (wL G u) t.heap) (wA G)
def wPc (G : wG) (av : List Value) (s0 : wM) : Array Value → State → Prop := va_Pc av (fun U => va_P G.2.1 vwCl (wL G s0) U.heap ∧ va_K G.2.1 vwCl (wTy G) U ∧ wTok U ∧ wGeo G)
def wRm (d : Nat) : Room := { frames := d + 1, cells := 0, slots := 0, locals := 60 * (d + 1) }
/-- A METHOD'S CONTRACT: from this memory, with these arguments, it ends as Qc says -/
def wMet (l : Launch) (G : wG) (y : MethodName) (cc : ByteArray) (maxL : Nat) (ret : Option FieldType) (d : Nat) (av : List Value) (s0 : wM) (Qc : Array Value → State → Outcome → State → Prop) : Prop := Met l y [.code y cc maxL ret] (wRm d) (wPc G av s0) Qc 0 0 (wA G)
theorem wPc_blind {G : wG} {av : List Value} {s0 : wM} : FrameBlind (wPc G av s0) := fun _ U g mk q => ⟨q.1, q.2.1, va_K.moved (u := U) (Vm.Alike.refl U.vm) q.2.2.1, wTok.same (s := U) rfl q.2.2.2.1, q.2.2.2.2⟩
set_option maxHeartbeats 4000000 in
/-- from the body's walk to the contract -/
theorem wMet_of {l : Launch} {G : wG} {y : MethodName} {cc : ByteArray} {maxL : Nat} {ret : Option FieldType} {d : Nat} {av : List Value} {s0 : wM} {Qc : Array Value → State → Outcome → State → Prop} (hy : plainName y.cls = true) {own : String} (ho : y.cls = own) (hlen : (lg_sl av).length ≤ maxL)
    (body : ∀ X : wX, wOK G X cc own ret d → wRt G X Qc → wNl X = maxL → X.2.1 = l → WB G X 0 (lv_args 0 av) [] s0) : wMet l G y cc maxL ret d av s0 Qc := by
  subst ho
  refine Met.ofW (cc := cc) (maxL := maxL) (ret := ret) hy rfl ?_
  intro p e s m args below meth c s₁ B hml hv
  obtain ⟨rfl, hP, hK, hT, hG⟩ := hv
  have hown : s.vm.findClass y.cls = some m.cls := findClass_of_methodNamed B.named
  have h := body (p, l, e, (headSpec [.code y cc maxL ret] (wRm d)).room, s, m, av.toArray, below, meth, c, MQ below Qc av.toArray s 0 0 (wA G), maxL, 0, 0) ⟨B.exec, B.bytes, B.returns, hml, hown, hT, hK, B.notSynchronized, hG, Nat.le_refl _, Nat.le_refl _, Nat.zero_le _, Nat.zero_le _⟩ rfl rfl rfl
  rw [lg_entry_eq]
  exact h s.heap [] _ hP va_S.rf (lv_entry av hlen)
section WBR
variable {G : wG} {X : wX} {cc : ByteArray} {own : String} {ret : Option FieldType} {d : Nat} {pc : Nat} {loc : List (Nat × Value)} {st : List Value} {s : wM}
theorem wb_sub (ks : List Nat) {loc' : List (Nat × Value)} (h : lv_pick loc ks = loc') (k : WB G X pc loc' st s) : WB G X pc loc st s := by
  obtain ⟨p, l, e, R, s0, m, args, below, meth, c, Q, nL, cells, slots⟩ := X
  intro H locs ls hP hS hl
  exact k H locs ls hP hS (lv_sub hl ks h)
theorem wb_iconst {n : Int} {v : Int32} (hX : wOK G X cc own ret d) (hd : decode cc pc = .ok (.iconst n, 1)) (hv : Int32.ofInt n = v) {pq : Nat} (hp : pc + 1 = pq) (k : WB G X pq loc (.int v :: st) s) : WB G X pc loc (st) s := by
  subst hp
  obtain ⟨p, l, e, R, s0, m, args, below, meth, c, Q, nL, cells, slots⟩ := X
  obtain ⟨hx, hb, hr, hml, hown, hT, hK, hlk, hG, hfr, hlo, hce, hsl⟩ := hX
  intro H locs ls hP hS hl
  exact lv_iconst hx hb hd hv (k H locs ls hP hS hl)
theorem wb_bipush {n : Int} {v : Int32} (hX : wOK G X cc own ret d) (hd : decode cc pc = .ok (.bipush n, 2)) (hv : (Int8.ofInt n).toInt32 = v) {pq : Nat} (hp : pc + 2 = pq) (k : WB G X pq loc (.int v :: st) s) : WB G X pc loc (st) s := by
  subst hp
  obtain ⟨p, l, e, R, s0, m, args, below, meth, c, Q, nL, cells, slots⟩ := X
  obtain ⟨hx, hb, hr, hml, hown, hT, hK, hlk, hG, hfr, hlo, hce, hsl⟩ := hX
  intro H locs ls hP hS hl
  exact lv_bipush hx hb hd hv (k H locs ls hP hS hl)
theorem wb_sipush {n : Int} {v : Int32} (hX : wOK G X cc own ret d) (hd : decode cc pc = .ok (.sipush n, 3)) (hv : (Int16.ofInt n).toInt32 = v) {pq : Nat} (hp : pc + 3 = pq) (k : WB G X pq loc (.int v :: st) s) : WB G X pc loc (st) s := by
  subst hp
  obtain ⟨p, l, e, R, s0, m, args, below, meth, c, Q, nL, cells, slots⟩ := X
  obtain ⟨hx, hb, hr, hml, hown, hT, hK, hlk, hG, hfr, hlo, hce, hsl⟩ := hX
  intro H locs ls hP hS hl
  exact lv_sipush hx hb hd hv (k H locs ls hP hS hl)
theorem wb_lconst {n : Fin 2} {v : Int64} (hX : wOK G X cc own ret d) (hd : decode cc pc = .ok (.lconst n, 1)) (hv : Int64.ofNat (n : Nat) = v) {pq : Nat} (hp : pc + 1 = pq) (k : WB G X pq loc (.long v :: st) s) : WB G X pc loc (st) s := by
  subst hp
  obtain ⟨p, l, e, R, s0, m, args, below, meth, c, Q, nL, cells, slots⟩ := X
  obtain ⟨hx, hb, hr, hml, hown, hT, hK, hlk, hG, hfr, hlo, hce, hsl⟩ := hX
  intro H locs ls hP hS hl
  exact lv_lconst hx hb hd hv (k H locs ls hP hS hl)
theorem wb_ldc {i : Nat} {v : Int32} (hX : wOK G X cc own ret d) (hw : Cond.constant own i v ∈ wTs) (hd : decode cc pc = .ok (.ldc i, 2)) {pq : Nat} (hp : pc + 2 = pq) (k : WB G X pq loc (.int v :: st) s) : WB G X pc loc (st) s := by
  subst hp
  obtain ⟨p, l, e, R, s0, m, args, below, meth, c, Q, nL, cells, slots⟩ := X
  obtain ⟨hx, hb, hr, hml, hown, hT, hK, hlk, hG, hfr, hlo, hce, hsl⟩ := hX
  intro H locs ls hP hS hl
  exact lv_ldc hx hb hown (hT.1 _ hw _) hd (k H locs ls hP hS hl)
theorem wb_ldcw {i : Nat} {v : Int32} (hX : wOK G X cc own ret d) (hw : Cond.constant own i v ∈ wTs) (hd : decode cc pc = .ok (.ldc_w i, 3)) {pq : Nat} (hp : pc + 3 = pq) (k : WB G X pq loc (.int v :: st) s) : WB G X pc loc (st) s := by
  subst hp
  obtain ⟨p, l, e, R, s0, m, args, below, meth, c, Q, nL, cells, slots⟩ := X
  obtain ⟨hx, hb, hr, hml, hown, hT, hK, hlk, hG, hfr, hlo, hce, hsl⟩ := hX
  intro H locs ls hP hS hl
  exact lv_ldcw hx hb hown (hT.1 _ hw _) hd (k H locs ls hP hS hl)
theorem wb_ldc2 {i : Nat} {v : Int64} (hX : wOK G X cc own ret d) (hw : Cond.constantLong own i v ∈ wTs) (hd : decode cc pc = .ok (.ldc2_w i, 3)) {pq : Nat} (hp : pc + 3 = pq) (k : WB G X pq loc (.long v :: st) s) : WB G X pc loc (st) s := by
  subst hp
  obtain ⟨p, l, e, R, s0, m, args, below, meth, c, Q, nL, cells, slots⟩ := X
  obtain ⟨hx, hb, hr, hml, hown, hT, hK, hlk, hG, hfr, hlo, hce, hsl⟩ := hX
  intro H locs ls hP hS hl
  exact lv_ldc2 hx hb hown (hT.1 _ hw _) hd (k H locs ls hP hS hl)
theorem wb_iload_n (q : Nat) {i : Fin 4} {x : Int32} (hX : wOK G X cc own ret d) (hd : decode cc pc = .ok (.iload_n i, 1)) (hq : loc[q]? = some ((i : Nat), .int x)) {pq : Nat} (hp : pc + 1 = pq) (k : WB G X pq loc (.int x :: st) s) : WB G X pc loc (st) s := by
  subst hp
  obtain ⟨p, l, e, R, s0, m, args, below, meth, c, Q, nL, cells, slots⟩ := X
  obtain ⟨hx, hb, hr, hml, hown, hT, hK, hlk, hG, hfr, hlo, hce, hsl⟩ := hX
  intro H locs ls hP hS hl
  exact lv_iload_n hx hb hd rfl (lv_at hl q hq) (k H locs ls hP hS hl)
theorem wb_iload (q : Nat) {i : Nat} {x : Int32} (hX : wOK G X cc own ret d) (hd : decode cc pc = .ok (.iload i, 2)) (hq : loc[q]? = some (i, .int x)) {pq : Nat} (hp : pc + 2 = pq) (k : WB G X pq loc (.int x :: st) s) : WB G X pc loc (st) s := by
  subst hp
  obtain ⟨p, l, e, R, s0, m, args, below, meth, c, Q, nL, cells, slots⟩ := X
  obtain ⟨hx, hb, hr, hml, hown, hT, hK, hlk, hG, hfr, hlo, hce, hsl⟩ := hX
  intro H locs ls hP hS hl
  exact lv_iload hx hb hd (lv_at hl q hq) (k H locs ls hP hS hl)
theorem wb_lload_n (q : Nat) {i : Fin 4} {x : Int64} (hX : wOK G X cc own ret d) (hd : decode cc pc = .ok (.lload_n i, 1)) (hq : loc[q]? = some ((i : Nat), .long x)) {pq : Nat} (hp : pc + 1 = pq) (k : WB G X pq loc (.long x :: st) s) : WB G X pc loc (st) s := by
  subst hp
  obtain ⟨p, l, e, R, s0, m, args, below, meth, c, Q, nL, cells, slots⟩ := X
  obtain ⟨hx, hb, hr, hml, hown, hT, hK, hlk, hG, hfr, hlo, hce, hsl⟩ := hX
  intro H locs ls hP hS hl
  exact lv_lload_n hx hb hd rfl (lv_at hl q hq) (k H locs ls hP hS hl)
theorem wb_lload (q : Nat) {i : Nat} {x : Int64} (hX : wOK G X cc own ret d) (hd : decode cc pc = .ok (.lload i, 2)) (hq : loc[q]? = some (i, .long x)) {pq : Nat} (hp : pc + 2 = pq) (k : WB G X pq loc (.long x :: st) s) : WB G X pc loc (st) s := by
  subst hp
  obtain ⟨p, l, e, R, s0, m, args, below, meth, c, Q, nL, cells, slots⟩ := X
  obtain ⟨hx, hb, hr, hml, hown, hT, hK, hlk, hG, hfr, hlo, hce, hsl⟩ := hX
  intro H locs ls hP hS hl
  exact lv_lload hx hb hd (lv_at hl q hq) (k H locs ls hP hS hl)
theorem wb_aload_n (q : Nat) {i : Fin 4} {x : Nat} (hX : wOK G X cc own ret d) (hd : decode cc pc = .ok (.aload_n i, 1)) (hq : loc[q]? = some ((i : Nat), .ref x)) {pq : Nat} (hp : pc + 1 = pq) (k : WB G X pq loc (.ref x :: st) s) : WB G X pc loc (st) s := by
  subst hp
  obtain ⟨p, l, e, R, s0, m, args, below, meth, c, Q, nL, cells, slots⟩ := X
  obtain ⟨hx, hb, hr, hml, hown, hT, hK, hlk, hG, hfr, hlo, hce, hsl⟩ := hX
  intro H locs ls hP hS hl
  exact lv_aload_n hx hb hd rfl (lv_at hl q hq) (k H locs ls hP hS hl)
theorem wb_aload (q : Nat) {i : Nat} {x : Nat} (hX : wOK G X cc own ret d) (hd : decode cc pc = .ok (.aload i, 2)) (hq : loc[q]? = some (i, .ref x)) {pq : Nat} (hp : pc + 2 = pq) (k : WB G X pq loc (.ref x :: st) s) : WB G X pc loc (st) s := by
  subst hp
  obtain ⟨p, l, e, R, s0, m, args, below, meth, c, Q, nL, cells, slots⟩ := X
  obtain ⟨hx, hb, hr, hml, hown, hT, hK, hlk, hG, hfr, hlo, hce, hsl⟩ := hX
  intro H locs ls hP hS hl
  exact lv_aload hx hb hd (lv_at hl q hq) (k H locs ls hP hS hl)
theorem wb_istore_n {nL0 : Nat} {i : Fin 4} {x : Int32} {loc' : List (Nat × Value)} (hX : wOK G X cc own ret d) (hn0 : wNl X = nL0) (hd : decode cc pc = .ok (.istore_n i, 1)) (hn : (i : Nat)  < nL0) (hl' : ((i : Nat), Value.int x) :: loc.filter (fun q => !(q.1 == (i : Nat)) && !(q.1 + 1 == (i : Nat) && q.2.category == 2)) = loc') {pq : Nat} (hp : pc + 1 = pq) (k : WB G X pq loc' st s) : WB G X pc loc (Value.int x :: st) s := by
  subst hp
  obtain ⟨p, l, e, R, s0, m, args, below, meth, c, Q, nL, cells, slots⟩ := X
  obtain ⟨hx, hb, hr, hml, hown, hT, hK, hlk, hG, hfr, hlo, hce, hsl⟩ := hX
  intro H locs ls hP hS hl
  subst hn0
  exact lv_istore_n hx hb hd rfl hl hn hl' (fun ls' h' => k H locs ls' hP hS h')
theorem wb_lstore_n {nL0 : Nat} {i : Fin 4} {x : Int64} {loc' : List (Nat × Value)} (hX : wOK G X cc own ret d) (hn0 : wNl X = nL0) (hd : decode cc pc = .ok (.lstore_n i, 1)) (hn : (i : Nat) + 1 < nL0) (hl' : ((i : Nat), Value.long x) :: loc.filter (fun q => !(q.1 == (i : Nat)) && (!(q.1 == (i : Nat) + 1) && !(q.1 + 1 == (i : Nat) && q.2.category == 2))) = loc') {pq : Nat} (hp : pc + 1 = pq) (k : WB G X pq loc' st s) : WB G X pc loc (Value.long x :: st) s := by
  subst hp
  obtain ⟨p, l, e, R, s0, m, args, below, meth, c, Q, nL, cells, slots⟩ := X
  obtain ⟨hx, hb, hr, hml, hown, hT, hK, hlk, hG, hfr, hlo, hce, hsl⟩ := hX
  intro H locs ls hP hS hl
  subst hn0
  exact lv_lstore_n hx hb hd rfl hl hn hl' (fun ls' h' => k H locs ls' hP hS h')
theorem wb_astore_n {nL0 : Nat} {i : Fin 4} {x : Nat} {loc' : List (Nat × Value)} (hX : wOK G X cc own ret d) (hn0 : wNl X = nL0) (hd : decode cc pc = .ok (.astore_n i, 1)) (hn : (i : Nat)  < nL0) (hl' : ((i : Nat), Value.ref x) :: loc.filter (fun q => !(q.1 == (i : Nat)) && !(q.1 + 1 == (i : Nat) && q.2.category == 2)) = loc') {pq : Nat} (hp : pc + 1 = pq) (k : WB G X pq loc' st s) : WB G X pc loc (Value.ref x :: st) s := by
  subst hp
  obtain ⟨p, l, e, R, s0, m, args, below, meth, c, Q, nL, cells, slots⟩ := X
  obtain ⟨hx, hb, hr, hml, hown, hT, hK, hlk, hG, hfr, hlo, hce, hsl⟩ := hX
  intro H locs ls hP hS hl
  subst hn0
  exact lv_astore_n hx hb hd rfl hl hn hl' (fun ls' h' => k H locs ls' hP hS h')
theorem wb_istore {nL0 : Nat} {i : Nat} {x : Int32} {loc' : List (Nat × Value)} (hX : wOK G X cc own ret d) (hn0 : wNl X = nL0) (hd : decode cc pc = .ok (.istore i, 2)) (hn : (i : Nat)  < nL0) (hl' : ((i : Nat), Value.int x) :: loc.filter (fun q => !(q.1 == (i : Nat)) && !(q.1 + 1 == (i : Nat) && q.2.category == 2)) = loc') {pq : Nat} (hp : pc + 2 = pq) (k : WB G X pq loc' st s) : WB G X pc loc (Value.int x :: st) s := by
  subst hp
  obtain ⟨p, l, e, R, s0, m, args, below, meth, c, Q, nL, cells, slots⟩ := X
  obtain ⟨hx, hb, hr, hml, hown, hT, hK, hlk, hG, hfr, hlo, hce, hsl⟩ := hX
  intro H locs ls hP hS hl
  subst hn0
  exact lv_istore hx hb hd hl hn hl' (fun ls' h' => k H locs ls' hP hS h')
theorem wb_lstore {nL0 : Nat} {i : Nat} {x : Int64} {loc' : List (Nat × Value)} (hX : wOK G X cc own ret d) (hn0 : wNl X = nL0) (hd : decode cc pc = .ok (.lstore i, 2)) (hn : (i : Nat) + 1 < nL0) (hl' : ((i : Nat), Value.long x) :: loc.filter (fun q => !(q.1 == (i : Nat)) && (!(q.1 == (i : Nat) + 1) && !(q.1 + 1 == (i : Nat) && q.2.category == 2))) = loc') {pq : Nat} (hp : pc + 2 = pq) (k : WB G X pq loc' st s) : WB G X pc loc (Value.long x :: st) s := by
  subst hp
  obtain ⟨p, l, e, R, s0, m, args, below, meth, c, Q, nL, cells, slots⟩ := X
  obtain ⟨hx, hb, hr, hml, hown, hT, hK, hlk, hG, hfr, hlo, hce, hsl⟩ := hX
  intro H locs ls hP hS hl
  subst hn0
  exact lv_lstore hx hb hd hl hn hl' (fun ls' h' => k H locs ls' hP hS h')
theorem wb_astore {nL0 : Nat} {i : Nat} {x : Nat} {loc' : List (Nat × Value)} (hX : wOK G X cc own ret d) (hn0 : wNl X = nL0) (hd : decode cc pc = .ok (.astore i, 2)) (hn : (i : Nat)  < nL0) (hl' : ((i : Nat), Value.ref x) :: loc.filter (fun q => !(q.1 == (i : Nat)) && !(q.1 + 1 == (i : Nat) && q.2.category == 2)) = loc') {pq : Nat} (hp : pc + 2 = pq) (k : WB G X pq loc' st s) : WB G X pc loc (Value.ref x :: st) s := by
  subst hp
  obtain ⟨p, l, e, R, s0, m, args, below, meth, c, Q, nL, cells, slots⟩ := X
  obtain ⟨hx, hb, hr, hml, hown, hT, hK, hlk, hG, hfr, hlo, hce, hsl⟩ := hX
  intro H locs ls hP hS hl
  subst hn0
  exact lv_astore hx hb hd hl hn hl' (fun ls' h' => k H locs ls' hP hS h')
theorem wb_iinc {nL0 : Nat} (q : Nat) {i : Nat} {n : Int} {x v : Int32} {loc' : List (Nat × Value)} (hX : wOK G X cc own ret d) (hn0 : wNl X = nL0) (hd : decode cc pc = .ok (.iinc i n, 3)) (hq : loc[q]? = some (i, .int x)) (hv : x + Int32.ofInt n = v) (hn : i < nL0) (hl' : (i, Value.int v) :: loc.filter (fun q => !(q.1 == i) && !(q.1 + 1 == i && q.2.category == 2)) = loc') {pq : Nat} (hp : pc + 3 = pq) (k : WB G X pq loc' st s) : WB G X pc loc st s := by
  subst hp
  obtain ⟨p, l, e, R, s0, m, args, below, meth, c, Q, nL, cells, slots⟩ := X
  obtain ⟨hx, hb, hr, hml, hown, hT, hK, hlk, hG, hfr, hlo, hce, hsl⟩ := hX
  intro H locs ls hP hS hl
  subst hn0
  exact lv_iinc hx hb hd hl hq hv hn hl' (fun ls' h' => k H locs ls' hP hS h')
theorem wb_iadd {x y : Int32} (hX : wOK G X cc own ret d) (hd : decode cc pc = .ok (.iadd, 1)) {pq : Nat} (hp : pc + 1 = pq) (k : WB G X pq loc (.int (x + y) :: st) s) : WB G X pc loc (.int y :: .int x :: st) s := by
  subst hp
  obtain ⟨p, l, e, R, s0, m, args, below, meth, c, Q, nL, cells, slots⟩ := X
  obtain ⟨hx, hb, hr, hml, hown, hT, hK, hlk, hG, hfr, hlo, hce, hsl⟩ := hX
  intro H locs ls hP hS hl
  exact lv_iadd hx hb hd (k H locs ls hP hS hl)
theorem wb_isub {x y : Int32} (hX : wOK G X cc own ret d) (hd : decode cc pc = .ok (.isub, 1)) {pq : Nat} (hp : pc + 1 = pq) (k : WB G X pq loc (.int (x - y) :: st) s) : WB G X pc loc (.int y :: .int x :: st) s := by
  subst hp
  obtain ⟨p, l, e, R, s0, m, args, below, meth, c, Q, nL, cells, slots⟩ := X
  obtain ⟨hx, hb, hr, hml, hown, hT, hK, hlk, hG, hfr, hlo, hce, hsl⟩ := hX
  intro H locs ls hP hS hl
  exact lv_isub hx hb hd (k H locs ls hP hS hl)
theorem wb_imul {x y : Int32} (hX : wOK G X cc own ret d) (hd : decode cc pc = .ok (.imul, 1)) {pq : Nat} (hp : pc + 1 = pq) (k : WB G X pq loc (.int (x * y) :: st) s) : WB G X pc loc (.int y :: .int x :: st) s := by
  subst hp
  obtain ⟨p, l, e, R, s0, m, args, below, meth, c, Q, nL, cells, slots⟩ := X
  obtain ⟨hx, hb, hr, hml, hown, hT, hK, hlk, hG, hfr, hlo, hce, hsl⟩ := hX
  intro H locs ls hP hS hl
  exact lv_imul hx hb hd (k H locs ls hP hS hl)
theorem wb_iand {x y : Int32} (hX : wOK G X cc own ret d) (hd : decode cc pc = .ok (.iand, 1)) {pq : Nat} (hp : pc + 1 = pq) (k : WB G X pq loc (.int (x &&& y) :: st) s) : WB G X pc loc (.int y :: .int x :: st) s := by
  subst hp
  obtain ⟨p, l, e, R, s0, m, args, below, meth, c, Q, nL, cells, slots⟩ := X
  obtain ⟨hx, hb, hr, hml, hown, hT, hK, hlk, hG, hfr, hlo, hce, hsl⟩ := hX
  intro H locs ls hP hS hl
  exact lv_iand hx hb hd (k H locs ls hP hS hl)
theorem wb_ior {x y : Int32} (hX : wOK G X cc own ret d) (hd : decode cc pc = .ok (.ior, 1)) {pq : Nat} (hp : pc + 1 = pq) (k : WB G X pq loc (.int (x ||| y) :: st) s) : WB G X pc loc (.int y :: .int x :: st) s := by
  subst hp
  obtain ⟨p, l, e, R, s0, m, args, below, meth, c, Q, nL, cells, slots⟩ := X
  obtain ⟨hx, hb, hr, hml, hown, hT, hK, hlk, hG, hfr, hlo, hce, hsl⟩ := hX
  intro H locs ls hP hS hl
  exact lv_ior hx hb hd (k H locs ls hP hS hl)
theorem wb_ixor {x y : Int32} (hX : wOK G X cc own ret d) (hd : decode cc pc = .ok (.ixor, 1)) {pq : Nat} (hp : pc + 1 = pq) (k : WB G X pq loc (.int (x ^^^ y) :: st) s) : WB G X pc loc (.int y :: .int x :: st) s := by
  subst hp
  obtain ⟨p, l, e, R, s0, m, args, below, meth, c, Q, nL, cells, slots⟩ := X
  obtain ⟨hx, hb, hr, hml, hown, hT, hK, hlk, hG, hfr, hlo, hce, hsl⟩ := hX
  intro H locs ls hP hS hl
  exact lv_ixor hx hb hd (k H locs ls hP hS hl)
theorem wb_ishl {x y : Int32} (hX : wOK G X cc own ret d) (hd : decode cc pc = .ok (.ishl, 1)) {pq : Nat} (hp : pc + 1 = pq) (k : WB G X pq loc (.int (iShl x y) :: st) s) : WB G X pc loc (.int y :: .int x :: st) s := by
  subst hp
  obtain ⟨p, l, e, R, s0, m, args, below, meth, c, Q, nL, cells, slots⟩ := X
  obtain ⟨hx, hb, hr, hml, hown, hT, hK, hlk, hG, hfr, hlo, hce, hsl⟩ := hX
  intro H locs ls hP hS hl
  exact lv_ishl hx hb hd (k H locs ls hP hS hl)
theorem wb_ishr {x y : Int32} (hX : wOK G X cc own ret d) (hd : decode cc pc = .ok (.ishr, 1)) {pq : Nat} (hp : pc + 1 = pq) (k : WB G X pq loc (.int (iShr x y) :: st) s) : WB G X pc loc (.int y :: .int x :: st) s := by
  subst hp
  obtain ⟨p, l, e, R, s0, m, args, below, meth, c, Q, nL, cells, slots⟩ := X
  obtain ⟨hx, hb, hr, hml, hown, hT, hK, hlk, hG, hfr, hlo, hce, hsl⟩ := hX
  intro H locs ls hP hS hl
  exact lv_ishr hx hb hd (k H locs ls hP hS hl)
theorem wb_ladd {x y : Int64} (hX : wOK G X cc own ret d) (hd : decode cc pc = .ok (.ladd, 1)) {pq : Nat} (hp : pc + 1 = pq) (k : WB G X pq loc (.long (x + y) :: st) s) : WB G X pc loc (.long y :: .long x :: st) s := by
  subst hp
  obtain ⟨p, l, e, R, s0, m, args, below, meth, c, Q, nL, cells, slots⟩ := X
  obtain ⟨hx, hb, hr, hml, hown, hT, hK, hlk, hG, hfr, hlo, hce, hsl⟩ := hX
  intro H locs ls hP hS hl
  exact lv_ladd hx hb hd (k H locs ls hP hS hl)
theorem wb_lsub {x y : Int64} (hX : wOK G X cc own ret d) (hd : decode cc pc = .ok (.lsub, 1)) {pq : Nat} (hp : pc + 1 = pq) (k : WB G X pq loc (.long (x - y) :: st) s) : WB G X pc loc (.long y :: .long x :: st) s := by
  subst hp
  obtain ⟨p, l, e, R, s0, m, args, below, meth, c, Q, nL, cells, slots⟩ := X
  obtain ⟨hx, hb, hr, hml, hown, hT, hK, hlk, hG, hfr, hlo, hce, hsl⟩ := hX
  intro H locs ls hP hS hl
  exact lv_lsub hx hb hd (k H locs ls hP hS hl)
theorem wb_lmul {x y : Int64} (hX : wOK G X cc own ret d) (hd : decode cc pc = .ok (.lmul, 1)) {pq : Nat} (hp : pc + 1 = pq) (k : WB G X pq loc (.long (x * y) :: st) s) : WB G X pc loc (.long y :: .long x :: st) s := by
  subst hp
  obtain ⟨p, l, e, R, s0, m, args, below, meth, c, Q, nL, cells, slots⟩ := X
  obtain ⟨hx, hb, hr, hml, hown, hT, hK, hlk, hG, hfr, hlo, hce, hsl⟩ := hX
  intro H locs ls hP hS hl
  exact lv_lmul hx hb hd (k H locs ls hP hS hl)
theorem wb_land {x y : Int64} (hX : wOK G X cc own ret d) (hd : decode cc pc = .ok (.land, 1)) {pq : Nat} (hp : pc + 1 = pq) (k : WB G X pq loc (.long (x &&& y) :: st) s) : WB G X pc loc (.long y :: .long x :: st) s := by
  subst hp
  obtain ⟨p, l, e, R, s0, m, args, below, meth, c, Q, nL, cells, slots⟩ := X
  obtain ⟨hx, hb, hr, hml, hown, hT, hK, hlk, hG, hfr, hlo, hce, hsl⟩ := hX
  intro H locs ls hP hS hl
  exact lv_land hx hb hd (k H locs ls hP hS hl)
theorem wb_lor {x y : Int64} (hX : wOK G X cc own ret d) (hd : decode cc pc = .ok (.lor, 1)) {pq : Nat} (hp : pc + 1 = pq) (k : WB G X pq loc (.long (x ||| y) :: st) s) : WB G X pc loc (.long y :: .long x :: st) s := by
  subst hp
  obtain ⟨p, l, e, R, s0, m, args, below, meth, c, Q, nL, cells, slots⟩ := X
  obtain ⟨hx, hb, hr, hml, hown, hT, hK, hlk, hG, hfr, hlo, hce, hsl⟩ := hX
  intro H locs ls hP hS hl
  exact lv_lor hx hb hd (k H locs ls hP hS hl)
theorem wb_lxor {x y : Int64} (hX : wOK G X cc own ret d) (hd : decode cc pc = .ok (.lxor, 1)) {pq : Nat} (hp : pc + 1 = pq) (k : WB G X pq loc (.long (x ^^^ y) :: st) s) : WB G X pc loc (.long y :: .long x :: st) s := by
  subst hp
  obtain ⟨p, l, e, R, s0, m, args, below, meth, c, Q, nL, cells, slots⟩ := X
  obtain ⟨hx, hb, hr, hml, hown, hT, hK, hlk, hG, hfr, hlo, hce, hsl⟩ := hX
  intro H locs ls hP hS hl
  exact lv_lxor hx hb hd (k H locs ls hP hS hl)
theorem wb_idiv {x y : Int32} (hX : wOK G X cc own ret d) (hd : decode cc pc = .ok (.idiv, 1)) (hne : ¬ y = 0) {pq : Nat} (hp : pc + 1 = pq) (k : WB G X pq loc (.int (x / y) :: st) s) : WB G X pc loc (.int y :: .int x :: st) s := by
  subst hp
  obtain ⟨p, l, e, R, s0, m, args, below, meth, c, Q, nL, cells, slots⟩ := X
  obtain ⟨hx, hb, hr, hml, hown, hT, hK, hlk, hG, hfr, hlo, hce, hsl⟩ := hX
  intro H locs ls hP hS hl
  exact lv_idiv hx hb hd hne (k H locs ls hP hS hl)
theorem wb_irem {x y : Int32} (hX : wOK G X cc own ret d) (hd : decode cc pc = .ok (.irem, 1)) (hne : ¬ y = 0) {pq : Nat} (hp : pc + 1 = pq) (k : WB G X pq loc (.int (iRem x y) :: st) s) : WB G X pc loc (.int y :: .int x :: st) s := by
  subst hp
  obtain ⟨p, l, e, R, s0, m, args, below, meth, c, Q, nL, cells, slots⟩ := X
  obtain ⟨hx, hb, hr, hml, hown, hT, hK, hlk, hG, hfr, hlo, hce, hsl⟩ := hX
  intro H locs ls hP hS hl
  exact lv_irem hx hb hd hne (k H locs ls hP hS hl)
theorem wb_lrem {x y : Int64} (hX : wOK G X cc own ret d) (hd : decode cc pc = .ok (.lrem, 1)) (hne : ¬ y = 0) {pq : Nat} (hp : pc + 1 = pq) (k : WB G X pq loc (.long (lRem x y) :: st) s) : WB G X pc loc (.long y :: .long x :: st) s := by
  subst hp
  obtain ⟨p, l, e, R, s0, m, args, below, meth, c, Q, nL, cells, slots⟩ := X
  obtain ⟨hx, hb, hr, hml, hown, hT, hK, hlk, hG, hfr, hlo, hce, hsl⟩ := hX
  intro H locs ls hP hS hl
  exact lv_lrem hx hb hd hne (k H locs ls hP hS hl)
theorem wb_ineg {x : Int32} (hX : wOK G X cc own ret d) (hd : decode cc pc = .ok (.ineg, 1)) {pq : Nat} (hp : pc + 1 = pq) (k : WB G X pq loc (.int (-x) :: st) s) : WB G X pc loc (.int x :: st) s := by
  subst hp
  obtain ⟨p, l, e, R, s0, m, args, below, meth, c, Q, nL, cells, slots⟩ := X
  obtain ⟨hx, hb, hr, hml, hown, hT, hK, hlk, hG, hfr, hlo, hce, hsl⟩ := hX
  intro H locs ls hP hS hl
  exact lv_ineg hx hb hd (k H locs ls hP hS hl)
theorem wb_iushr {x y : Int32} (hX : wOK G X cc own ret d) (hd : decode cc pc = .ok (.iushr, 1)) {pq : Nat} (hp : pc + 1 = pq) (k : WB G X pq loc (.int (iUshr x y) :: st) s) : WB G X pc loc (.int y :: .int x :: st) s := by
  subst hp
  obtain ⟨p, l, e, R, s0, m, args, below, meth, c, Q, nL, cells, slots⟩ := X
  obtain ⟨hx, hb, hr, hml, hown, hT, hK, hlk, hG, hfr, hlo, hce, hsl⟩ := hX
  intro H locs ls hP hS hl
  exact lv_iushr hx hb hd rfl (k H locs ls hP hS hl)
theorem wb_lushr {x : Int64} {y : Int32} (hX : wOK G X cc own ret d) (hd : decode cc pc = .ok (.lushr, 1)) {pq : Nat} (hp : pc + 1 = pq) (k : WB G X pq loc (.long (lUshr x y) :: st) s) : WB G X pc loc (.int y :: .long x :: st) s := by
  subst hp
  obtain ⟨p, l, e, R, s0, m, args, below, meth, c, Q, nL, cells, slots⟩ := X
  obtain ⟨hx, hb, hr, hml, hown, hT, hK, hlk, hG, hfr, hlo, hce, hsl⟩ := hX
  intro H locs ls hP hS hl
  exact lv_lushr hx hb hd rfl (k H locs ls hP hS hl)
theorem wb_lshl {x : Int64} {y : Int32} (hX : wOK G X cc own ret d) (hd : decode cc pc = .ok (.lshl, 1)) {pq : Nat} (hp : pc + 1 = pq) (k : WB G X pq loc (.long (lShl x y) :: st) s) : WB G X pc loc (.int y :: .long x :: st) s := by
  subst hp
  obtain ⟨p, l, e, R, s0, m, args, below, meth, c, Q, nL, cells, slots⟩ := X
  obtain ⟨hx, hb, hr, hml, hown, hT, hK, hlk, hG, hfr, hlo, hce, hsl⟩ := hX
  intro H locs ls hP hS hl
  exact lv_lshl hx hb hd rfl (k H locs ls hP hS hl)
theorem wb_lshr {x : Int64} {y : Int32} (hX : wOK G X cc own ret d) (hd : decode cc pc = .ok (.lshr, 1)) {pq : Nat} (hp : pc + 1 = pq) (k : WB G X pq loc (.long (lShr x y) :: st) s) : WB G X pc loc (.int y :: .long x :: st) s := by
  subst hp
  obtain ⟨p, l, e, R, s0, m, args, below, meth, c, Q, nL, cells, slots⟩ := X
  obtain ⟨hx, hb, hr, hml, hown, hT, hK, hlk, hG, hfr, hlo, hce, hsl⟩ := hX
  intro H locs ls hP hS hl
  exact lv_lshr hx hb hd rfl (k H locs ls hP hS hl)
theorem wb_i2l {x : Int32} (hX : wOK G X cc own ret d) (hd : decode cc pc = .ok (.i2l, 1)) {pq : Nat} (hp : pc + 1 = pq) (k : WB G X pq loc (.long x.toInt64 :: st) s) : WB G X pc loc (.int x :: st) s := by
  subst hp
  obtain ⟨p, l, e, R, s0, m, args, below, meth, c, Q, nL, cells, slots⟩ := X
  obtain ⟨hx, hb, hr, hml, hown, hT, hK, hlk, hG, hfr, hlo, hce, hsl⟩ := hX
  intro H locs ls hP hS hl
  exact lv_i2l hx hb hd rfl (k H locs ls hP hS hl)
theorem wb_l2i {x : Int64} (hX : wOK G X cc own ret d) (hd : decode cc pc = .ok (.l2i, 1)) {pq : Nat} (hp : pc + 1 = pq) (k : WB G X pq loc (.int x.toInt32 :: st) s) : WB G X pc loc (.long x :: st) s := by
  subst hp
  obtain ⟨p, l, e, R, s0, m, args, below, meth, c, Q, nL, cells, slots⟩ := X
  obtain ⟨hx, hb, hr, hml, hown, hT, hK, hlk, hG, hfr, hlo, hce, hsl⟩ := hX
  intro H locs ls hP hS hl
  exact lv_l2i hx hb hd rfl (k H locs ls hP hS hl)
theorem wb_i2b {x : Int32} (hX : wOK G X cc own ret d) (hd : decode cc pc = .ok (.i2b, 1)) {pq : Nat} (hp : pc + 1 = pq) (k : WB G X pq loc (.int x.toInt8.toInt32 :: st) s) : WB G X pc loc (.int x :: st) s := by
  subst hp
  obtain ⟨p, l, e, R, s0, m, args, below, meth, c, Q, nL, cells, slots⟩ := X
  obtain ⟨hx, hb, hr, hml, hown, hT, hK, hlk, hG, hfr, hlo, hce, hsl⟩ := hX
  intro H locs ls hP hS hl
  exact lv_i2b hx hb hd rfl (k H locs ls hP hS hl)
theorem wb_i2s {x : Int32} (hX : wOK G X cc own ret d) (hd : decode cc pc = .ok (.i2s, 1)) {pq : Nat} (hp : pc + 1 = pq) (k : WB G X pq loc (.int x.toInt16.toInt32 :: st) s) : WB G X pc loc (.int x :: st) s := by
  subst hp
  obtain ⟨p, l, e, R, s0, m, args, below, meth, c, Q, nL, cells, slots⟩ := X
  obtain ⟨hx, hb, hr, hml, hown, hT, hK, hlk, hG, hfr, hlo, hce, hsl⟩ := hX
  intro H locs ls hP hS hl
  exact lv_i2s hx hb hd rfl (k H locs ls hP hS hl)
theorem wb_i2c {x : Int32} (hX : wOK G X cc own ret d) (hd : decode cc pc = .ok (.i2c, 1)) {pq : Nat} (hp : pc + 1 = pq) (k : WB G X pq loc (.int (iC x) :: st) s) : WB G X pc loc (.int x :: st) s := by
  subst hp
  obtain ⟨p, l, e, R, s0, m, args, below, meth, c, Q, nL, cells, slots⟩ := X
  obtain ⟨hx, hb, hr, hml, hown, hT, hK, hlk, hG, hfr, hlo, hce, hsl⟩ := hX
  intro H locs ls hP hS hl
  exact lv_i2c hx hb hd rfl (k H locs ls hP hS hl)
theorem wb_lcmp {x y : Int64} (hX : wOK G X cc own ret d) (hd : decode cc pc = .ok (.lcmp, 1)) {pq : Nat} (hp : pc + 1 = pq) (k : WB G X pq loc (.int (lg_cmp x y) :: st) s) : WB G X pc loc (.long y :: .long x :: st) s := by
  subst hp
  obtain ⟨p, l, e, R, s0, m, args, below, meth, c, Q, nL, cells, slots⟩ := X
  obtain ⟨hx, hb, hr, hml, hown, hT, hK, hlk, hG, hfr, hlo, hce, hsl⟩ := hX
  intro H locs ls hP hS hl
  exact W.lcmp hx hb hd (k H locs ls hP hS hl)
theorem wb_dup {v : Value} (hX : wOK G X cc own ret d) (hd : decode cc pc = .ok (.dup, 1)) (hv : v.category = 1) {pq : Nat} (hp : pc + 1 = pq) (k : WB G X pq loc (v :: v :: st) s) : WB G X pc loc (v :: st) s := by
  subst hp
  obtain ⟨p, l, e, R, s0, m, args, below, meth, c, Q, nL, cells, slots⟩ := X
  obtain ⟨hx, hb, hr, hml, hown, hT, hK, hlk, hG, hfr, hlo, hce, hsl⟩ := hX
  intro H locs ls hP hS hl
  exact lv_dup hx hb hd hv (k H locs ls hP hS hl)
theorem wb_pop {v : Value} (hX : wOK G X cc own ret d) (hd : decode cc pc = .ok (.pop, 1)) (hv : v.category = 1) {pq : Nat} (hp : pc + 1 = pq) (k : WB G X pq loc (st) s) : WB G X pc loc (v :: st) s := by
  subst hp
  obtain ⟨p, l, e, R, s0, m, args, below, meth, c, Q, nL, cells, slots⟩ := X
  obtain ⟨hx, hb, hr, hml, hown, hT, hK, hlk, hG, hfr, hlo, hce, hsl⟩ := hX
  intro H locs ls hP hS hl
  exact lv_pop hx hb hd hv (k H locs ls hP hS hl)
theorem wb_dup2 {v w : Value} (hX : wOK G X cc own ret d) (hd : decode cc pc = .ok (.dup2, 1)) (hv : v.category = 1) (hw : w.category = 1) {pq : Nat} (hp : pc + 1 = pq) (k : WB G X pq loc (v :: w :: v :: w :: st) s) : WB G X pc loc (v :: w :: st) s := by
  subst hp
  obtain ⟨p, l, e, R, s0, m, args, below, meth, c, Q, nL, cells, slots⟩ := X
  obtain ⟨hx, hb, hr, hml, hown, hT, hK, hlk, hG, hfr, hlo, hce, hsl⟩ := hX
  intro H locs ls hP hS hl
  exact lv_dup2_11 hx hb hd hv hw (k H locs ls hP hS hl)
theorem wb_if_eq {x : Int32} {off : Int} {tgt : Nat} (hX : wOK G X cc own ret d) (hd : decode cc pc = .ok (.ifCond .eq off, 3)) (ht : (pc : Int) + off = (tgt : Int)) (k1 : x = iI 0 → WB G X tgt loc st s) {pq : Nat} (hp : pc + 3 = pq) (k2 : ¬ (x = iI 0) → WB G X pq loc st s) : WB G X pc loc (.int x :: st) s := by
  subst hp
  obtain ⟨p, l, e, R, s0, m, args, below, meth, c, Q, nL, cells, slots⟩ := X
  obtain ⟨hx, hb, hr, hml, hown, hT, hK, hlk, hG, hfr, hlo, hce, hsl⟩ := hX
  intro H locs ls hP hS hl
  exact lv_if_eq hx hb hd ht (fun c => k1 c H locs ls hP hS hl) (fun c => k2 c H locs ls hP hS hl)
theorem wb_icmp_eq {x y : Int32} {off : Int} {tgt : Nat} (hX : wOK G X cc own ret d) (hd : decode cc pc = .ok (.if_icmp .eq off, 3)) (ht : (pc : Int) + off = (tgt : Int)) (k1 : x = y → WB G X tgt loc st s) {pq : Nat} (hp : pc + 3 = pq) (k2 : ¬ (x = y) → WB G X pq loc st s) : WB G X pc loc (.int y :: .int x :: st) s := by
  subst hp
  obtain ⟨p, l, e, R, s0, m, args, below, meth, c, Q, nL, cells, slots⟩ := X
  obtain ⟨hx, hb, hr, hml, hown, hT, hK, hlk, hG, hfr, hlo, hce, hsl⟩ := hX
  intro H locs ls hP hS hl
  exact lv_icmp_eq hx hb hd ht (fun c => k1 c H locs ls hP hS hl) (fun c => k2 c H locs ls hP hS hl)
theorem wb_if_lt {x : Int32} {off : Int} {tgt : Nat} (hX : wOK G X cc own ret d) (hd : decode cc pc = .ok (.ifCond .lt off, 3)) (ht : (pc : Int) + off = (tgt : Int)) (k1 : x < iI 0 → WB G X tgt loc st s) {pq : Nat} (hp : pc + 3 = pq) (k2 : ¬ (x < iI 0) → WB G X pq loc st s) : WB G X pc loc (.int x :: st) s := by
  subst hp
  obtain ⟨p, l, e, R, s0, m, args, below, meth, c, Q, nL, cells, slots⟩ := X
  obtain ⟨hx, hb, hr, hml, hown, hT, hK, hlk, hG, hfr, hlo, hce, hsl⟩ := hX
  intro H locs ls hP hS hl
  exact lv_if_lt hx hb hd ht (fun c => k1 c H locs ls hP hS hl) (fun c => k2 c H locs ls hP hS hl)
theorem wb_icmp_lt {x y : Int32} {off : Int} {tgt : Nat} (hX : wOK G X cc own ret d) (hd : decode cc pc = .ok (.if_icmp .lt off, 3)) (ht : (pc : Int) + off = (tgt : Int)) (k1 : x < y → WB G X tgt loc st s) {pq : Nat} (hp : pc + 3 = pq) (k2 : ¬ (x < y) → WB G X pq loc st s) : WB G X pc loc (.int y :: .int x :: st) s := by
  subst hp
  obtain ⟨p, l, e, R, s0, m, args, below, meth, c, Q, nL, cells, slots⟩ := X
  obtain ⟨hx, hb, hr, hml, hown, hT, hK, hlk, hG, hfr, hlo, hce, hsl⟩ := hX
  intro H locs ls hP hS hl
  exact lv_icmp_lt hx hb hd ht (fun c => k1 c H locs ls hP hS hl) (fun c => k2 c H locs ls hP hS hl)
theorem wb_if_ge {x : Int32} {off : Int} {tgt : Nat} (hX : wOK G X cc own ret d) (hd : decode cc pc = .ok (.ifCond .ge off, 3)) (ht : (pc : Int) + off = (tgt : Int)) (k1 : iI 0 ≤ x → WB G X tgt loc st s) {pq : Nat} (hp : pc + 3 = pq) (k2 : ¬ (iI 0 ≤ x) → WB G X pq loc st s) : WB G X pc loc (.int x :: st) s := by
  subst hp
  obtain ⟨p, l, e, R, s0, m, args, below, meth, c, Q, nL, cells, slots⟩ := X
  obtain ⟨hx, hb, hr, hml, hown, hT, hK, hlk, hG, hfr, hlo, hce, hsl⟩ := hX
  intro H locs ls hP hS hl
  exact lv_if_ge hx hb hd ht (fun c => k1 c H locs ls hP hS hl) (fun c => k2 c H locs ls hP hS hl)
theorem wb_icmp_ge {x y : Int32} {off : Int} {tgt : Nat} (hX : wOK G X cc own ret d) (hd : decode cc pc = .ok (.if_icmp .ge off, 3)) (ht : (pc : Int) + off = (tgt : Int)) (k1 : y ≤ x → WB G X tgt loc st s) {pq : Nat} (hp : pc + 3 = pq) (k2 : ¬ (y ≤ x) → WB G X pq loc st s) : WB G X pc loc (.int y :: .int x :: st) s := by
  subst hp
  obtain ⟨p, l, e, R, s0, m, args, below, meth, c, Q, nL, cells, slots⟩ := X
  obtain ⟨hx, hb, hr, hml, hown, hT, hK, hlk, hG, hfr, hlo, hce, hsl⟩ := hX
  intro H locs ls hP hS hl
  exact lv_icmp_ge hx hb hd ht (fun c => k1 c H locs ls hP hS hl) (fun c => k2 c H locs ls hP hS hl)
theorem wb_if_gt {x : Int32} {off : Int} {tgt : Nat} (hX : wOK G X cc own ret d) (hd : decode cc pc = .ok (.ifCond .gt off, 3)) (ht : (pc : Int) + off = (tgt : Int)) (k1 : iI 0 < x → WB G X tgt loc st s) {pq : Nat} (hp : pc + 3 = pq) (k2 : ¬ (iI 0 < x) → WB G X pq loc st s) : WB G X pc loc (.int x :: st) s := by
  subst hp
  obtain ⟨p, l, e, R, s0, m, args, below, meth, c, Q, nL, cells, slots⟩ := X
  obtain ⟨hx, hb, hr, hml, hown, hT, hK, hlk, hG, hfr, hlo, hce, hsl⟩ := hX
  intro H locs ls hP hS hl
  exact lv_if_gt hx hb hd ht (fun c => k1 c H locs ls hP hS hl) (fun c => k2 c H locs ls hP hS hl)
theorem wb_icmp_gt {x y : Int32} {off : Int} {tgt : Nat} (hX : wOK G X cc own ret d) (hd : decode cc pc = .ok (.if_icmp .gt off, 3)) (ht : (pc : Int) + off = (tgt : Int)) (k1 : y < x → WB G X tgt loc st s) {pq : Nat} (hp : pc + 3 = pq) (k2 : ¬ (y < x) → WB G X pq loc st s) : WB G X pc loc (.int y :: .int x :: st) s := by
  subst hp
  obtain ⟨p, l, e, R, s0, m, args, below, meth, c, Q, nL, cells, slots⟩ := X
  obtain ⟨hx, hb, hr, hml, hown, hT, hK, hlk, hG, hfr, hlo, hce, hsl⟩ := hX
  intro H locs ls hP hS hl
  exact lv_icmp_gt hx hb hd ht (fun c => k1 c H locs ls hP hS hl) (fun c => k2 c H locs ls hP hS hl)
theorem wb_if_le {x : Int32} {off : Int} {tgt : Nat} (hX : wOK G X cc own ret d) (hd : decode cc pc = .ok (.ifCond .le off, 3)) (ht : (pc : Int) + off = (tgt : Int)) (k1 : x ≤ iI 0 → WB G X tgt loc st s) {pq : Nat} (hp : pc + 3 = pq) (k2 : ¬ (x ≤ iI 0) → WB G X pq loc st s) : WB G X pc loc (.int x :: st) s := by
  subst hp
  obtain ⟨p, l, e, R, s0, m, args, below, meth, c, Q, nL, cells, slots⟩ := X
  obtain ⟨hx, hb, hr, hml, hown, hT, hK, hlk, hG, hfr, hlo, hce, hsl⟩ := hX
  intro H locs ls hP hS hl
  exact lv_if_le hx hb hd ht (fun c => k1 c H locs ls hP hS hl) (fun c => k2 c H locs ls hP hS hl)
theorem wb_icmp_le {x y : Int32} {off : Int} {tgt : Nat} (hX : wOK G X cc own ret d) (hd : decode cc pc = .ok (.if_icmp .le off, 3)) (ht : (pc : Int) + off = (tgt : Int)) (k1 : x ≤ y → WB G X tgt loc st s) {pq : Nat} (hp : pc + 3 = pq) (k2 : ¬ (x ≤ y) → WB G X pq loc st s) : WB G X pc loc (.int y :: .int x :: st) s := by
  subst hp
  obtain ⟨p, l, e, R, s0, m, args, below, meth, c, Q, nL, cells, slots⟩ := X
  obtain ⟨hx, hb, hr, hml, hown, hT, hK, hlk, hG, hfr, hlo, hce, hsl⟩ := hX
  intro H locs ls hP hS hl
  exact lv_icmp_le hx hb hd ht (fun c => k1 c H locs ls hP hS hl) (fun c => k2 c H locs ls hP hS hl)
theorem wb_if_ne {x : Int32} {off : Int} {tgt : Nat} (hX : wOK G X cc own ret d) (hd : decode cc pc = .ok (.ifCond .ne off, 3)) (ht : (pc : Int) + off = (tgt : Int)) {pq : Nat} (hp : pc + 3 = pq) (k1 : x = iI 0 → WB G X pq loc st s) (k2 : ¬ (x = iI 0) → WB G X tgt loc st s) : WB G X pc loc (.int x :: st) s := by
  subst hp
  obtain ⟨p, l, e, R, s0, m, args, below, meth, c, Q, nL, cells, slots⟩ := X
  obtain ⟨hx, hb, hr, hml, hown, hT, hK, hlk, hG, hfr, hlo, hce, hsl⟩ := hX
  intro H locs ls hP hS hl
  exact lv_if_ne hx hb hd ht (fun c => k2 c H locs ls hP hS hl) (fun c => k1 c H locs ls hP hS hl)
theorem wb_icmp_ne {x y : Int32} {off : Int} {tgt : Nat} (hX : wOK G X cc own ret d) (hd : decode cc pc = .ok (.if_icmp .ne off, 3)) (ht : (pc : Int) + off = (tgt : Int)) {pq : Nat} (hp : pc + 3 = pq) (k1 : x = y → WB G X pq loc st s) (k2 : ¬ (x = y) → WB G X tgt loc st s) : WB G X pc loc (.int y :: .int x :: st) s := by
  subst hp
  obtain ⟨p, l, e, R, s0, m, args, below, meth, c, Q, nL, cells, slots⟩ := X
  obtain ⟨hx, hb, hr, hml, hown, hT, hK, hlk, hG, hfr, hlo, hce, hsl⟩ := hX
  intro H locs ls hP hS hl
  exact lv_icmp_ne hx hb hd ht (fun c => k2 c H locs ls hP hS hl) (fun c => k1 c H locs ls hP hS hl)
theorem wb_goto {off : Int} {tgt : Nat} (hX : wOK G X cc own ret d) (hd : decode cc pc = .ok (.goto off, 3)) (ht : (pc : Int) + off = (tgt : Int)) (k : WB G X tgt loc st s) : WB G X pc loc st s := by
  obtain ⟨p, l, e, R, s0, m, args, below, meth, c, Q, nL, cells, slots⟩ := X
  obtain ⟨hx, hb, hr, hml, hown, hT, hK, hlk, hG, hfr, hlo, hce, hsl⟩ := hX
  intro H locs ls hP hS hl
  exact lv_goto hx hb hd ht (k H locs ls hP hS hl)
/-- a class of the world: its number, its name, its fields -/
def wCl (ci : Nat) (C : String) (T : u_T) (N : Nat) (ty : Nat → FieldType) : Prop := (∀ w ∈ u_ws C T N, w ∈ wTs) ∧ vwCl[ci]? = some (C, T, N) ∧ (∀ k, k < N → parseFieldDescriptor (T k).2.2.1 = some (ty k)) ∧ ∀ a, a < N → ∀ b, b < N → a ≠ b → (T a).2.1 ≠ (T b).2.1
/-- a field as the class own names it at the entry idx -/
def wFl (own : String) (idx ci j : Nat) (ft : FieldType) : Prop := ∃ (C : String) (T : u_T) (N : Nat) (ty : Nat → FieldType), wCl ci C T N ty ∧ j < N ∧ Cond.fieldLink own idx (T j).1 (T j).2.1 (T j).2.2.1 ∈ wTs ∧ ty j = ft
def wFp (own : String) (idx ci j : Nat) (ft : FieldType) : Prop := ∃ (C : String) (T : u_T) (N : Nat) (ty : Nat → FieldType), wCl ci C T N ty ∧ j < N ∧ Cond.fieldLink own idx (T j).1 (T j).2.1 (T j).2.2.1 ∈ wTs ∧ ty j = ft ∧ (T j).2.2.2 = false
theorem wb_getI {idx ci j k : Nat} {ft : FieldType} {fs : List (Option Nat)} (hX : wOK G X cc own ret d) (hF : wFl own idx ci j ft) (hk : wSh[k]? = some (.inr (ci, fs))) (hj : fs[j]? = some none) (hd : decode cc pc = .ok (.getfield idx, 3)) {pq : Nat} (hp : pc + 3 = pq) (kk : WB G X pq loc (.int (s.1 k j) :: st) s) : WB G X pc loc (.ref (G.1 k) :: st) s := by
  obtain ⟨p, l, e, R, s0, m, args, below, meth, c, Q, nL, cells, slots⟩ := X
  obtain ⟨hx, hb, hr, hml, hown, hT, hK, hlk, hG, hfr, hlo, hce, hsl⟩ := hX
  intro H locs ls hP hS hl
  (try subst hp)
  obtain ⟨C, T, N, ty, hC, hjN, hw, -⟩ := hF
  exact va_get (C := C) (T := T) (N := N) hx hb (fun w hw => hT.1 w hw _) hC.1 hown hK hP k (wL_at hk) hC.2.1 j hjN (hT.1 _ hw _) (fun _ h => h) (v := .int (s.1 k j)) (by simp [wFs, List.getElem?_mapIdx, hj, wFv]) hd (kk H locs ls hP hS hl)
theorem wb_getR {idx ci j k r : Nat} {ft : FieldType} {fs : List (Option Nat)} (hX : wOK G X cc own ret d) (hF : wFl own idx ci j ft) (hk : wSh[k]? = some (.inr (ci, fs))) (hj : fs[j]? = some (some r)) (hd : decode cc pc = .ok (.getfield idx, 3)) {pq : Nat} (hp : pc + 3 = pq) (kk : WB G X pq loc (.ref (G.1 r) :: st) s) : WB G X pc loc (.ref (G.1 k) :: st) s := by
  obtain ⟨p, l, e, R, s0, m, args, below, meth, c, Q, nL, cells, slots⟩ := X
  obtain ⟨hx, hb, hr, hml, hown, hT, hK, hlk, hG, hfr, hlo, hce, hsl⟩ := hX
  intro H locs ls hP hS hl
  (try subst hp)
  obtain ⟨C, T, N, ty, hC, hjN, hw, -⟩ := hF
  exact va_get (C := C) (T := T) (N := N) hx hb (fun w hw => hT.1 w hw _) hC.1 hown hK hP k (wL_at hk) hC.2.1 j hjN (hT.1 _ hw _) (fun _ h => h) (v := .ref (G.1 r)) (by simp [wFs, List.getElem?_mapIdx, hj, wFv]) hd (kk H locs ls hP hS hl)
theorem wb_putI {idx ci j k : Nat} {ft : FieldType} {fs : List (Option Nat)} {v : Int32} (hX : wOK G X cc own ret d) (hF : wFp own idx ci j ft) (hk : wSh[k]? = some (.inr (ci, fs))) (hj : fs[j]? = some none) (hd : decode cc pc = .ok (.putfield idx, 3)) (hn : narrow ft (.int v) = .int v) (hft : fits ft (.int v) = true) {pq : Nat} (hp : pc + 3 = pq) (kk : WB G X pq loc st (wsI s k j v)) : WB G X pc loc (.int v :: .ref (G.1 k) :: st) s := by
  obtain ⟨p, l, e, R, s0, m, args, below, meth, c, Q, nL, cells, slots⟩ := X
  obtain ⟨hx, hb, hr, hml, hown, hT, hK, hlk, hG, hfr, hlo, hce, hsl⟩ := hX
  intro H locs ls hP hS hl
  (try subst hp)
  obtain ⟨C, T, N, ty, hC, hjN, hw, hty, hfin⟩ := hF
  subst hty
  refine va_put (C := C) (T := T) (N := N) hx hb (fun w hw => hT.1 w hw _) hC.1 ty hC.2.2.1 hC.2.2.2 hown hK hP (wL_D hG s) hS k (wL_at hk) hC.2.1 j hjN (hT.1 _ hw _) (fun _ h => h) hfin (hC.2.2.1 j hjN) hn hft (by simp [wFs]; exact (List.getElem?_eq_some_iff.mp hj).1) hd (fun H1 locs1 hP1 _ hS1 => kk H1 locs1 ls ?_ hS1 hl)
  rw [wFs_set hj] at hP1
  exact (wL_set (s' := wsI s k j v) hk (fun i hi => wsI_off i hi)) ▸ hP1
theorem wb_iald {k n r t : Nat} {i : Int32} (hX : wOK G X cc own ret d) (hk : wSh[k]? = some (.inl (.int, n, r, t))) (hin : vp_in i n) (hd : decode cc pc = .ok (.iaload, 1)) {pq : Nat} (hp : pc + 1 = pq) (kk : WB G X pq loc (.int (s.1 k i.toNatClampNeg) :: st) s) : WB G X pc loc (.int i :: .ref (G.1 k) :: st) s := by
  obtain ⟨p, l, e, R, s0, m, args, below, meth, c, Q, nL, cells, slots⟩ := X
  obtain ⟨hx, hb, hr, hml, hown, hT, hK, hlk, hG, hfr, hlo, hce, hsl⟩ := hX
  intro H locs ls hP hS hl
  (try subst hp)
  exact va_iald hx hb hK hP k 0 (wL_at hk) rfl hin hd (kk H locs ls hP hS hl)
theorem wb_lald {k n r t : Nat} {i : Int32} (hX : wOK G X cc own ret d) (hk : wSh[k]? = some (.inl (.long, n, r, t))) (hin : vp_in i n) (hd : decode cc pc = .ok (.laload, 1)) {pq : Nat} (hp : pc + 1 = pq) (kk : WB G X pq loc (.long (s.2 k i.toNatClampNeg) :: st) s) : WB G X pc loc (.int i :: .ref (G.1 k) :: st) s := by
  obtain ⟨p, l, e, R, s0, m, args, below, meth, c, Q, nL, cells, slots⟩ := X
  obtain ⟨hx, hb, hr, hml, hown, hT, hK, hlk, hG, hfr, hlo, hce, hsl⟩ := hX
  intro H locs ls hP hS hl
  (try subst hp)
  exact va_lald hx hb hK hP k 1 (wL_at hk) rfl hin hd (kk H locs ls hP hS hl)
theorem wb_zald {k n r t : Nat} {i : Int32} (hX : wOK G X cc own ret d) (hk : wSh[k]? = some (.inl (.boolean, n, r, t))) (hin : vp_in i n) (hd : decode cc pc = .ok (.baload, 1)) {pq : Nat} (hp : pc + 1 = pq) (kk : WB G X pq loc (.int (s.1 k i.toNatClampNeg) :: st) s) : WB G X pc loc (.int i :: .ref (G.1 k) :: st) s := by
  obtain ⟨p, l, e, R, s0, m, args, below, meth, c, Q, nL, cells, slots⟩ := X
  obtain ⟨hx, hb, hr, hml, hown, hT, hK, hlk, hG, hfr, hlo, hce, hsl⟩ := hX
  intro H locs ls hP hS hl
  (try subst hp)
  exact va_zald hx hb hK hP k 2 (wL_at hk) rfl hin hd (kk H locs ls hP hS hl)
theorem wb_cald {k n r t : Nat} {i : Int32} (hX : wOK G X cc own ret d) (hk : wSh[k]? = some (.inl (.char, n, r, t))) (hin : vp_in i n) (hd : decode cc pc = .ok (.caload, 1)) {pq : Nat} (hp : pc + 1 = pq) (kk : WB G X pq loc (.int (s.1 k i.toNatClampNeg) :: st) s) : WB G X pc loc (.int i :: .ref (G.1 k) :: st) s := by
  obtain ⟨p, l, e, R, s0, m, args, below, meth, c, Q, nL, cells, slots⟩ := X
  obtain ⟨hx, hb, hr, hml, hown, hT, hK, hlk, hG, hfr, hlo, hce, hsl⟩ := hX
  intro H locs ls hP hS hl
  (try subst hp)
  exact va_cald hx hb hK hP k 3 (wL_at hk) rfl hin hd (kk H locs ls hP hS hl)
theorem wb_aald {k n r t : Nat} {i : Int32} (hX : wOK G X cc own ret d) (hk : wSh[k]? = some (.inl (wSn, n, r, t))) (hin : vp_in i n) (hd : decode cc pc = .ok (.aaload, 1)) {pq : Nat} (hp : pc + 1 = pq) (kk : WB G X pq loc (.ref (G.1 (r + t * i.toNatClampNeg)) :: st) s) : WB G X pc loc (.int i :: .ref (G.1 k) :: st) s := by
  obtain ⟨p, l, e, R, s0, m, args, below, meth, c, Q, nL, cells, slots⟩ := X
  obtain ⟨hx, hb, hr, hml, hown, hT, hK, hlk, hG, hfr, hlo, hce, hsl⟩ := hX
  intro H locs ls hP hS hl
  (try subst hp)
  exact va_aldq hx hb hK hP k 4 (wL_at hk) rfl hin hd (kk H locs ls hP hS hl)
theorem wb_iast {k n r t : Nat} {i : Int32} {x : Int32} (hX : wOK G X cc own ret d) (hk : wSh[k]? = some (.inl (.int, n, r, t))) (hin : vp_in i n) (hd : decode cc pc = .ok (.iastore, 1)) {pq : Nat} (hp : pc + 1 = pq) (kk : WB G X pq loc st (wsI s k i.toNatClampNeg x)) : WB G X pc loc (.int x :: .int i :: .ref (G.1 k) :: st) s := by
  obtain ⟨p, l, e, R, s0, m, args, below, meth, c, Q, nL, cells, slots⟩ := X
  obtain ⟨hx, hb, hr, hml, hown, hT, hK, hlk, hG, hfr, hlo, hce, hsl⟩ := hX
  intro H locs ls hP hS hl
  (try subst hp)
  refine va_iast hx hb hK hP (wL_D hG s) hS k 0 (wL_at hk) rfl hin hd (fun H1 locs1 hP1 _ hS1 => kk H1 locs1 ls ?_ hS1 hl)
  rw [← wL_set (s := s) (s' := wsI s k i.toNatClampNeg x) hk (fun i hi => wsI_off i hi)]
  simp only [wE, wArr, wsI_at]
  exact hP1
theorem wb_last {k n r t : Nat} {i : Int32} {x : Int64} (hX : wOK G X cc own ret d) (hk : wSh[k]? = some (.inl (.long, n, r, t))) (hin : vp_in i n) (hd : decode cc pc = .ok (.lastore, 1)) {pq : Nat} (hp : pc + 1 = pq) (kk : WB G X pq loc st (wsL s k i.toNatClampNeg x)) : WB G X pc loc (.long x :: .int i :: .ref (G.1 k) :: st) s := by
  obtain ⟨p, l, e, R, s0, m, args, below, meth, c, Q, nL, cells, slots⟩ := X
  obtain ⟨hx, hb, hr, hml, hown, hT, hK, hlk, hG, hfr, hlo, hce, hsl⟩ := hX
  intro H locs ls hP hS hl
  (try subst hp)
  refine va_last hx hb hK hP (wL_D hG s) hS k 1 (wL_at hk) rfl hin hd (fun H1 locs1 hP1 _ hS1 => kk H1 locs1 ls ?_ hS1 hl)
  rw [← wL_set (s := s) (s' := wsL s k i.toNatClampNeg x) hk (fun i hi => wsL_off i hi)]
  simp only [wE, wArr, wsL_at]
  exact hP1
theorem wb_zast {k n r t : Nat} {i : Int32} {x : Int32} (hX : wOK G X cc own ret d) (hk : wSh[k]? = some (.inl (.boolean, n, r, t))) (hin : vp_in i n) (hn : vp_nar .boolean x = x) (hd : decode cc pc = .ok (.bastore, 1)) {pq : Nat} (hp : pc + 1 = pq) (kk : WB G X pq loc st (wsI s k i.toNatClampNeg x)) : WB G X pc loc (.int x :: .int i :: .ref (G.1 k) :: st) s := by
  obtain ⟨p, l, e, R, s0, m, args, below, meth, c, Q, nL, cells, slots⟩ := X
  obtain ⟨hx, hb, hr, hml, hown, hT, hK, hlk, hG, hfr, hlo, hce, hsl⟩ := hX
  intro H locs ls hP hS hl
  (try subst hp)
  refine va_zast hx hb hK hP (wL_D hG s) hS k 2 (wL_at hk) rfl hin hd (fun H1 locs1 hP1 _ hS1 => kk H1 locs1 ls ?_ hS1 hl)
  rw [← wL_set (s := s) (s' := wsI s k i.toNatClampNeg x) hk (fun i hi => wsI_off i hi)]
  simp only [wE, wArr, wsI_at]
  rw [hn] at hP1
  exact hP1
theorem wb_cast {k n r t : Nat} {i : Int32} {x : Int32} (hX : wOK G X cc own ret d) (hk : wSh[k]? = some (.inl (.char, n, r, t))) (hin : vp_in i n) (hn : vp_nar .char x = x) (hd : decode cc pc = .ok (.castore, 1)) {pq : Nat} (hp : pc + 1 = pq) (kk : WB G X pq loc st (wsI s k i.toNatClampNeg x)) : WB G X pc loc (.int x :: .int i :: .ref (G.1 k) :: st) s := by
  obtain ⟨p, l, e, R, s0, m, args, below, meth, c, Q, nL, cells, slots⟩ := X
  obtain ⟨hx, hb, hr, hml, hown, hT, hK, hlk, hG, hfr, hlo, hce, hsl⟩ := hX
  intro H locs ls hP hS hl
  (try subst hp)
  refine va_cast hx hb hK hP (wL_D hG s) hS k 3 (wL_at hk) rfl hin hd (fun H1 locs1 hP1 _ hS1 => kk H1 locs1 ls ?_ hS1 hl)
  rw [← wL_set (s := s) (s' := wsI s k i.toNatClampNeg x) hk (fun i hi => wsI_off i hi)]
  simp only [wE, wArr, wsI_at]
  rw [hn] at hP1
  exact hP1
theorem wb_iret {r0 : Int32} {s1 : wM} (hX : wOK G X cc own (some .int) d) (hQ : wRt G X (wQi G r0 s1)) {r : Int32} (h : (some (r, s) : Option (Int32 × wM)) = some (r0, s1)) (hd : decode cc pc = .ok (.ireturn, 1)) : WB G X pc loc [.int r] s := by
  obtain ⟨p, l, e, R, s0, m, args, below, meth, c, Q, nL, cells, slots⟩ := X
  obtain ⟨hx, hb, hr, hml, hown, hT, hK, hlk, hG, hfr, hlo, hce, hsl⟩ := hX
  intro H locs ls hP hS hl
  (try subst hp)
  cases h
  simp only [wRt] at hQ
  subst hQ
  exact W.iret hx hb hr (fun t ht _ => ⟨⟨_, _, rfl, ⟨rfl, rfl⟩, by show va_P _ _ _ t.heap; rw [ht]; exact hP⟩, hS.F ht⟩) hS.2.2 hd hlk
theorem wb_zret {r0 : Int32} {s1 : wM} {ty : FieldType} (hX : wOK G X cc own (some ty) d) (hQ : wRt G X (wQi G r0 s1)) {r : Int32} (h : (some (r, s) : Option (Int32 × wM)) = some (r0, s1)) (hn : narrow ty (.int r) = .int r) (hd : decode cc pc = .ok (.ireturn, 1)) : WB G X pc loc [.int r] s := by
  obtain ⟨p, l, e, R, s0, m, args, below, meth, c, Q, nL, cells, slots⟩ := X
  obtain ⟨hx, hb, hr, hml, hown, hT, hK, hlk, hG, hfr, hlo, hce, hsl⟩ := hX
  intro H locs ls hP hS hl
  (try subst hp)
  cases h
  simp only [wRt] at hQ
  subst hQ
  exact W.zret hx hb hr hn (fun t ht _ => ⟨⟨_, _, rfl, ⟨rfl, rfl⟩, by show va_P _ _ _ t.heap; rw [ht]; exact hP⟩, hS.F ht⟩) hS.2.2 hd hlk
theorem wb_lret {r0 : Int64} {s1 : wM} (hX : wOK G X cc own (some .long) d) (hQ : wRt G X (wQl G r0 s1)) {r : Int64} (h : (some (r, s) : Option (Int64 × wM)) = some (r0, s1)) (hd : decode cc pc = .ok (.lreturn, 1)) : WB G X pc loc [.long r] s := by
  obtain ⟨p, l, e, R, s0, m, args, below, meth, c, Q, nL, cells, slots⟩ := X
  obtain ⟨hx, hb, hr, hml, hown, hT, hK, hlk, hG, hfr, hlo, hce, hsl⟩ := hX
  intro H locs ls hP hS hl
  (try subst hp)
  cases h
  simp only [wRt] at hQ
  subst hQ
  exact W.lret hx hb hr (fun t ht _ => ⟨⟨_, _, rfl, ⟨rfl, rfl⟩, by show va_P _ _ _ t.heap; rw [ht]; exact hP⟩, hS.F ht⟩) hS.2.2 hd hlk
theorem wb_vret {s1 : wM} (hX : wOK G X cc own none d) (hQ : wRt G X (wQv G s1)) (h : (some s : Option wM) = some s1) (hd : decode cc pc = .ok (.return_, 1)) : WB G X pc loc [] s := by
  obtain ⟨p, l, e, R, s0, m, args, below, meth, c, Q, nL, cells, slots⟩ := X
  obtain ⟨hx, hb, hr, hml, hown, hT, hK, hlk, hG, hfr, hlo, hce, hsl⟩ := hX
  intro H locs ls hP hS hl
  (try subst hp)
  cases h
  simp only [wRt] at hQ
  subst hQ
  exact W.vret hx hb hr (fun t ht _ => ⟨⟨_, rfl, rfl, by show va_P _ _ _ t.heap; rw [ht]; exact hP⟩, hS.F ht⟩) hS.2.2 hd hlk
/-- a method that the class own names at the entry idx: called on an object; static; static of a nest mate -/
def wMv (own : String) (idx : Nat) (y : MethodName) (bytes : ByteArray) (maxL : Nat) (rt : Option FieldType) (ci n : Nat) : Prop := Cond.methodLink own idx y ∈ wTs ∧ Cond.instanceMethod y ∈ wTs ∧ Cond.selects y.cls y y ∈ wTs ∧ Cond.initialized y.cls ∈ wTs ∧ Cond.code y bytes maxL rt ∈ wTs ∧ (y.cls ≠ "java/lang/invoke/MethodHandle" ∧ y.cls ≠ "java/lang/invoke/VarHandle" ∧ (parseMethodDescriptor y.desc).map (fun d => d.parameters.length) = some n) ∧ ∃ q : vw_C, vwCl[ci]? = some q ∧ q.1 = y.cls
def wMs (own : String) (idx : Nat) (y : MethodName) (bytes : ByteArray) (maxL : Nat) (rt : Option FieldType) (n : Nat) : Prop := Cond.methodLink own idx y ∈ wTs ∧ Cond.static y ∈ wTs ∧ Cond.initialized y.cls ∈ wTs ∧ Cond.code y bytes maxL rt ∈ wTs ∧ (y.cls ≠ "java/lang/invoke/MethodHandle" ∧ y.cls ≠ "java/lang/invoke/VarHandle" ∧ (parseMethodDescriptor y.desc).map (fun d => d.parameters.length) = some n)
def wMn (own : String) (idx : Nat) (y : MethodName) (host : String) (bytes : ByteArray) (maxL : Nat) (rt : Option FieldType) (n : Nat) : Prop := Cond.methodLinkNest own idx y host ∈ lw_tbl ∧ Cond.static y ∈ wTs ∧ Cond.initialized y.cls ∈ wTs ∧ Cond.code y bytes maxL rt ∈ wTs ∧ (y.cls ≠ "java/lang/invoke/MethodHandle" ∧ y.cls ≠ "java/lang/invoke/VarHandle" ∧ (parseMethodDescriptor y.desc).map (fun d => d.parameters.length) = some n)
theorem w_code {y : MethodName} {bytes : ByteArray} {maxL : Nat} {rt : Option FieldType} (h : Cond.code y bytes maxL rt ∈ wTs) : GoodIn wTs [Cond.code y bytes maxL rt] := fun w hw => by
  rw [List.mem_singleton.mp hw]
  exact ⟨h, good_of_word (List.mem_filter.mp h).2⟩
set_option maxHeartbeats 4000000 in
theorem wb_callVi {idx maxL n d1 : Nat} {y : MethodName} {bytes : ByteArray} {rt : Option FieldType} {r0 : Int32} {s1 : wM} {st0 rest : List Value} (As : List Value) (hX : wOK G X cc own ret d) {b ci : Nat} {fs : List (Option Nat)} (hk : wSh[b]? = some (.inr (ci, fs))) (hM : wMv own idx y bytes maxL rt ci n) (hC : wMet X.2.1 G y bytes maxL rt d1 (.ref (G.1 b) :: As) s (wQi G r0 s1)) (hd1 : d1 < d ∧ maxL ≤ 40) (hn : As.length = n) (hst : st0 = As.reverse ++ .ref (G.1 b) :: rest) (hcat : (rest.map fun v => v.category).sum ≤ 8) (hd : decode cc pc = .ok (.invokevirtual idx, 3)) {pq : Nat} (hp : pc + 3 = pq) (kk : WB G X pq loc (.int r0 :: rest) s1) : WB G X pc loc st0 s := by
  obtain ⟨p, l, e, R, s0, m, args, below, meth, c, Q, nL, cells, slots⟩ := X
  obtain ⟨hx, hb, hr, hml, hown, hT, hK, hlk, hG, hfr, hlo, hce, hsl⟩ := hX
  intro H locs ls hP hS hl
  (try subst hp)
  subst hst
  obtain ⟨w1, w2, w3, w4, w5, w6, vq, hq1, hq2⟩ := hM
  have hrun := va_runV (As := As) (rest := rest) (R := R) (cells := cells) (slots := slots) (locs := locs) (below := below) (meth := meth) (e := e) (args := args) ⟨hx, hb, hml, hown, fun w hw => hT.1 w hw _⟩ hC ⟨callB_of n (fun w hw => hT.1 w hw _) (w_code w5) rfl rfl rfl (hT.1 _ w4 _) (hT.1 _ w1 _) w6 ⟨by simp only [wRm]; omega, by simp only [wRm]; omega⟩, hT.1 _ w2 _, hT.1 _ w3 _⟩ ⟨wPc_blind, hq2 ▸ va_recv hK hP hq1 (wL_at hk), fun U hU hW => ⟨rfl, by rw [hU]; exact hP, va_K.moved hW.alike hK, hT.warm hW, hG⟩⟩ (g := F0 m pc ls (As.reverse ++ .ref (G.1 b) :: rest)) rfl hn hl.1 rfl (lv_room (pc := pc) (ls := ls) (m := m) (rest := As.reverse ++ .ref (G.1 b) :: rest) hcat) hd ⟨hce, hsl⟩
  refine va_calli hrun hS (fun q _ h => h) (fun q h => h) (fun r u t H1 locs1 ht hvm hw hB hz1 hk1 hS1 => ?_)
  obtain ⟨rfl, rfl⟩ := hw
  exact kk H1 locs1 ls (by rw [← ht]; exact hB) hS1 hl
set_option maxHeartbeats 4000000 in
theorem wb_callVl {idx maxL n d1 : Nat} {y : MethodName} {bytes : ByteArray} {rt : Option FieldType} {r0 : Int64} {s1 : wM} {st0 rest : List Value} (As : List Value) (hX : wOK G X cc own ret d) {b ci : Nat} {fs : List (Option Nat)} (hk : wSh[b]? = some (.inr (ci, fs))) (hM : wMv own idx y bytes maxL rt ci n) (hC : wMet X.2.1 G y bytes maxL rt d1 (.ref (G.1 b) :: As) s (wQl G r0 s1)) (hd1 : d1 < d ∧ maxL ≤ 40) (hn : As.length = n) (hst : st0 = As.reverse ++ .ref (G.1 b) :: rest) (hcat : (rest.map fun v => v.category).sum ≤ 8) (hd : decode cc pc = .ok (.invokevirtual idx, 3)) {pq : Nat} (hp : pc + 3 = pq) (kk : WB G X pq loc (.long r0 :: rest) s1) : WB G X pc loc st0 s := by
  obtain ⟨p, l, e, R, s0, m, args, below, meth, c, Q, nL, cells, slots⟩ := X
  obtain ⟨hx, hb, hr, hml, hown, hT, hK, hlk, hG, hfr, hlo, hce, hsl⟩ := hX
  intro H locs ls hP hS hl
  (try subst hp)
  subst hst
  obtain ⟨w1, w2, w3, w4, w5, w6, vq, hq1, hq2⟩ := hM
  have hrun := va_runV (As := As) (rest := rest) (R := R) (cells := cells) (slots := slots) (locs := locs) (below := below) (meth := meth) (e := e) (args := args) ⟨hx, hb, hml, hown, fun w hw => hT.1 w hw _⟩ hC ⟨callB_of n (fun w hw => hT.1 w hw _) (w_code w5) rfl rfl rfl (hT.1 _ w4 _) (hT.1 _ w1 _) w6 ⟨by simp only [wRm]; omega, by simp only [wRm]; omega⟩, hT.1 _ w2 _, hT.1 _ w3 _⟩ ⟨wPc_blind, hq2 ▸ va_recv hK hP hq1 (wL_at hk), fun U hU hW => ⟨rfl, by rw [hU]; exact hP, va_K.moved hW.alike hK, hT.warm hW, hG⟩⟩ (g := F0 m pc ls (As.reverse ++ .ref (G.1 b) :: rest)) rfl hn hl.1 rfl (lv_room (pc := pc) (ls := ls) (m := m) (rest := As.reverse ++ .ref (G.1 b) :: rest) hcat) hd ⟨hce, hsl⟩
  refine va_calll hrun hS (fun q _ h => h) (fun q h => h) (fun r u t H1 locs1 ht hvm hw hB hz1 hk1 hS1 => ?_)
  obtain ⟨rfl, rfl⟩ := hw
  exact kk H1 locs1 ls (by rw [← ht]; exact hB) hS1 hl
set_option maxHeartbeats 4000000 in
theorem wb_callVv {idx maxL n d1 : Nat} {y : MethodName} {bytes : ByteArray} {rt : Option FieldType} {s1 : wM} {st0 rest : List Value} (As : List Value) (hX : wOK G X cc own ret d) {b ci : Nat} {fs : List (Option Nat)} (hk : wSh[b]? = some (.inr (ci, fs))) (hM : wMv own idx y bytes maxL rt ci n) (hC : wMet X.2.1 G y bytes maxL rt d1 (.ref (G.1 b) :: As) s (wQv G s1)) (hd1 : d1 < d ∧ maxL ≤ 40) (hn : As.length = n) (hst : st0 = As.reverse ++ .ref (G.1 b) :: rest) (hcat : (rest.map fun v => v.category).sum ≤ 8) (hd : decode cc pc = .ok (.invokevirtual idx, 3)) {pq : Nat} (hp : pc + 3 = pq) (kk : WB G X pq loc (rest) s1) : WB G X pc loc st0 s := by
  obtain ⟨p, l, e, R, s0, m, args, below, meth, c, Q, nL, cells, slots⟩ := X
  obtain ⟨hx, hb, hr, hml, hown, hT, hK, hlk, hG, hfr, hlo, hce, hsl⟩ := hX
  intro H locs ls hP hS hl
  (try subst hp)
  subst hst
  obtain ⟨w1, w2, w3, w4, w5, w6, vq, hq1, hq2⟩ := hM
  have hrun := va_runV (As := As) (rest := rest) (R := R) (cells := cells) (slots := slots) (locs := locs) (below := below) (meth := meth) (e := e) (args := args) ⟨hx, hb, hml, hown, fun w hw => hT.1 w hw _⟩ hC ⟨callB_of n (fun w hw => hT.1 w hw _) (w_code w5) rfl rfl rfl (hT.1 _ w4 _) (hT.1 _ w1 _) w6 ⟨by simp only [wRm]; omega, by simp only [wRm]; omega⟩, hT.1 _ w2 _, hT.1 _ w3 _⟩ ⟨wPc_blind, hq2 ▸ va_recv hK hP hq1 (wL_at hk), fun U hU hW => ⟨rfl, by rw [hU]; exact hP, va_K.moved hW.alike hK, hT.warm hW, hG⟩⟩ (g := F0 m pc ls (As.reverse ++ .ref (G.1 b) :: rest)) rfl hn hl.1 rfl (lv_room (pc := pc) (ls := ls) (m := m) (rest := As.reverse ++ .ref (G.1 b) :: rest) hcat) hd ⟨hce, hsl⟩
  refine va_callv hrun hS (fun q _ h => h) (fun q h => h) (fun u t H1 locs1 ht hvm hw hB hz1 hk1 hS1 => ?_)
  subst hw
  exact kk H1 locs1 ls (by rw [← ht]; exact hB) hS1 hl
set_option maxHeartbeats 4000000 in
theorem wb_callSi {idx maxL n d1 : Nat} {y : MethodName} {bytes : ByteArray} {rt : Option FieldType} {r0 : Int32} {s1 : wM} {st0 rest : List Value} (As : List Value) (hX : wOK G X cc own ret d) (hM : wMs own idx y bytes maxL rt n) (hC : wMet X.2.1 G y bytes maxL rt d1 As s (wQi G r0 s1)) (hd1 : d1 < d ∧ maxL ≤ 40) (hn : As.length = n) (hst : st0 = As.reverse ++ rest) (hcat : (rest.map fun v => v.category).sum ≤ 8) (hd : decode cc pc = .ok (.invokestatic idx, 3)) {pq : Nat} (hp : pc + 3 = pq) (kk : WB G X pq loc (.int r0 :: rest) s1) : WB G X pc loc st0 s := by
  obtain ⟨p, l, e, R, s0, m, args, below, meth, c, Q, nL, cells, slots⟩ := X
  obtain ⟨hx, hb, hr, hml, hown, hT, hK, hlk, hG, hfr, hlo, hce, hsl⟩ := hX
  intro H locs ls hP hS hl
  (try subst hp)
  subst hst
  obtain ⟨w1, w2, w4, w5, w6⟩ := hM
  have hrun := va_runS (As := As) (rest := rest) (R := R) (cells := cells) (slots := slots) (locs := locs) (below := below) (meth := meth) (e := e) (args := args) ⟨hx, hb, hml, hown, fun w hw => hT.1 w hw _⟩ hC ⟨callB_of n (fun w hw => hT.1 w hw _) (w_code w5) rfl rfl rfl (hT.1 _ w4 _) (hT.1 _ w1 _) w6 ⟨by simp only [wRm]; omega, by simp only [wRm]; omega⟩, hT.1 _ w2 _⟩ ⟨wPc_blind, fun U hU hW => ⟨rfl, by rw [hU]; exact hP, va_K.moved hW.alike hK, hT.warm hW, hG⟩⟩ (g := F0 m pc ls (As.reverse ++ rest)) rfl hn hl.1 rfl (lv_room (pc := pc) (ls := ls) (m := m) (rest := As.reverse ++ rest) hcat) hd ⟨hce, hsl⟩
  refine va_calli hrun hS (fun q _ h => h) (fun q h => h) (fun r u t H1 locs1 ht hvm hw hB hz1 hk1 hS1 => ?_)
  obtain ⟨rfl, rfl⟩ := hw
  exact kk H1 locs1 ls (by rw [← ht]; exact hB) hS1 hl
set_option maxHeartbeats 4000000 in
theorem wb_callSl {idx maxL n d1 : Nat} {y : MethodName} {bytes : ByteArray} {rt : Option FieldType} {r0 : Int64} {s1 : wM} {st0 rest : List Value} (As : List Value) (hX : wOK G X cc own ret d) (hM : wMs own idx y bytes maxL rt n) (hC : wMet X.2.1 G y bytes maxL rt d1 As s (wQl G r0 s1)) (hd1 : d1 < d ∧ maxL ≤ 40) (hn : As.length = n) (hst : st0 = As.reverse ++ rest) (hcat : (rest.map fun v => v.category).sum ≤ 8) (hd : decode cc pc = .ok (.invokestatic idx, 3)) {pq : Nat} (hp : pc + 3 = pq) (kk : WB G X pq loc (.long r0 :: rest) s1) : WB G X pc loc st0 s := by
  obtain ⟨p, l, e, R, s0, m, args, below, meth, c, Q, nL, cells, slots⟩ := X
  obtain ⟨hx, hb, hr, hml, hown, hT, hK, hlk, hG, hfr, hlo, hce, hsl⟩ := hX
  intro H locs ls hP hS hl
  (try subst hp)
  subst hst
  obtain ⟨w1, w2, w4, w5, w6⟩ := hM
  have hrun := va_runS (As := As) (rest := rest) (R := R) (cells := cells) (slots := slots) (locs := locs) (below := below) (meth := meth) (e := e) (args := args) ⟨hx, hb, hml, hown, fun w hw => hT.1 w hw _⟩ hC ⟨callB_of n (fun w hw => hT.1 w hw _) (w_code w5) rfl rfl rfl (hT.1 _ w4 _) (hT.1 _ w1 _) w6 ⟨by simp only [wRm]; omega, by simp only [wRm]; omega⟩, hT.1 _ w2 _⟩ ⟨wPc_blind, fun U hU hW => ⟨rfl, by rw [hU]; exact hP, va_K.moved hW.alike hK, hT.warm hW, hG⟩⟩ (g := F0 m pc ls (As.reverse ++ rest)) rfl hn hl.1 rfl (lv_room (pc := pc) (ls := ls) (m := m) (rest := As.reverse ++ rest) hcat) hd ⟨hce, hsl⟩
  refine va_calll hrun hS (fun q _ h => h) (fun q h => h) (fun r u t H1 locs1 ht hvm hw hB hz1 hk1 hS1 => ?_)
  obtain ⟨rfl, rfl⟩ := hw
  exact kk H1 locs1 ls (by rw [← ht]; exact hB) hS1 hl
set_option maxHeartbeats 4000000 in
theorem wb_callSv {idx maxL n d1 : Nat} {y : MethodName} {bytes : ByteArray} {rt : Option FieldType} {s1 : wM} {st0 rest : List Value} (As : List Value) (hX : wOK G X cc own ret d) (hM : wMs own idx y bytes maxL rt n) (hC : wMet X.2.1 G y bytes maxL rt d1 As s (wQv G s1)) (hd1 : d1 < d ∧ maxL ≤ 40) (hn : As.length = n) (hst : st0 = As.reverse ++ rest) (hcat : (rest.map fun v => v.category).sum ≤ 8) (hd : decode cc pc = .ok (.invokestatic idx, 3)) {pq : Nat} (hp : pc + 3 = pq) (kk : WB G X pq loc (rest) s1) : WB G X pc loc st0 s := by
  obtain ⟨p, l, e, R, s0, m, args, below, meth, c, Q, nL, cells, slots⟩ := X
  obtain ⟨hx, hb, hr, hml, hown, hT, hK, hlk, hG, hfr, hlo, hce, hsl⟩ := hX
  intro H locs ls hP hS hl
  (try subst hp)
  subst hst
  obtain ⟨w1, w2, w4, w5, w6⟩ := hM
  have hrun := va_runS (As := As) (rest := rest) (R := R) (cells := cells) (slots := slots) (locs := locs) (below := below) (meth := meth) (e := e) (args := args) ⟨hx, hb, hml, hown, fun w hw => hT.1 w hw _⟩ hC ⟨callB_of n (fun w hw => hT.1 w hw _) (w_code w5) rfl rfl rfl (hT.1 _ w4 _) (hT.1 _ w1 _) w6 ⟨by simp only [wRm]; omega, by simp only [wRm]; omega⟩, hT.1 _ w2 _⟩ ⟨wPc_blind, fun U hU hW => ⟨rfl, by rw [hU]; exact hP, va_K.moved hW.alike hK, hT.warm hW, hG⟩⟩ (g := F0 m pc ls (As.reverse ++ rest)) rfl hn hl.1 rfl (lv_room (pc := pc) (ls := ls) (m := m) (rest := As.reverse ++ rest) hcat) hd ⟨hce, hsl⟩
  refine va_callv hrun hS (fun q _ h => h) (fun q h => h) (fun u t H1 locs1 ht hvm hw hB hz1 hk1 hS1 => ?_)
  subst hw
  exact kk H1 locs1 ls (by rw [← ht]; exact hB) hS1 hl
set_option maxHeartbeats 4000000 in
theorem wb_callNi {idx maxL n d1 : Nat} {y : MethodName} {bytes : ByteArray} {rt : Option FieldType} {r0 : Int32} {s1 : wM} {st0 rest : List Value} (As : List Value) (hX : wOK G X cc own ret d) {host : String} (hM : wMn own idx y host bytes maxL rt n) (hC : wMet X.2.1 G y bytes maxL rt d1 As s (wQi G r0 s1)) (hd1 : d1 < d ∧ maxL ≤ 40) (hn : As.length = n) (hst : st0 = As.reverse ++ rest) (hcat : (rest.map fun v => v.category).sum ≤ 8) (hd : decode cc pc = .ok (.invokestatic idx, 3)) {pq : Nat} (hp : pc + 3 = pq) (kk : WB G X pq loc (.int r0 :: rest) s1) : WB G X pc loc st0 s := by
  obtain ⟨p, l, e, R, s0, m, args, below, meth, c, Q, nL, cells, slots⟩ := X
  obtain ⟨hx, hb, hr, hml, hown, hT, hK, hlk, hG, hfr, hlo, hce, hsl⟩ := hX
  intro H locs ls hP hS hl
  (try subst hp)
  subst hst
  obtain ⟨w1, w2, w4, w5, w6⟩ := hM
  have hrun := va_runSN (As := As) (rest := rest) (R := R) (cells := cells) (slots := slots) (locs := locs) (below := below) (meth := meth) (e := e) (args := args) ⟨hx, hb, hml, hown, fun w hw => hT.1 w hw _⟩ hC ⟨va_cnB n (fun w hw => hT.1 w hw _) (w_code w5) rfl rfl rfl (hT.2 _ _ _ _ w1) (hT.1 _ w4 _) w6 ⟨by simp only [wRm]; omega, by simp only [wRm]; omega⟩, hT.1 _ w2 _, trivial⟩ ⟨wPc_blind, fun U hU hW => ⟨rfl, by rw [hU]; exact hP, va_K.moved hW.alike hK, hT.warm hW, hG⟩⟩ (g := F0 m pc ls (As.reverse ++ rest)) rfl hn hl.1 rfl (lv_room (pc := pc) (ls := ls) (m := m) (rest := As.reverse ++ rest) hcat) hd ⟨hce, hsl⟩
  refine va_calli hrun hS (fun q _ h => h) (fun q h => h) (fun r u t H1 locs1 ht hvm hw hB hz1 hk1 hS1 => ?_)
  obtain ⟨rfl, rfl⟩ := hw
  exact kk H1 locs1 ls (by rw [← ht]; exact hB) hS1 hl
set_option maxHeartbeats 4000000 in
theorem wb_callNl {idx maxL n d1 : Nat} {y : MethodName} {bytes : ByteArray} {rt : Option FieldType} {r0 : Int64} {s1 : wM} {st0 rest : List Value} (As : List Value) (hX : wOK G X cc own ret d) {host : String} (hM : wMn own idx y host bytes maxL rt n) (hC : wMet X.2.1 G y bytes maxL rt d1 As s (wQl G r0 s1)) (hd1 : d1 < d ∧ maxL ≤ 40) (hn : As.length = n) (hst : st0 = As.reverse ++ rest) (hcat : (rest.map fun v => v.category).sum ≤ 8) (hd : decode cc pc = .ok (.invokestatic idx, 3)) {pq : Nat} (hp : pc + 3 = pq) (kk : WB G X pq loc (.long r0 :: rest) s1) : WB G X pc loc st0 s := by
  obtain ⟨p, l, e, R, s0, m, args, below, meth, c, Q, nL, cells, slots⟩ := X
  obtain ⟨hx, hb, hr, hml, hown, hT, hK, hlk, hG, hfr, hlo, hce, hsl⟩ := hX
  intro H locs ls hP hS hl
  (try subst hp)
  subst hst
  obtain ⟨w1, w2, w4, w5, w6⟩ := hM
  have hrun := va_runSN (As := As) (rest := rest) (R := R) (cells := cells) (slots := slots) (locs := locs) (below := below) (meth := meth) (e := e) (args := args) ⟨hx, hb, hml, hown, fun w hw => hT.1 w hw _⟩ hC ⟨va_cnB n (fun w hw => hT.1 w hw _) (w_code w5) rfl rfl rfl (hT.2 _ _ _ _ w1) (hT.1 _ w4 _) w6 ⟨by simp only [wRm]; omega, by simp only [wRm]; omega⟩, hT.1 _ w2 _, trivial⟩ ⟨wPc_blind, fun U hU hW => ⟨rfl, by rw [hU]; exact hP, va_K.moved hW.alike hK, hT.warm hW, hG⟩⟩ (g := F0 m pc ls (As.reverse ++ rest)) rfl hn hl.1 rfl (lv_room (pc := pc) (ls := ls) (m := m) (rest := As.reverse ++ rest) hcat) hd ⟨hce, hsl⟩
  refine va_calll hrun hS (fun q _ h => h) (fun q h => h) (fun r u t H1 locs1 ht hvm hw hB hz1 hk1 hS1 => ?_)
  obtain ⟨rfl, rfl⟩ := hw
  exact kk H1 locs1 ls (by rw [← ht]; exact hB) hS1 hl
set_option maxHeartbeats 4000000 in
theorem wb_callNv {idx maxL n d1 : Nat} {y : MethodName} {bytes : ByteArray} {rt : Option FieldType} {s1 : wM} {st0 rest : List Value} (As : List Value) (hX : wOK G X cc own ret d) {host : String} (hM : wMn own idx y host bytes maxL rt n) (hC : wMet X.2.1 G y bytes maxL rt d1 As s (wQv G s1)) (hd1 : d1 < d ∧ maxL ≤ 40) (hn : As.length = n) (hst : st0 = As.reverse ++ rest) (hcat : (rest.map fun v => v.category).sum ≤ 8) (hd : decode cc pc = .ok (.invokestatic idx, 3)) {pq : Nat} (hp : pc + 3 = pq) (kk : WB G X pq loc (rest) s1) : WB G X pc loc st0 s := by
  obtain ⟨p, l, e, R, s0, m, args, below, meth, c, Q, nL, cells, slots⟩ := X
  obtain ⟨hx, hb, hr, hml, hown, hT, hK, hlk, hG, hfr, hlo, hce, hsl⟩ := hX
  intro H locs ls hP hS hl
  (try subst hp)
  subst hst
  obtain ⟨w1, w2, w4, w5, w6⟩ := hM
  have hrun := va_runSN (As := As) (rest := rest) (R := R) (cells := cells) (slots := slots) (locs := locs) (below := below) (meth := meth) (e := e) (args := args) ⟨hx, hb, hml, hown, fun w hw => hT.1 w hw _⟩ hC ⟨va_cnB n (fun w hw => hT.1 w hw _) (w_code w5) rfl rfl rfl (hT.2 _ _ _ _ w1) (hT.1 _ w4 _) w6 ⟨by simp only [wRm]; omega, by simp only [wRm]; omega⟩, hT.1 _ w2 _, trivial⟩ ⟨wPc_blind, fun U hU hW => ⟨rfl, by rw [hU]; exact hP, va_K.moved hW.alike hK, hT.warm hW, hG⟩⟩ (g := F0 m pc ls (As.reverse ++ rest)) rfl hn hl.1 rfl (lv_room (pc := pc) (ls := ls) (m := m) (rest := As.reverse ++ rest) hcat) hd ⟨hce, hsl⟩
  refine va_callv hrun hS (fun q _ h => h) (fun q h => h) (fun u t H1 locs1 ht hvm hw hB hz1 hk1 hS1 => ?_)
  subst hw
  exact kk H1 locs1 ls (by rw [← ht]; exact hB) hS1 hl
theorem wb_mmax {idx : Nat} {x y : Int32} (hX : wOK G X cc own ret d) (h1 : Cond.methodLink own idx Lib.Math.max.name ∈ wTs) (h2 : Cond.static Lib.Math.max.name ∈ wTs) (h3 : Cond.initialized "java/lang/Math" ∈ wTs) (h4 : Cond.code Lib.Math.max.name Lib.Math.max.code 2 (some .int) ∈ wTs) (hcat : (st.map fun v => v.category).sum ≤ 8) (hd : decode cc pc = .ok (.invokestatic idx, 3)) {pq : Nat} (hp : pc + 3 = pq) (kk : WB G X pq loc (.int (iMax x y) :: st) s) : WB G X pc loc (.int y :: .int x :: st) s := by
  obtain ⟨p, l, e, R, s0, m, args, below, meth, c, Q, nL, cells, slots⟩ := X
  obtain ⟨hx, hb, hr, hml, hown, hT, hK, hlk, hG, hfr, hlo, hce, hsl⟩ := hX
  intro H locs ls hP hS hl
  (try subst hp)
  exact va_mmax hx hb (hml.trans hl.1.symm) hown (hT.1 _ h1 _) (hT.1 _ h2 _) (hT.1 _ h3 _) (hT.1 _ h4 _) (by omega) (by omega) hce hsl hd (kk H locs ls hP hS hl)
theorem wb_mmin {idx : Nat} {x y : Int32} (hX : wOK G X cc own ret d) (h1 : Cond.methodLink own idx Lib.Math.min.name ∈ wTs) (h2 : Cond.static Lib.Math.min.name ∈ wTs) (h3 : Cond.initialized "java/lang/Math" ∈ wTs) (h4 : Cond.code Lib.Math.min.name Lib.Math.min.code 2 (some .int) ∈ wTs) (hcat : (st.map fun v => v.category).sum ≤ 8) (hd : decode cc pc = .ok (.invokestatic idx, 3)) {pq : Nat} (hp : pc + 3 = pq) (kk : WB G X pq loc (.int (iMin x y) :: st) s) : WB G X pc loc (.int y :: .int x :: st) s := by
  obtain ⟨p, l, e, R, s0, m, args, below, meth, c, Q, nL, cells, slots⟩ := X
  obtain ⟨hx, hb, hr, hml, hown, hT, hK, hlk, hG, hfr, hlo, hce, hsl⟩ := hX
  intro H locs ls hP hS hl
  (try subst hp)
  exact va_mmin hx hb (hml.trans hl.1.symm) hown (hT.1 _ h1 _) (hT.1 _ h2 _) (hT.1 _ h3 _) (hT.1 _ h4 _) (by omega) (by omega) hce hsl hd (kk H locs ls hP hS hl)
theorem wb_mabs {idx : Nat} {x : Int32} (hX : wOK G X cc own ret d) (h1 : Cond.methodLink own idx Lib.Math.abs.name ∈ wTs) (h2 : Cond.static Lib.Math.abs.name ∈ wTs) (h3 : Cond.initialized "java/lang/Math" ∈ wTs) (h4 : Cond.code Lib.Math.abs.name Lib.Math.abs.code 1 (some .int) ∈ wTs) (hcat : (st.map fun v => v.category).sum ≤ 8) (hd : decode cc pc = .ok (.invokestatic idx, 3)) {pq : Nat} (hp : pc + 3 = pq) (kk : WB G X pq loc (.int (iAbs x) :: st) s) : WB G X pc loc (.int x :: st) s := by
  obtain ⟨p, l, e, R, s0, m, args, below, meth, c, Q, nL, cells, slots⟩ := X
  obtain ⟨hx, hb, hr, hml, hown, hT, hK, hlk, hG, hfr, hlo, hce, hsl⟩ := hX
  intro H locs ls hP hS hl
  (try subst hp)
  exact va_mabs hx hb (hml.trans hl.1.symm) hown (hT.1 _ h1 _) (hT.1 _ h2 _) (hT.1 _ h3 _) (hT.1 _ h4 _) (by omega) (by omega) hce hsl hd (kk H locs ls hP hS hl)
theorem wb_copy {idx : Nat} {k0 k1 n0 n1 r0 t0 r1 t1 : Nat} {sp dp n : Int32} (hX : wOK G X cc own ret d) (h1 : Cond.methodLink own idx arraycopyName ∈ wTs) (h2 : Cond.native arraycopyName ∈ wTs) (h3 : Cond.static arraycopyName ∈ wTs) (h4 : Cond.initialized "java/lang/System" ∈ wTs) (hk0 : wSh[k0]? = some (.inl (.int, n0, r0, t0))) (hk1 : wSh[k1]? = some (.inl (.int, n1, r1, t1))) (hc : ¬ sp < 0 ∧ ¬ dp < 0 ∧ ¬ n < 0 ∧ sp.toNatClampNeg + n.toNatClampNeg ≤ n0 ∧ dp.toNatClampNeg + n.toNatClampNeg ≤ n1) (hcat : (st.map fun v => v.category).sum ≤ 8) (hd : decode cc pc = .ok (.invokestatic idx, 3)) {pq : Nat} (hp : pc + 3 = pq) (kk : WB G X pq loc st (wCpy s k0 k1 sp.toNatClampNeg dp.toNatClampNeg n.toNatClampNeg)) : WB G X pc loc (.int n :: .int dp :: .ref (G.1 k1) :: .int sp :: .ref (G.1 k0) :: st) s := by
  obtain ⟨p, l, e, R, s0, m, args, below, meth, c, Q, nL, cells, slots⟩ := X
  obtain ⟨hx, hb, hr, hml, hown, hT, hK, hlk, hG, hfr, hlo, hce, hsl⟩ := hX
  intro H locs ls hP hS hl
  (try subst hp)
  refine va_copyi (ty := .int) hx hb (hml.trans hl.1.symm) hown (hT.1 _ h1 _) (hT.1 _ h2 _) (hT.1 _ h3 _) (hT.1 _ h4 _) hK hP (wL_D hG s) hS k0 k1 0 0 (wL_at hk0) (wL_at hk1) rfl rfl rfl hc.1 hc.2.1 hc.2.2.1 hc.2.2.2.1 hc.2.2.2.2 (fun _ _ => rfl) (by omega) (Nat.le_trans (Nat.add_le_add_right hcat _) (Nat.le_trans (by decide) (Nat.le_trans (Nat.mul_le_mul_left 60 (Nat.succ_le_succ (Nat.zero_le d))) hlo))) hd (fun H1 locs1 hP1 _ hS1 => kk H1 locs1 ls ?_ hS1 hl)
  rw [← wL_set (s := s) (s' := wCpy s k0 k1 sp.toNatClampNeg dp.toNatClampNeg n.toNatClampNeg) hk1 (fun i hi => ⟨by funext j; simp [wCpy, hi], rfl⟩)]
  have e : (wCpy s k0 k1 sp.toNatClampNeg dp.toNatClampNeg n.toNatClampNeg).1 k1 = va_cpy (s.1 k0) (s.1 k1) sp.toNatClampNeg dp.toNatClampNeg n.toNatClampNeg := by
    funext j
    simp [wCpy, va_cpy]
  simp only [wE, wArr, e]
  exact hP1
theorem wb_tabOut {dflt lo hi : Int} {offs : Array Int} {len : Nat} {x : Int32} {tgt : Nat} (hX : wOK G X cc own ret d) (hd : decode cc pc = .ok (.tableswitch dflt lo hi offs, len)) (h : x.toInt < lo ∨ hi < x.toInt) (ht : (pc : Int) + dflt = (tgt : Int)) (kk : WB G X tgt loc st s) : WB G X pc loc (.int x :: st) s := by
  obtain ⟨p, l, e, R, s0, m, args, below, meth, c, Q, nL, cells, slots⟩ := X
  obtain ⟨hx, hb, hr, hml, hown, hT, hK, hlk, hG, hfr, hlo, hce, hsl⟩ := hX
  intro H locs ls hP hS hl
  (try subst hp)
  exact lv_tableOut hx hb hd h ht (kk H locs ls hP hS hl)
theorem wb_tabIn {dflt lo hi : Int} {offs : Array Int} {len : Nat} {x : Int32} {off : Int} {tgt : Nat} (hX : wOK G X cc own ret d) (hd : decode cc pc = .ok (.tableswitch dflt lo hi offs, len)) (h1 : ¬ x.toInt < lo) (h2 : ¬ hi < x.toInt) (ho : offs[(x.toInt - lo).toNat]? = some off) (ht : (pc : Int) + off = (tgt : Int)) (kk : WB G X tgt loc st s) : WB G X pc loc (.int x :: st) s := by
  obtain ⟨p, l, e, R, s0, m, args, below, meth, c, Q, nL, cells, slots⟩ := X
  obtain ⟨hx, hb, hr, hml, hown, hT, hK, hlk, hG, hfr, hlo, hce, hsl⟩ := hX
  intro H locs ls hP hS hl
  (try subst hp)
  exact lv_tableIn hx hb hd h1 h2 ho ht (kk H locs ls hP hS hl)
theorem wb_iretP {r0 : Int32} (hX : wOK G X cc own (some .int) d) (hQ : wRt G X (wQi G r0 s)) {r : Int32} (h : (some r : Option Int32) = some r0) (hd : decode cc pc = .ok (.ireturn, 1)) : WB G X pc loc [.int r] s := wb_iret hX hQ (by cases h; rfl) hd
theorem wb_zretP {r0 : Int32} {ty : FieldType} (hX : wOK G X cc own (some ty) d) (hQ : wRt G X (wQi G r0 s)) {r : Int32} (h : (some r : Option Int32) = some r0) (hn : narrow ty (.int r) = .int r) (hd : decode cc pc = .ok (.ireturn, 1)) : WB G X pc loc [.int r] s := wb_zret hX hQ (by cases h; rfl) hn hd
theorem wb_lretP {r0 : Int64} (hX : wOK G X cc own (some .long) d) (hQ : wRt G X (wQl G r0 s)) {r : Int64} (h : (some r : Option Int64) = some r0) (hd : decode cc pc = .ok (.lreturn, 1)) : WB G X pc loc [.long r] s := wb_lret hX hQ (by cases h; rfl) hd
theorem wb_topi {x : Int32} (k : ∀ y : Int32, y = x → WB G X pc loc (.int y :: st) s) : WB G X pc loc (.int x :: st) s := k x rfl
theorem wb_topl {x : Int64} (k : ∀ y : Int64, y = x → WB G X pc loc (.long y :: st) s) : WB G X pc loc (.long x :: st) s := k x rfl
theorem wb_mem {s : wM} (k : ∀ z : wM, z = s → WB G X pc loc st z) : WB G X pc loc st s := k s rfl
end WBR
def wSnap (t : Nat) : Prop := wSh[t]? = some (.inr (8, [some (t + 1), some (t + 2), some (t + 3), some (t + 4), none, none])) ∧ wSh[t + 1]? = some (.inl (.int, 9, 0, 0)) ∧ wSh[t + 2]? = some (.inl (.int, 9, 0, 0)) ∧ wSh[t + 3]? = some (.inl (.int, 9, 0, 0)) ∧ wSh[t + 4]? = some (.inl (.int, 3, 0, 0))
theorem wSnap_all : ∀ i, i < 21 → wSnap (36 + 5 * i) := by
  intro i hi
  match i, hi with
  | 0, _ => exact ⟨rfl, rfl, rfl, rfl, rfl⟩
  | 1, _ => exact ⟨rfl, rfl, rfl, rfl, rfl⟩
  | 2, _ => exact ⟨rfl, rfl, rfl, rfl, rfl⟩
  | 3, _ => exact ⟨rfl, rfl, rfl, rfl, rfl⟩
  | 4, _ => exact ⟨rfl, rfl, rfl, rfl, rfl⟩
  | 5, _ => exact ⟨rfl, rfl, rfl, rfl, rfl⟩
  | 6, _ => exact ⟨rfl, rfl, rfl, rfl, rfl⟩
  | 7, _ => exact ⟨rfl, rfl, rfl, rfl, rfl⟩
  | 8, _ => exact ⟨rfl, rfl, rfl, rfl, rfl⟩
  | 9, _ => exact ⟨rfl, rfl, rfl, rfl, rfl⟩
  | 10, _ => exact ⟨rfl, rfl, rfl, rfl, rfl⟩
  | 11, _ => exact ⟨rfl, rfl, rfl, rfl, rfl⟩
  | 12, _ => exact ⟨rfl, rfl, rfl, rfl, rfl⟩
  | 13, _ => exact ⟨rfl, rfl, rfl, rfl, rfl⟩
  | 14, _ => exact ⟨rfl, rfl, rfl, rfl, rfl⟩
  | 15, _ => exact ⟨rfl, rfl, rfl, rfl, rfl⟩
  | 16, _ => exact ⟨rfl, rfl, rfl, rfl, rfl⟩
  | 17, _ => exact ⟨rfl, rfl, rfl, rfl, rfl⟩
  | 18, _ => exact ⟨rfl, rfl, rfl, rfl, rfl⟩
  | 19, _ => exact ⟨rfl, rfl, rfl, rfl, rfl⟩
  | 20, _ => exact ⟨rfl, rfl, rfl, rfl, rfl⟩
  | n + 21, h => exact absurd h (by omega)
theorem wSnap_all2 : ∀ i, i < 3 → wSnap (146 + 5 * i) := by
  intro i hi
  match i, hi with
  | 0, _ => exact ⟨rfl, rfl, rfl, rfl, rfl⟩
  | 1, _ => exact ⟨rfl, rfl, rfl, rfl, rfl⟩
  | 2, _ => exact ⟨rfl, rfl, rfl, rfl, rfl⟩
  | n + 3, h => exact absurd h (by omega)
theorem wSnap_ring {i : Int32} (h : vp_in i 21) : wSnap (36 + 5 * i.toNatClampNeg) := wSnap_all _ (by have := Nat.not_le.mp fun q => h (Or.inr q); omega)
theorem wSnap_kept {i : Int32} (h : vp_in i 3) : wSnap (146 + 5 * i.toNatClampNeg) := wSnap_all2 _ (by have := Nat.not_le.mp fun q => h (Or.inr q); omega)
theorem nar_iC (x : Int32) : vp_nar .char (iC x) = iC x := pk_vc x
