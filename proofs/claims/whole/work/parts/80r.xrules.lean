theorem k_44 : (Jvm.Cond.superclass "WellsNotEven$Text" "java/lang/Object") ∈ wTs := wTs_in (tb1 (List.mem_of_getElem? (i := 44) rfl)) rfl
theorem k_77 : (Jvm.Cond.superclass "WellsNotEven$Reader" "java/lang/Object") ∈ wTs := wTs_in (tb1 (List.mem_of_getElem? (i := 77) rfl)) rfl
theorem k_128 : (Jvm.Cond.superclass "WellsNotEven$Land" "java/lang/Object") ∈ wTs := wTs_in (tb1 (List.mem_of_getElem? (i := 128) rfl)) rfl
theorem k_187 : (Jvm.Cond.superclass "WellsNotEven$Ahead" "java/lang/Object") ∈ wTs := wTs_in (tb1 (List.mem_of_getElem? (i := 187) rfl)) rfl
theorem k_229 : (Jvm.Cond.superclass "WellsNotEven$Search" "java/lang/Object") ∈ wTs := wTs_in (tb1 (List.mem_of_getElem? (i := 229) rfl)) rfl
theorem k_252 : (Jvm.Cond.superclass "WellsNotEven$Graph" "java/lang/Object") ∈ wTs := wTs_in (tb2 (List.mem_of_getElem? (i := 12) rfl)) rfl
theorem k_267 : (Jvm.Cond.superclass "WellsNotEven$Numbers" "java/lang/Object") ∈ wTs := wTs_in (tb2 (List.mem_of_getElem? (i := 27) rfl)) rfl
theorem k_275 : (Jvm.Cond.arrayOver (Jvm.ClassFile.FieldType.object "WellsNotEven$Snapshot")) ∈ lw_tbl := tb2 (List.mem_of_getElem? (i := 35) rfl)
theorem k_300 : (Jvm.Cond.superclass "WellsNotEven$Snapshot" "java/lang/Object") ∈ wTs := wTs_in (tb2 (List.mem_of_getElem? (i := 60) rfl)) rfl
theorem k_311 : (Jvm.Cond.superclass "WellsNotEven$Past" "java/lang/Object") ∈ wTs := wTs_in (tb2 (List.mem_of_getElem? (i := 71) rfl)) rfl
theorem k_329 : (Jvm.Cond.superclass "WellsNotEven$Sightings" "java/lang/Object") ∈ wTs := wTs_in (tb2 (List.mem_of_getElem? (i := 89) rfl)) rfl
theorem k_364 : (Jvm.Cond.superclass "WellsNotEven" "java/lang/Object") ∈ wTs := wTs_in (tb2 (List.mem_of_getElem? (i := 124) rfl)) rfl
theorem k_1031 : (Jvm.Cond.codeWith ({ cls := "WellsNotEvenLaw", name := "farm", desc := "(LWellsNotEven;II[J)I" } : Jvm.MethodName) method_3_code (5 : Nat) (Option.some Jvm.ClassFile.FieldType.int) [((0 : Nat), (10 : Nat), (13 : Nat), (13 : Nat))]) ∈ wTs := wTs_in (tb5 (List.mem_of_getElem? (i := 71) rfl)) rfl
theorem k_1039 : (Jvm.Cond.castable "java/util/NoSuchElementException" "java/util/NoSuchElementException") ∈ lw_tbl := tb5 (List.mem_of_getElem? (i := 79) rfl)
theorem k_1040 : (Jvm.Cond.declares ({ cls := "java/lang/RuntimeException", name := "<init>", desc := "()V" } : Jvm.MethodName)) ∈ lw_tbl := tb5 (List.mem_of_getElem? (i := 80) rfl)
theorem k_1041 : (Jvm.Cond.declares ({ cls := "java/lang/RuntimeException", name := "<init>", desc := "(Ljava/lang/String;)V" } : Jvm.MethodName)) ∈ lw_tbl := tb5 (List.mem_of_getElem? (i := 81) rfl)
theorem k_1042 : (Jvm.Cond.declares ({ cls := "java/lang/Exception", name := "<init>", desc := "()V" } : Jvm.MethodName)) ∈ lw_tbl := tb5 (List.mem_of_getElem? (i := 82) rfl)
theorem k_1043 : (Jvm.Cond.declares ({ cls := "java/lang/Exception", name := "<init>", desc := "(Ljava/lang/String;)V" } : Jvm.MethodName)) ∈ lw_tbl := tb5 (List.mem_of_getElem? (i := 83) rfl)
theorem k_1044 : (Jvm.Cond.declares ({ cls := "java/lang/Throwable", name := "<init>", desc := "()V" } : Jvm.MethodName)) ∈ lw_tbl := tb5 (List.mem_of_getElem? (i := 84) rfl)
theorem k_1045 : (Jvm.Cond.declares ({ cls := "java/lang/Throwable", name := "<init>", desc := "(Ljava/lang/String;)V" } : Jvm.MethodName)) ∈ lw_tbl := tb5 (List.mem_of_getElem? (i := 85) rfl)
theorem k_1059 : (Jvm.Cond.superclass "java/lang/Throwable" "java/lang/Object") ∈ wTs := wTs_in (tb5 (List.mem_of_getElem? (i := 99) rfl)) rfl
theorem k_1064 : (Jvm.Cond.laysStatic "java/lang/Throwable" "UNASSIGNED_STACK" "[Ljava/lang/StackTraceElement;") ∈ lw_tbl := tb5 (List.mem_of_getElem? (i := 104) rfl)
theorem k_1066 : (Jvm.Cond.laysStatic "java/lang/Throwable" "SUPPRESSED_SENTINEL" "Ljava/util/List;") ∈ lw_tbl := tb5 (List.mem_of_getElem? (i := 106) rfl)
theorem k_1070 : (Jvm.Cond.codeSync ({ cls := "java/lang/Throwable", name := "fillInStackTrace", desc := "()Ljava/lang/Throwable;" } : Jvm.MethodName) prog_21_method_18_code (1 : Nat) (Option.some (Jvm.ClassFile.FieldType.object "java/lang/Throwable"))) ∈ wTs := wTs_in (tb5 (List.mem_of_getElem? (i := 110) rfl)) rfl
theorem k_1076 : (Jvm.Cond.stringRef "WellsNotEven" (129 : Nat) "no such farm") ∈ lw_tbl := tb5 (List.mem_of_getElem? (i := 116) rfl)
theorem k_1101 : (Jvm.Cond.superclass "java/util/NoSuchElementException" "java/lang/RuntimeException") ∈ wTs := wTs_in (tb5 (List.mem_of_getElem? (i := 141) rfl)) rfl
theorem k_1103 : (Jvm.Cond.stringRef "WellsNotEven" (150 : Nat) "a farm has nothing such") ∈ lw_tbl := tb5 (List.mem_of_getElem? (i := 143) rfl)
theorem k_1106 : (Jvm.Cond.codeWith ({ cls := "WellsNotEvenLaw", name := "row", desc := "(LWellsNotEven;I[J)I" } : Jvm.MethodName) method_4_code (4 : Nat) (Option.some Jvm.ClassFile.FieldType.int) [((0 : Nat), (9 : Nat), (12 : Nat), (13 : Nat))]) ∈ wTs := wTs_in (tb5 (List.mem_of_getElem? (i := 146) rfl)) rfl
theorem k_1111 : (Jvm.Cond.stringRef "WellsNotEven" (429 : Nat) "the row has no such number") ∈ lw_tbl := tb5 (List.mem_of_getElem? (i := 151) rfl)
theorem k_1665 : (Jvm.Cond.superclass "WellsNotEvenModel" "java/lang/Object") ∈ wTs := wTs_in (tb7 (List.mem_of_getElem? (i := 225) rfl)) rfl
abbrev wxC : String := "java/util/NoSuchElementException"
abbrev wxY : String := "java/lang/RuntimeException"
abbrev wxN : List String := ["java/lang/Exception"]
abbrev wxL : List Cond := wx_atS RX10 131 wxC wxY wxN 13 prog_23_method_4_code
def wxB : List Cond := [.castable wxC wxC, .declares (Bundle.initS wxY), .declares (Bundle.initS "java/lang/Exception"), .declares (Bundle.initS Bundle.tN)]
set_option maxRecDepth 100000 in
theorem wxL_good : (wxL.filter goodWord).all (fun w => decide (w ∈ lw_tbl)) = true := by decide +kernel
set_option maxRecDepth 100000 in
theorem wxL_rest : (wxL.filter (fun w => !goodWord w)).all (fun w => decide (w ∈ wxB)) = true := by decide +kernel
set_option maxRecDepth 100000 in
theorem wxL_ot : (Cond.classLink RX10 127 wxC :: Cond.initialized wxC :: wxL).all vx_ot = true := by decide +kernel
theorem wxL_ok {args : Array Value} {s : State} (hT : wTok s) (hB : ∀ w ∈ wxB, va_Nw w s) : ∀ w ∈ wxL, w.before args s = true := by
  refine vx_hat (B := wxB) (fun w hw => ?_) (fun w hw => ?_) (fun w hw => ?_)
  · have h1 := List.all_eq_true.mp wxL_good w hw
    exact hT.1 w (wTs_in (of_decide_eq_true h1) (List.mem_filter.mp hw).2) args
  · exact of_decide_eq_true (List.all_eq_true.mp wxL_rest w hw)
  · have h := hB w hw
    simp only [wxB, List.mem_cons, List.not_mem_nil, or_false] at hw
    rcases hw with rfl | rfl | rfl | rfl <;> exact va_Nw.use rfl h
/-- what a throw needs of the state -/
def wXs (G : wG) (U : State) : Prop := (∃ a, vk_R RX10 129 "no such farm" a U) ∧ (∃ a, vk_R RX10 150 "a farm has nothing such" a U) ∧ (∃ a, vk_R RX10 429 "the row has no such number" a U) ∧ vx_Zq Bundle.tN "UNASSIGNED_STACK" Bundle.steD (wA G) U U.heap ∧ vx_Zq Bundle.tN "SUPPRESSED_SENTINEL" Bundle.listD (wA G) U U.heap ∧ ∀ w ∈ wxB, va_Nw w U
theorem wXs.go {G : wG} {s U : State} {H : Heap} {locs : List Loc} (h : wXs G s) (hU : U.heap = H) (hW : s.WarmedH U.vm) (hS : va_S (wA G) s.heap H locs) : wXs G U := by
  obtain ⟨⟨a1, h1⟩, ⟨a2, h2⟩, ⟨a3, h3⟩, h4, h5, h6⟩ := h
  refine ⟨⟨a1, h1.warm hW⟩, ⟨a2, h2.warm hW⟩, ⟨a3, h3.warm hW⟩, ?_, ?_, ?_⟩
  · rw [hU]; exact (h4.kept hS.2.1).moved hW.alike
  · rw [hU]; exact (h5.kept hS.2.1).moved hW.alike
  · intro w hw
    have h := h6 w hw
    simp only [wxB, List.mem_cons, List.not_mem_nil, or_false] at hw
    rcases hw with rfl | rfl | rfl | rfl
    · exact h.warmC hW
    · exact h.warmD hW
    · exact h.warmD hW
    · exact h.warmD hW
def wQo (G : wG) (o0 : Option Int32) (s : wM) : Array Value → State → Outcome → State → Prop := va_Qi (S := wM) (fun r u => o0 = some r ∧ u = s) (fun u t => va_P G.2.1 vwCl (wL G u) t.heap) (wA G)
def wXo (G : wG) (o0 : Option Int32) (s : wM) : String → State → State → Prop := vx_X (S := wM) (fun u => o0 = none ∧ u = s) (fun E u t => E = wxC ∧ va_P G.2.1 vwCl (wL G u) t.heap) (wA G)
def wOX (G : wG) (X : wX) : Prop := match X with
  | (_, l, _, R, s, _, _, _, _, c, _, _, cells, slots) => l.stackTraces = false ∧ wXs G s ∧ (∀ x ∈ c.exceptionTable.toList, False) ∧ 1 ≤ R.cells ∧ 6 ≤ R.slots ∧ 6 < R.frames ∧ 120 ≤ R.locals ∧ cells = 0 ∧ slots = 0
def wRtX (G : wG) (X : wX) (o0 : Option Int32) (s : wM) : Prop := match X with
  | (_, _, _, _, s0, _, args, below, _, _, Q, _, _, _) => Q = vx_MQ below (wQo G o0 s) (wXo G o0 s) args s0 1 6 (wA G)
def wPcX (G : wG) (av : List Value) (s0 : wM) : Array Value → State → Prop := va_Pc av (fun U => (va_P G.2.1 vwCl (wL G s0) U.heap ∧ va_K G.2.1 vwCl (wTy G) U ∧ wTok U ∧ wGeo G) ∧ wXs G U)
theorem wPcX_blind {G : wG} {av : List Value} {s0 : wM} : FrameBlind (wPcX G av s0) := fun a U g mk q => ⟨q.1, (wPc_blind a U g mk ⟨q.1, q.2.1⟩).2, wXs.go (locs := []) q.2.2 rfl (State.WarmedH.refl U) va_S.rf⟩
def wMetX (l : Launch) (G : wG) (y : MethodName) (cc : ByteArray) (maxL : Nat) (ret : Option FieldType) (d : Nat) (av : List Value) (s0 : wM) (o0 : Option Int32) : Prop := vx_Met l y [.code y cc maxL ret] (wRmC d 1 6) (wPcX G av s0) (wQo G o0 s0) (wXo G o0 s0) 1 6 (wA G)
set_option maxHeartbeats 4000000 in
theorem wMetX_of {l : Launch} {G : wG} {y : MethodName} {cc : ByteArray} {maxL : Nat} {ret : Option FieldType} {d : Nat} {av : List Value} {s0 : wM} {o0 : Option Int32} {own : String} (hl : l.stackTraces = false) (hy : plainName y.cls = true) (ho : y.cls = own) (hlen : (lg_sl av).length ≤ maxL) (hd : 6 ≤ d)
    (body : ∀ X : wX, wOK G X cc own ret d → wOX G X → wRtX G X o0 s0 → wNl X = maxL → WB G X 0 (lv_args 0 av) [] s0) : wMetX l G y cc maxL ret d av s0 o0 := by
  subst ho
  refine vx_ofW (cc := cc) (maxL := maxL) (ret := ret) hy rfl ?_
  intro p e s m args below meth c s₁ B hml htab hv
  obtain ⟨rfl, ⟨hP, hK, hT, hG⟩, hXs⟩ := hv
  have hown : s.vm.findClass y.cls = some m.cls := findClass_of_methodNamed B.named
  have h := body (p, l, e, (headSpec [.code y cc maxL ret] (wRmC d 1 6)).room, s, m, av.toArray, below, meth, c, vx_MQ below (wQo G o0 s0) (wXo G o0 s0) av.toArray s 1 6 (wA G), maxL, 0, 0) ⟨B.exec, B.bytes, B.returns, hml, hown, hT, hK, B.notSynchronized, hG, Nat.le_refl _, Nat.le_refl _, Nat.zero_le _, Nat.zero_le _⟩ ⟨hl, hXs, htab, Nat.le_refl _, Nat.le_refl _, by show 6 < d + 1; omega, by show 120 ≤ 60 * (d + 1); omega, rfl, rfl⟩ rfl rfl
  rw [lg_entry_eq]
  exact h s.heap [] _ hP va_S.rf (lv_entry av hlen)
section XR
variable {G : wG} {X : wX} {cc : ByteArray} {d : Nat} {pc : Nat} {loc : List (Nat × Value)} {st : List Value} {s : wM} {o0 : Option Int32}
set_option maxHeartbeats 4000000 in
theorem wb_xret {own : String} (hX : wOK G X cc own (some .int) d) (hO : wOX G X) (hQ : wRtX G X o0 s) {r : Int32} (h : (some (some r) : Option (Option Int32)) = some o0) (hd : decode cc pc = .ok (.ireturn, 1)) : WB G X pc loc [.int r] s := by
  obtain ⟨p, l, e, R, s0, m, args, below, meth, c, Q, nL, cells, slots⟩ := X
  obtain ⟨hx, hb, hr, hml, hown, hT, hK, hlk, hG, hfr, hlo, hce, hsl⟩ := hX
  obtain ⟨hl, hXs, htab, h1, h2, h3, h4, hc0, hs0⟩ := hO
  intro H locs ls hP hS hl2
  cases h
  simp only [wRtX] at hQ
  subst hQ
  refine vx_ret ?_
  refine W.widen (k := 1) (n := 6) (by omega) (by omega) ?_
  exact W.iret hx hb hr (fun t ht _ => ⟨⟨_, _, rfl, ⟨rfl, rfl⟩, by show va_P _ _ _ t.heap; rw [ht]; exact hP⟩, hS.F ht⟩) hS.2.2 hd hlk
theorem wx_keepP {s0 : wM} {H : Heap} {t : State} (hP : va_P G.2.1 vwCl (wL G s0) H) (hk : ∀ q : Nat, q < H.size → t.heap[q]? = H[q]?) : va_P G.2.1 vwCl (wL G s0) t.heap := hP.kept (fun k q h => hk _ (hP k q h).lt)
set_option maxHeartbeats 4000000 in
theorem wb_throw {ret : Option FieldType} {is : Nat} {text : String} (hp : wXs G X.2.2.2.2.1 → ∃ a, vk_R RX10 is text a X.2.2.2.2.1) (hX : wOK G X cc RX10 ret d) (hO : wOX G X) (hQ : wRtX G X o0 s) (h : (some none : Option (Option Int32)) = some o0) (d0 : decode cc pc = .ok (.new 127, 3)) (d3 : decode cc (pc + 3) = .ok (.dup, 1)) (d4 : decode cc (pc + 4) = .ok (.ldc is, 2)) (d6 : decode cc (pc + 6) = .ok (.invokespecial 131, 3)) (d9 : decode cc (pc + 9) = .ok (.athrow, 1)) : WB G X pc loc [] s := by
  obtain ⟨p, l, e, R, s0, m, args, below, meth, c, Q, nL, cells, slots⟩ := X
  obtain ⟨hx, hb, hr, hml, hown, hT, hK, hlk, hG, hfr, hlo, hce, hsl⟩ := hX
  obtain ⟨hl, hXs, htab, h1, h2, h3, h4, hc0, hs0⟩ := hO
  intro H locs ls hP hS hl2
  cases h
  simp only [wRtX] at hQ
  subst hQ
  obtain ⟨sa, hsa⟩ := hp hXs
  exact wx_throwS (cls := wxC) (Y0 := wxY) (names := wxN) (ix := 13) (rx := prog_23_method_4_code) (A := wA G) hx hb hl (by decide +kernel) (by decide +kernel) (by decide +kernel) (by decide +kernel) hown (by decide +kernel) (by decide +kernel) (by decide +kernel) (hT.1 _ k_1037 _) (hT.1 _ k_18 _) hsa (wxL_ok hT hXs.2.2.2.2.2) (fun w hw => List.all_eq_true.mp wxL_ot w hw) hXs.2.2.2.1 hXs.2.2.2.2.1 hS (by rw [hml]; exact hl2.1) d0 d3 d4 d6 d9 (fun x hx => (htab x hx).elim) (by show 1 + 4 < R.frames; omega) (by show 0 + (13 * (1 + 2) + 43) ≤ R.locals; omega) (by omega) (by omega) hlk (fun t hvm hz hk => ⟨s, ⟨rfl, rfl⟩, ⟨rfl, wx_keepP hP hk⟩, Nat.le_trans hS.1 hz, fun q h1 h2 => (hk q (Nat.lt_of_lt_of_le h1 hS.1)).trans (hS.2.1 q h1 h2)⟩) hS.2.2 (by omega) (by omega)
set_option maxHeartbeats 4000000 in
theorem wb_throwW {ret : Option FieldType} {is : Nat} {text : String} (hp : wXs G X.2.2.2.2.1 → ∃ a, vk_R RX10 is text a X.2.2.2.2.1) (hX : wOK G X cc RX10 ret d) (hO : wOX G X) (hQ : wRtX G X o0 s) (h : (some none : Option (Option Int32)) = some o0) (d0 : decode cc pc = .ok (.new 127, 3)) (d3 : decode cc (pc + 3) = .ok (.dup, 1)) (d4 : decode cc (pc + 4) = .ok (.ldc_w is, 3)) (d7 : decode cc (pc + 7) = .ok (.invokespecial 131, 3)) (d10 : decode cc (pc + 10) = .ok (.athrow, 1)) : WB G X pc loc [] s := by
  obtain ⟨p, l, e, R, s0, m, args, below, meth, c, Q, nL, cells, slots⟩ := X
  obtain ⟨hx, hb, hr, hml, hown, hT, hK, hlk, hG, hfr, hlo, hce, hsl⟩ := hX
  obtain ⟨hl, hXs, htab, h1, h2, h3, h4, hc0, hs0⟩ := hO
  intro H locs ls hP hS hl2
  cases h
  simp only [wRtX] at hQ
  subst hQ
  obtain ⟨sa, hsa⟩ := hp hXs
  exact wx_throwSW (cls := wxC) (Y0 := wxY) (names := wxN) (ix := 13) (rx := prog_23_method_4_code) (A := wA G) hx hb hl (by decide +kernel) (by decide +kernel) (by decide +kernel) (by decide +kernel) hown (by decide +kernel) (by decide +kernel) (by decide +kernel) (hT.1 _ k_1037 _) (hT.1 _ k_18 _) hsa (wxL_ok hT hXs.2.2.2.2.2) (fun w hw => List.all_eq_true.mp wxL_ot w hw) hXs.2.2.2.1 hXs.2.2.2.2.1 hS (by rw [hml]; exact hl2.1) d0 d3 d4 d7 d10 (fun x hx => (htab x hx).elim) (by show 1 + 4 < R.frames; omega) (by show 0 + (13 * (1 + 2) + 43) ≤ R.locals; omega) (by omega) (by omega) hlk (fun t hvm hz hk => ⟨s, ⟨rfl, rfl⟩, ⟨rfl, wx_keepP hP hk⟩, Nat.le_trans hS.1 hz, fun q h1 h2 => (hk q (Nat.lt_of_lt_of_le h1 hS.1)).trans (hS.2.1 q h1 h2)⟩) hS.2.2 (by omega) (by omega)
end XR

