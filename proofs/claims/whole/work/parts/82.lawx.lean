/-- the same walk, with so many cells and slots made -/
def wCs (X : wX) (ce sl : Nat) : wX := match X with
  | (p, l, e, R, s, m, args, below, meth, c, Q, nL, _, _) => (p, l, e, R, s, m, args, below, meth, c, Q, nL, ce, sl)
def wCf (X : wX) (ce sl : Nat) : Prop := match X with
  | (_, _, _, R, _, _, _, _, _, _, _, _, _, _) => ce ≤ R.cells ∧ sl ≤ R.slots
def wCn (X : wX) : Nat × Nat := (X.2.2.2.2.2.2.2.2.2.2.2.2.1, X.2.2.2.2.2.2.2.2.2.2.2.2.2)
theorem wOK_cs {G : wG} {X : wX} {cc : ByteArray} {own : String} {ret : Option FieldType} {d ce sl : Nat} (hX : wOK G X cc own ret d) (h : wCf X ce sl) : wOK G (wCs X ce sl) cc own ret d := by
  obtain ⟨p, l, e, R, s0, m, args, below, meth, c, Q, nL, cells, slots⟩ := X
  obtain ⟨hx, hb, hr, hml, hown, hT, hK, hlk, hG, hfr, hlo, hce, hsl⟩ := hX
  exact ⟨hx, hb, hr, hml, hown, hT, hK, hlk, hG, hfr, hlo, h.1, h.2⟩
theorem wb_widen {G : wG} {X : wX} {pc : Nat} {loc : List (Nat × Value)} {st : List Value} {s : wM} {ce sl : Nat} (h : (wCn X).1 ≤ ce ∧ (wCn X).2 ≤ sl) (k : WB G (wCs X ce sl) pc loc st s) : WB G X pc loc st s := by
  obtain ⟨p, l, e, R, s0, m, args, below, meth, c, Q, nL, cells, slots⟩ := X
  intro H locs ls hP hS hl
  exact W.widen h.1 h.2 (k H locs ls hP hS hl)
def wOF (G : wG) (X : wX) (hh : List (Nat × Nat × Nat × Nat)) : Prop := match X with
  | (_, l, _, R, s, _, _, _, _, c, _, _, cells, slots) => l.stackTraces = false ∧ wXs G s ∧ c.exceptionTable.toList = tableOf hh ∧ 1 ≤ R.cells ∧ 6 ≤ R.slots ∧ cells = 0 ∧ slots = 0
def wRtF (G : wG) (X : wX) (Qc : Array Value → State → Outcome → State → Prop) : Prop := match X with
  | (_, _, _, _, s, _, args, below, _, _, Q, _, _, _) => Q = MQ below Qc args s 1 6 (wA G)
def wMetF (l : Launch) (G : wG) (y : MethodName) (cc : ByteArray) (maxL : Nat) (ret : Option FieldType) (hh : List (Nat × Nat × Nat × Nat)) (d : Nat) (av : List Value) (s0 : wM) (Qc : Array Value → State → Outcome → State → Prop) : Prop := Met l y [.codeWith y cc maxL ret hh] (wRmC d 1 6) (wPcX G av s0) Qc 1 6 (wA G)
set_option maxHeartbeats 4000000 in
theorem wMetF_of {l : Launch} {G : wG} {y : MethodName} {cc : ByteArray} {maxL : Nat} {ret : Option FieldType} {hh : List (Nat × Nat × Nat × Nat)} {d : Nat} {av : List Value} {s0 : wM} {Qc : Array Value → State → Outcome → State → Prop} {own : String} (hl : l.stackTraces = false) (hy : plainName y.cls = true) (ho : y.cls = own) (hlen : (lg_sl av).length ≤ maxL)
    (body : ∀ X : wX, wOK G X cc own ret d → wOF G X hh → wRtF G X Qc → wNl X = maxL → WB G X 0 (lv_args 0 av) [] s0) : wMetF l G y cc maxL ret hh d av s0 Qc := by
  subst ho
  unfold wMetF Met
  refine MetFree.of_bodyS (code := cc) (maxLocals := maxL) (ret := ret) hy ?_ ?_
  · intro args s m h hn
    obtain ⟨m9, meth, c, hn9, h1, h2, h3, h4, -, h5, h6, -⟩ := Cond.codeWith_spec (atoms_spec (ws := [.codeWith y cc maxL ret hh]) h _ List.mem_cons_self)
    cases hn.symm.trans hn9
    exact ⟨meth, c, h1, h2, h3, h4, h5, h6⟩
  · intro p e s m args below meth c s₁ B hml hv _
    obtain ⟨rfl, ⟨hP, hK, hT, hG⟩, hXs⟩ := hv
    have hh0 : s₁.heap = s.heap := by rw [B.state]; rfl
    have htab : c.exceptionTable.toList = tableOf hh := vx_table (x := y) B (atoms_spec (ws := [.codeWith y cc maxL ret hh]) B.pre _ List.mem_cons_self)
    have hown : s.vm.findClass y.cls = some m.cls := findClass_of_methodNamed B.named
    have h := body (p, l, e, (headSpec [.codeWith y cc maxL ret hh] (wRmC d 1 6)).room, s, m, av.toArray, below, meth, c, MQ below Qc av.toArray s 1 6 (wA G), maxL, 0, 0) ⟨B.exec, B.bytes, B.returns, hml, hown, hT, hK, B.notSynchronized, hG, Nat.le_refl _, Nat.le_refl _, Nat.zero_le _, Nat.zero_le _⟩ ⟨hl, hXs, htab, Nat.le_refl _, Nat.le_refl _, rfl, rfl⟩ rfl rfl
    have h2 := h s.heap [] _ hP va_S.rf (lv_entry av hlen)
    rw [← lg_entry_eq] at h2
    obtain ⟨t, a1, o, b1, b2, b3⟩ := h2 s₁ hh0 (Stand.of_body B)
    exact ⟨t, o, a1, b1, b2, ⟨b3.1, b3.2⟩⟩
set_option maxHeartbeats 4000000 in
/-- a call that returns or throws, the throw caught by the one row of the table -/
theorem wb_callX {G : wG} {X : wX} {cc : ByteArray} {own : String} {ret : Option FieldType} {d pc : Nat} {loc : List (Nat × Value)} {s : wM} {o0 : Option Int32} {hh : List (Nat × Nat × Nat × Nat)} {idx maxL n d1 b ci : Nat} {y : MethodName} {bytes : ByteArray} {rt : Option FieldType} {fs : List (Option Nat)} {st0 rest : List Value} (As : List Value) (x : ExceptionTableEntry) (hX : wOK G X cc own ret d) (hF : wOF G X hh) (hk : wSh[b]? = some (.inr (ci, fs))) (hM : wMv own idx y bytes maxL rt ci n) (hC : wMetX X.2.1 G y bytes maxL rt d1 (.ref (G.1 b) :: As) s o0) (hd1 : d1 < d ∧ maxL ≤ 40) (hn : As.length = n) (hst : st0 = As.reverse ++ .ref (G.1 b) :: rest) (hcat : (rest.map fun v => v.category).sum ≤ 8) (hone : tableOf hh = [x]) (hcov : covers x pc = true) (h0 : x.catchType ≠ 0) (hlink : Cond.classLink own x.catchType wxC ∈ wTs) (hd : decode cc pc = .ok (.invokevirtual idx, 3))
    (k1 : ∀ r : Int32, o0 = some r → WB G (wCs X 1 6) (pc + 3) loc (.int r :: rest) s) (k2 : o0 = none → ∀ q : Nat, WB G (wCs X 1 6) x.handlerPc loc [.ref q] s) : WB G X pc loc st0 s := by
  obtain ⟨p, l, e, R, s0, m, args, below, meth, c, Q, nL, cells, slots⟩ := X
  obtain ⟨hx, hb, hr, hml, hown, hT, hK, hlk, hG, hfr, hlo, hce, hsl⟩ := hX
  obtain ⟨hl, hXs, htab, hc1, hs6, hc0, hs0⟩ := hF
  intro H locs ls hP hS hl2
  subst hst
  obtain ⟨w1, w2, w3, w4, w5, w6, vq, hq1, hq2⟩ := hM
  have hrun := vx_runV (As := As) (rest := rest) (R := R) (cells := cells) (slots := slots) (locs := locs) (below := below) (meth := meth) (e := e) (args := args) ⟨hx, hb, hml, hown, fun w hw => hT.1 w hw _⟩ hC ⟨callB_of n (fun w hw => hT.1 w hw _) (w_code w5) rfl rfl rfl (hT.1 _ w4 _) (hT.1 _ w1 _) w6 ⟨by simp only [wRmC]; omega, by simp only [wRmC]; omega⟩, hT.1 _ w2 _, hT.1 _ w3 _⟩ ⟨wPcX_blind, hq2 ▸ va_recv hK hP hq1 (wL_at hk), fun U hU hW => ⟨rfl, ⟨by rw [hU]; exact hP, va_K.moved hW.alike hK, hT.warm hW, hG⟩, hXs.go hU hW hS⟩⟩ (g := F0 m pc ls (As.reverse ++ .ref (G.1 b) :: rest)) rfl hn hl2.1 rfl (lv_room (pc := pc) (ls := ls) (m := m) (rest := As.reverse ++ .ref (G.1 b) :: rest) hcat) hd ⟨by omega, by omega⟩
  subst hc0 hs0
  refine vx_calli hrun hS (fun q _ h => h) (fun q h => h) (fun q _ h => h) (fun E ce q9 u t H1 locs1 ht hvm hw hB hz1 hk1 hS1 h9 hv9 hE => ?_) (fun r u t H1 locs1 ht hvm hw hB hz1 hk1 hS1 => ?_)
  · obtain ⟨ho, rfl⟩ := hw
    obtain ⟨rfl, hB⟩ := hB
    refine wx_catch (E := wxC) (name := wxC) hown x (htab.trans hone) hcov h0 (hT.1 _ hlink _) (va_Nw.use rfl (hXs.2.2.2.2.2 _ List.mem_cons_self)) h9 hv9 hE ?_
    exact k2 ho q9 H1 locs1 ls (by rw [← ht]; exact hB) hS1 hl2
  · obtain ⟨ho, rfl⟩ := hw
    exact k1 r ho H1 locs1 ls (by rw [← ht]; exact hB) hS1 hl2
theorem clamp0 : (iI 0).toNatClampNeg = 0 := by decide
theorem tL_end {G : wG} {X : wX} {cc : ByteArray} {d pc : Nat} {loc : List (Nat × Value)} {s : wM} {r : Int32} {r0 : Int32} {s1 : wM} {own : String} (hX : wOK G (wCs X 1 6) cc own (some .int) d) (hQ : wRtF G X (wQi G r0 s1)) (h : (some (r, s) : Option (Int32 × wM)) = some (r0, s1)) (hd : decode cc pc = .ok (.ireturn, 1)) : WB G (wCs X 1 6) pc loc [.int r] s := by
  refine wb_iret hX ?_ h hd
  obtain ⟨p, l, e, R, s0, m, args, below, meth, c, Q, nL, cells, slots⟩ := X
  exact hQ

theorem ml_1033 : wMv RL 7 yX10_farm cX10_farm 3 (some .int) 10 2 := ⟨k_1033, k_1034, k_1035, k_1, k_1036, by decide +kernel, _, rfl, rfl⟩
theorem ml_1107 : wMv RL 15 yX10_row cX10_row 2 (some .int) 10 1 := ⟨k_1107, k_1108, k_1109, k_1, k_1110, by decide +kernel, _, rfl, rfl⟩
theorem sh_0z : wSh[0]? = some (.inr (10, [some 1, some 3, some 7, some 13, some 23, some 28, some 32, some 34, some 141, some 142, some 145])) := rfl
theorem sh_196z : wSh[196]? = some (.inl (.long, 1, 0, 0)) := rfl
set_option maxHeartbeats 4000000 in
set_option maxRecDepth 100000 in
theorem tL_farm {l : Launch} {G : wG} {s : wM} {x1 x2 : Int32} {r0 : Int32} {s1 : wM} (hl : l.stackTraces = false) (h : fL_farm s x1 x2 = some (r0, s1)) : wMetF l G yL_farm cL_farm 5 (some .int) [(0, 10, 13, 13)] 8 [.ref (G.1 0), .int x1, .int x2, .ref (G.1 196)] s (wQi G r0 s1) := by
  refine wMetF_of (own := RL) hl (by decide +kernel) rfl (Nat.le_of_ble_eq_true rfl) ?_
  intro X hX hF hQ hN
  have hX1 : wOK G (wCs X 1 6) cL_farm RL (some .int) 8 := wOK_cs hX (by obtain ⟨p, l, e, R, s0, m, args, below, meth, c, Q, nL, cells, slots⟩ := X; exact ⟨hF.2.2.2.1, hF.2.2.2.2.1⟩)
  have hN1 : wNl (wCs X 1 6) = 5 := by obtain ⟨p, l, e, R, s0, m, args, below, meth, c, Q, nL, cells, slots⟩ := X; exact hN
  have hl1 : X.2.1.stackTraces = false := by obtain ⟨p, l, e, R, s0, m, args, below, meth, c, Q, nL, cells, slots⟩ := X; exact hF.1
  show WB G X 0 [(0, .ref (G.1 0)), (1, .int x1), (2, .int x2), (3, .ref (G.1 196))] [] s
  unfold fL_farm at h
  obtain ⟨o0, ho, h⟩ := bind_s h
  refine wb_aload_n 3 hX dL_farm_0 rfl (pq := 1) rfl ?_
  refine wb_iconst (v := iI 0) hX dL_farm_1 rfl (pq := 2) rfl ?_
  refine wb_aload_n 0 hX dL_farm_2 rfl (pq := 3) rfl ?_
  refine wb_iload_n 1 hX dL_farm_3 rfl (pq := 4) rfl ?_
  refine wb_iload_n 2 hX dL_farm_4 rfl (pq := 5) rfl ?_
  refine wb_callX [.int x1, .int x2] { startPc := 0, endPc := 10, handlerPc := 13, catchType := 13 } hX hF sh_0z ml_1033 (tW_farm hl1 ho) (by decide) rfl rfl (Nat.le_of_ble_eq_true rfl) rfl (by decide) (by decide) k_1032 dL_farm_5 (fun r hr => ?_) (fun hr q => ?_)
  · subst hr
    refine wb_i2l hX1 dL_farm_8 (pq := 9) rfl ?_
    refine wb_last hX1 sh_196z (by unfold vp_in; decide) dL_farm_9 (pq := 10) rfl ?_
    rw [clamp0]
    refine wb_goto (tgt := 17) hX1 dL_farm_10 (by decide) ?_
    refine wb_iconst (v := iI 0) hX1 dL_farm_17 rfl (pq := 18) rfl ?_
    exact tL_end hX1 hQ h dL_farm_18
  · subst hr
    refine wb_astore (loc' := [(4, .ref q), (0, .ref (G.1 0)), (1, .int x1), (2, .int x2), (3, .ref (G.1 196))]) hX1 hN1 dL_farm_13 (by decide) rfl (pq := 15) rfl ?_
    refine wb_iconst (v := iI 1) hX1 dL_farm_15 rfl (pq := 16) rfl ?_
    exact tL_end hX1 hQ h dL_farm_16
set_option maxHeartbeats 4000000 in
set_option maxRecDepth 100000 in
theorem tL_row {l : Launch} {G : wG} {s : wM} {x1 : Int32} {r0 : Int32} {s1 : wM} (hl : l.stackTraces = false) (h : fL_row s x1 = some (r0, s1)) : wMetF l G yL_row cL_row 4 (some .int) [(0, 9, 12, 13)] 8 [.ref (G.1 0), .int x1, .ref (G.1 196)] s (wQi G r0 s1) := by
  refine wMetF_of (own := RL) hl (by decide +kernel) rfl (Nat.le_of_ble_eq_true rfl) ?_
  intro X hX hF hQ hN
  have hX1 : wOK G (wCs X 1 6) cL_row RL (some .int) 8 := wOK_cs hX (by obtain ⟨p, l, e, R, s0, m, args, below, meth, c, Q, nL, cells, slots⟩ := X; exact ⟨hF.2.2.2.1, hF.2.2.2.2.1⟩)
  have hN1 : wNl (wCs X 1 6) = 4 := by obtain ⟨p, l, e, R, s0, m, args, below, meth, c, Q, nL, cells, slots⟩ := X; exact hN
  have hl1 : X.2.1.stackTraces = false := by obtain ⟨p, l, e, R, s0, m, args, below, meth, c, Q, nL, cells, slots⟩ := X; exact hF.1
  show WB G X 0 [(0, .ref (G.1 0)), (1, .int x1), (2, .ref (G.1 196))] [] s
  unfold fL_row at h
  obtain ⟨o0, ho, h⟩ := bind_s h
  refine wb_aload_n 2 hX dL_row_0 rfl (pq := 1) rfl ?_
  refine wb_iconst (v := iI 0) hX dL_row_1 rfl (pq := 2) rfl ?_
  refine wb_aload_n 0 hX dL_row_2 rfl (pq := 3) rfl ?_
  refine wb_iload_n 1 hX dL_row_3 rfl (pq := 4) rfl ?_
  refine wb_callX [.int x1] { startPc := 0, endPc := 9, handlerPc := 12, catchType := 13 } hX hF sh_0z ml_1107 (tW_row hl1 ho) (by decide) rfl rfl (Nat.le_of_ble_eq_true rfl) rfl (by decide) (by decide) k_1032 dL_row_4 (fun r hr => ?_) (fun hr q => ?_)
  · subst hr
    refine wb_i2l hX1 dL_row_7 (pq := 8) rfl ?_
    refine wb_last hX1 sh_196z (by unfold vp_in; decide) dL_row_8 (pq := 9) rfl ?_
    rw [clamp0]
    refine wb_goto (tgt := 15) hX1 dL_row_9 (by decide) ?_
    refine wb_iconst (v := iI 0) hX1 dL_row_15 rfl (pq := 16) rfl ?_
    exact tL_end hX1 hQ h dL_row_16
  · subst hr
    refine wb_astore_n (loc' := [(3, .ref q), (0, .ref (G.1 0)), (1, .int x1), (2, .ref (G.1 196))]) hX1 hN1 dL_row_12 (by decide) rfl (pq := 13) rfl ?_
    refine wb_iconst (v := iI 1) hX1 dL_row_13 rfl (pq := 14) rfl ?_
    exact tL_end hX1 hQ h dL_row_14
