-- ===== end of PART A; then your names; then what follows =====
/-! THE CLAIM OUT OF ONE WALK OF THE LAW'S BODY. Your part is whole_start (and what it stands on); all else here is the same for every law, but numbers. -/
def R_law : String := "WellsNotEvenLaw"
def lw_P (b : Addr) (xs : List Int32) (args : Array Value) (s : State) : Prop := args = #[.ref b] ∧ s.IntsAt b xs ∧ xs.length ≤ 2560 ∧ (Jvm.Cond.and given_1 narrow_1).before args s = true
def lw_Q (_ : Array Value) (s : State) (o : Outcome) (t : State) : Prop := o = .returned (some (.int 1)) ∧ Framed s o t [] 601024 7293034
def lw_Z (below : List Frame) (a : Array Value) (s : State) : State → Prop := fun t => ∃ o, t.status = .running ∧ Ended t below o ∧ lw_Q a s o t
/-- the law's own end, with 1 on the stack, nothing written that was there before, its room as the claim has it -/
theorem lw_ret {p : Program} {l : Launch} {e : Env} {s : State} {m : MethodId} {below : List Frame} {meth : Method} {c : Code} {b : Nat} (hx : p.tables.exec = Jvm.exec) (hb : c.code = code) (hr : meth.sig.returnType = ret) (hlocks : meth.locks = false) {pc : Nat} {H : Heap} {ls : Array Slot} (hdg : decode code pc = .ok (.ireturn, 1)) : W p l e room_1 s m #[Value.ref b] below meth c H [] 601024 7293034 (lw_Z below #[Value.ref b] s) (F0 m pc ls [.int 1]) := by
  intro T hT X
  obtain ⟨fs, hret, hrun, hended, hW, hframe⟩ := X.leave (v := some (.int 1)) (hlocks := hlocks) (fun h => by rw [hr] at h; cases h)
  have hmeth' : T.vm.method? m = some meth := X.method'
  refine ⟨T.setFrames fs, ?_, .returned (some (.int 1)), hrun, hended, rfl, ⟨_, rfl⟩, hW, hframe⟩
  jvm_step X.here [X.here.top, hx, hb, hdg, hmeth', hr, ret, narrow_b1]
  (try refine ⟨rfl, ?_⟩); (try refine ⟨rfl, ?_⟩)
  first | (intro acts; rw [hret _ acts rfl rfl rfl]) | rw [hret _ _ rfl rfl rfl]
  exact Steps.refl _
/-- what holds at the law's entry: the machine, the code, the tables' words (any of lw_tbl by 'hts w (by decide +kernel)'), the script of L ints xs at the cell b, what the Statement gives of the start (any of its parts by flat_of_before) -/
def lw_At (p : Program) (s : State) (m : MethodId) (meth : Method) (c : Code) (b L : Nat) (xs : Nat → Int32) : Prop :=
  p.tables.exec = Jvm.exec ∧ c.code = code ∧ meth.sig.returnType = ret ∧ c.maxLocals = 7 ∧ s.vm.findClass R_law = some m.cls ∧ (∀ w ∈ lw_tbl, w.before #[Value.ref b] s = true) ∧ va_X b L xs s s.heap ∧ b < s.heap.size ∧ meth.locks = false ∧ (Jvm.Cond.and given_1 narrow_1).before #[Value.ref b] s = true

theorem wc_istore {G : wG} {X : wX} {cc : ByteArray} {own : String} {d mc ms ce sl pc n nL0 : Nat} {loc : List (Nat × Value)} {st : List Value} {E : Nat → va_E} {i : Nat} {x : Int32} {loc' : List (Nat × Value)} (hX : wOC G X cc own d mc ms) (hn0 : wNl X = nL0) (hd : decode cc pc = .ok (.istore i, 2)) (hn : i < nL0) (hl' : (i, Value.int x) :: loc.filter (fun q => !(q.1 == i) && !(q.1 + 1 == i && q.2.category == 2)) = loc') {pq : Nat} (hp : pc + 2 = pq) (k : WC G X ce sl pq loc' st n E) : WC G X ce sl pc loc (Value.int x :: st) n E := by
  obtain ⟨p, l, e, R, s0, m, args, below, meth, c, Q, nL, cells, slots⟩ := X
  obtain ⟨hx, hb, hml, hown, hT, hK, hlk, hfr, hlo, hmc, hms, hbs, hO⟩ := hX
  intro H locs ls hP hz hS hl
  subst hp hn0
  exact lv_istore hx hb hd hl hn hl' (fun ls' h' => k H locs ls' hP hz hS h')
theorem iI_nI (n : Nat) : iI (n : Int) = nI n := by
  unfold iI nI
  exact Int32.ofInt_eq_ofNat
abbrev lwX (p : Program) (l : Launch) (e : Env) (s : State) (m : MethodId) (b : Nat) (below : List Frame) (meth : Method) (c : Code) (ce sl : Nat) : wX := (p, l, e, room_1, s, m, #[Value.ref b], below, meth, c, lw_Z below #[Value.ref b] s, 7, ce, sl)
theorem law_exit {p : Program} {l : Launch} {e : Env} {s : State} {m : MethodId} {b : Nat} {below : List Frame} {meth : Method} {c : Code} {ce sl : Nat} {G : wG} {loc : List (Nat × Value)} {z : wM} (hX : wOK G (lwX p l e s m b below meth c ce sl) code RL (some .boolean) 60) (hG0 : G.2.2.2 = s.heap.size) (hc : ce ≤ 601024) (hs : sl ≤ 7293034) : WB G (lwX p l e s m b below meth c ce sl) 1572 loc [] z := by
  obtain ⟨hx, hb, hr, hml, hown, hT, hK, hlk, hG, hfr, hlo, hce, hsl⟩ := hX
  intro H locs ls hP hS hl
  refine lv_iconst (v := 1) hx hb dL_law_1572 (by decide) ?_
  refine va_forget (fun q hq => by have h := hS.2.2 q hq; unfold wA at h; rw [hG0] at h; exact h) ?_
  refine W.widen hc hs ?_
  exact lw_ret hx hb hr hlk dL_law_1573
theorem lw_idx {L j k : Nat} (hL : L ≤ 2560) (h : 5 * j + k < L) : vp_in (nI (5 * j) + iI (k : Int)) L := by
  rw [iI_nI, nI_add]
  exact vp_in_nI h (by omega)
set_option maxHeartbeats 16000000 in
set_option maxRecDepth 100000 in
theorem law_loop {p : Program} {l : Launch} {e : Env} {s : State} {m : MethodId} {b : Nat} {below : List Frame} {meth : Method} {c : Code} {G : wG} {L : Nat} {xs : Nat → Int32} (Inv : wM → Prop) (hops : wOps Inv) (hL : L ≤ 2560) (hX0 : wOK G (lwX p l e s m b below meth c 0 0) code RL (some .boolean) 60) (hSc0 : wSc G (lwX p l e s m b below meth c 0 0) b L xs) (hLx0 : wLx G (lwX p l e s m b below meth c 0 0)) (hG0 : G.2.2.2 = s.heap.size) : ∀ (r j : Nat) (z : wM), Inv z → j + r = 513 → WB G (lwX p l e s m b below meth c (197 + j) (40073 + 6 * j)) 23 [(0, .ref b), (1, .ref (G.1 0)), (2, .ref (G.1 161)), (3, .ref (G.1 196)), (4, .int (nI (5 * j)))] [] z := by
  obtain ⟨g0, g1, g2, g3, g4, g5, g6, g7, g8, g9, g10, g11, g12, g13, g14, g15, g16, g17, g18, g19, g20, g21, g22, g23, g24, g25, g26, g27, g28, g29, g30, g31, g32, g33, g34, g35, g36, g37, g38, g39, g40, g41, g42, g43, g44, g45, g46, g47⟩ := hops
  intro r
  induction r with
  | zero =>
    intro j z hI hj
    have hX : wOK G (lwX p l e s m b below meth c (197 + j) (40073 + 6 * j)) code RL (some .boolean) 60 := wOK_cs (ce := 197 + j) (sl := 40073 + 6 * j) hX0 ⟨by show 197 + j ≤ 601024; omega, by show 40073 + 6 * j ≤ 7293034; omega⟩
    have hSc : wSc G (lwX p l e s m b below meth c (197 + j) (40073 + 6 * j)) b L xs := hSc0
    refine wb_iload 4 hX dL_law_23 rfl (pq := 25) rfl ?_
    refine wb_aload_n 0 hX dL_law_25 rfl (pq := 26) rfl ?_
    refine wb_slen hX hSc dL_law_26 (pq := 27) rfl ?_
    refine wb_iconst (v := nI 5) hX dL_law_27 (by decide) (pq := 28) rfl ?_
    refine wb_isub hX dL_law_28 (pq := 29) rfl ?_
    refine wb_icmp_gt (tgt := 1572) hX dL_law_29 (by decide) (fun _ => law_exit hX hG0 (by omega) (by omega)) (pq := 32) rfl (fun cc => ?_)
    exfalso
    apply cc
    show nI L - nI 5 < nI (5 * j)
    rw [Int32.lt_iff_toInt_lt, pk_sub_toInt (by omega) (by omega), nI_toInt (by omega)]
    omega
  | succ r ih =>
    intro j z hI hj
    have hX : wOK G (lwX p l e s m b below meth c (197 + j) (40073 + 6 * j)) code RL (some .boolean) 60 := wOK_cs (ce := 197 + j) (sl := 40073 + 6 * j) hX0 ⟨by show 197 + j ≤ 601024; omega, by show 40073 + 6 * j ≤ 7293034; omega⟩
    have hSc : wSc G (lwX p l e s m b below meth c (197 + j) (40073 + 6 * j)) b L xs := hSc0
    have hX2 : wOK G (lwX p l e s m b below meth c (197 + (j + 1)) (40073 + 6 * (j + 1))) code RL (some .boolean) 60 := wOK_cs (ce := 197 + (j + 1)) (sl := 40073 + 6 * (j + 1)) hX0 ⟨by show 197 + (j + 1) ≤ 601024; omega, by show 40073 + 6 * (j + 1) ≤ 7293034; omega⟩
    have hn2 : ∀ y : wM, Inv y → WB G (lwX p l e s m b below meth c (197 + (j + 1)) (40073 + 6 * (j + 1))) 1566 [(0, .ref b), (1, .ref (G.1 0)), (2, .ref (G.1 161)), (3, .ref (G.1 196)), (4, .int (nI (5 * j)))] [] y := by
      intro y hy
      refine wb_iinc (v := nI (5 * (j + 1))) (loc' := [(4, .int (nI (5 * (j + 1)))), (0, .ref b), (1, .ref (G.1 0)), (2, .ref (G.1 161)), (3, .ref (G.1 196))]) 4 hX2 (nL0 := 7) rfl dL_law_1566 rfl (by rw [show Int32.ofInt 5 = nI 5 by decide, nI_add]; rfl) (by decide) rfl (pq := 1569) rfl ?_
      refine wb_goto (tgt := 23) hX2 dL_law_1569 (by decide) ?_
      refine wb_sub [1, 2, 3, 4, 0] (loc' := [(0, .ref b), (1, .ref (G.1 0)), (2, .ref (G.1 161)), (3, .ref (G.1 196)), (4, .int (nI (5 * (j + 1))))]) rfl ?_
      exact ih (j + 1) y hy (by omega)
    have hn : ∀ y : wM, Inv y → WB G (lwX p l e s m b below meth c (197 + j) (40073 + 6 * j)) 1566 [(0, .ref b), (1, .ref (G.1 0)), (2, .ref (G.1 161)), (3, .ref (G.1 196)), (4, .int (nI (5 * j)))] [] y := fun y hy => wb_widen (ce := 197 + (j + 1)) (sl := 40073 + 6 * (j + 1)) ⟨by show 197 + j ≤ 197 + (j + 1); omega, by show 40073 + 6 * j ≤ 40073 + 6 * (j + 1); omega⟩ (hn2 y hy)
    refine wb_iload 4 hX dL_law_23 rfl (pq := 25) rfl ?_
    refine wb_aload_n 0 hX dL_law_25 rfl (pq := 26) rfl ?_
    refine wb_slen hX hSc dL_law_26 (pq := 27) rfl ?_
    refine wb_iconst (v := nI 5) hX dL_law_27 (by decide) (pq := 28) rfl ?_
    refine wb_isub hX dL_law_28 (pq := 29) rfl ?_
    refine wb_icmp_gt (tgt := 1572) hX dL_law_29 (by decide) (fun _ => law_exit hX hG0 (by omega) (by omega)) (pq := 32) rfl (fun cc => ?_)
    have hlt : 5 * j + 5 ≤ L := by
      rcases Nat.lt_or_ge L (5 * j + 5) with q | q
      · exfalso
        apply cc
        show nI L - nI 5 < nI (5 * j)
        rw [Int32.lt_iff_toInt_lt, pk_sub_toInt (by omega) (by omega), nI_toInt (by omega)]
        omega
      · exact q
    have h1 : vp_in (nI (5 * j) + iI (1)) L := lw_idx (k := 1) hL (by omega)
    have h2 : vp_in (nI (5 * j) + iI (2)) L := lw_idx (k := 2) hL (by omega)
    have h3 : vp_in (nI (5 * j) + iI (3)) L := lw_idx (k := 3) hL (by omega)
    have h4 : vp_in (nI (5 * j) + iI (4)) L := lw_idx (k := 4) hL (by omega)
    refine wb_aload_n 0 hX dL_law_32 rfl (pq := 33) rfl ?_
    refine wb_iload 4 hX dL_law_33 rfl (pq := 35) rfl ?_
    refine wb_sld hX hSc (vp_in_nI (by omega) (by omega)) dL_law_35 (pq := 36) rfl ?_
    refine wb_bipush (v := iI 63) hX dL_law_36 (by decide) (pq := 38) rfl ?_
    refine wb_iand hX dL_law_38 (pq := 39) rfl ?_
    refine wb_topi (fun v _ => ?_)
    by_cases c0 : v = iI (0)
    · refine wb_tabIn (tgt := 244) (off := 205) hX dL_law_39 (by rw [c0]; decide) (by rw [c0]; decide) (by rw [c0]; decide) (by decide) ?_
      obtain ⟨r, s1, s2, e1, e2, e3⟩ := g0 z (xs (nI (5 * j) + iI (1)).toNatClampNeg) hI
      exact law_0 hX hSc h1 e1 e2 (hn _ e3)
    · skip
      by_cases c1 : v = iI (1)
      · refine wb_tabIn (tgt := 269) (off := 230) hX dL_law_39 (by rw [c1]; decide) (by rw [c1]; decide) (by rw [c1]; decide) (by decide) ?_
        obtain ⟨r, s1, s2, e1, e2, e3⟩ := g1 z (xs (nI (5 * j) + iI (1)).toNatClampNeg) hI
        exact law_1 hX hSc h1 e1 e2 (hn _ e3)
      · skip
        by_cases c2 : v = iI (2)
        · refine wb_tabIn (tgt := 294) (off := 255) hX dL_law_39 (by rw [c2]; decide) (by rw [c2]; decide) (by rw [c2]; decide) (by decide) ?_
          obtain ⟨r, s1, s2, e1, e2, e3⟩ := g2 z  hI
          exact law_2 hX hSc  e1 e2 (hn _ e3)
        · skip
          by_cases c3 : v = iI (3)
          · refine wb_tabIn (tgt := 307) (off := 268) hX dL_law_39 (by rw [c3]; decide) (by rw [c3]; decide) (by rw [c3]; decide) (by decide) ?_
            obtain ⟨kk, rb, s1, s2, e1, e2, e3, e4, e5⟩ := g3 z (xs (nI (5 * j) + iI (1)).toNatClampNeg) (xs (nI (5 * j) + iI (2)).toNatClampNeg) hI
            exact law_3 hX hSc hLx0 rfl ⟨by show 197 + j + 1 ≤ 601024; omega, by show 40073 + 6 * j + 6 ≤ 7293034; omega⟩ h1 h2 e1 e2 e3 e4 (hn2 _ e5)
          · skip
            by_cases c4 : v = iI (4)
            · refine wb_tabIn (tgt := 375) (off := 336) hX dL_law_39 (by rw [c4]; decide) (by rw [c4]; decide) (by rw [c4]; decide) (by decide) ?_
              obtain ⟨r, s2, e1, e2, e3⟩ := g4 z (xs (nI (5 * j) + iI (1)).toNatClampNeg) (xs (nI (5 * j) + iI (2)).toNatClampNeg) hI
              exact law_4 hX hSc h1 h2 e1 e2 (hn _ e3)
            · skip
              by_cases c5 : v = iI (5)
              · refine wb_tabIn (tgt := 412) (off := 373) hX dL_law_39 (by rw [c5]; decide) (by rw [c5]; decide) (by rw [c5]; decide) (by decide) ?_
                obtain ⟨r, s1, s2, e1, e2, e3⟩ := g5 z (xs (nI (5 * j) + iI (1)).toNatClampNeg) (xs (nI (5 * j) + iI (2)).toNatClampNeg) (xs (nI (5 * j) + iI (3)).toNatClampNeg) hI
                exact law_5 hX hSc h1 h2 h3 e1 e2 (hn _ e3)
              · skip
                by_cases c6 : v = iI (6)
                · refine wb_tabIn (tgt := 461) (off := 422) hX dL_law_39 (by rw [c6]; decide) (by rw [c6]; decide) (by rw [c6]; decide) (by decide) ?_
                  obtain ⟨r, s1, s2, e1, e2, e3⟩ := g6 z (xs (nI (5 * j) + iI (1)).toNatClampNeg) (xs (nI (5 * j) + iI (2)).toNatClampNeg) hI
                  exact law_6 hX hSc h1 h2 e1 e2 (hn _ e3)
                · skip
                  by_cases c7 : v = iI (7)
                  · refine wb_tabIn (tgt := 498) (off := 459) hX dL_law_39 (by rw [c7]; decide) (by rw [c7]; decide) (by rw [c7]; decide) (by decide) ?_
                    obtain ⟨r, s1, s2, e1, e2, e3⟩ := g7 z (xs (nI (5 * j) + iI (1)).toNatClampNeg) (xs (nI (5 * j) + iI (2)).toNatClampNeg) (xs (nI (5 * j) + iI (3)).toNatClampNeg) hI
                    exact law_7 hX hSc h1 h2 h3 e1 e2 (hn _ e3)
                  · skip
                    by_cases c8 : v = iI (8)
                    · refine wb_tabIn (tgt := 547) (off := 508) hX dL_law_39 (by rw [c8]; decide) (by rw [c8]; decide) (by rw [c8]; decide) (by decide) ?_
                      obtain ⟨r, s1, s2, e1, e2, e3⟩ := g8 z (xs (nI (5 * j) + iI (1)).toNatClampNeg) (xs (nI (5 * j) + iI (2)).toNatClampNeg) (xs (nI (5 * j) + iI (3)).toNatClampNeg) (xs (nI (5 * j) + iI (4)).toNatClampNeg) hI
                      exact law_8 hX hSc h1 h2 h3 h4 e1 e2 (hn _ e3)
                    · skip
                      by_cases c9 : v = iI (9)
                      · refine wb_tabIn (tgt := 608) (off := 569) hX dL_law_39 (by rw [c9]; decide) (by rw [c9]; decide) (by rw [c9]; decide) (by decide) ?_
                        obtain ⟨r, s1, s2, e1, e2, e3⟩ := g9 z (xs (nI (5 * j) + iI (1)).toNatClampNeg) (xs (nI (5 * j) + iI (2)).toNatClampNeg) hI
                        exact law_9 hX hSc h1 h2 e1 e2 (hn _ e3)
                      · skip
                        by_cases c10 : v = iI (10)
                        · refine wb_tabIn (tgt := 645) (off := 606) hX dL_law_39 (by rw [c10]; decide) (by rw [c10]; decide) (by rw [c10]; decide) (by decide) ?_
                          obtain ⟨r, s1, s2, e1, e2, e3⟩ := g10 z  hI
                          exact law_10 hX hSc  e1 e2 (hn _ e3)
                        · skip
                          by_cases c11 : v = iI (11)
                          · refine wb_tabIn (tgt := 658) (off := 619) hX dL_law_39 (by rw [c11]; decide) (by rw [c11]; decide) (by rw [c11]; decide) (by decide) ?_
                            obtain ⟨r, s1, s2, e1, e2, e3⟩ := g11 z (xs (nI (5 * j) + iI (1)).toNatClampNeg) (xs (nI (5 * j) + iI (2)).toNatClampNeg) hI
                            exact law_11 hX hSc h1 h2 e1 e2 (hn _ e3)
                          · skip
                            by_cases c12 : v = iI (12)
                            · refine wb_tabIn (tgt := 695) (off := 656) hX dL_law_39 (by rw [c12]; decide) (by rw [c12]; decide) (by rw [c12]; decide) (by decide) ?_
                              obtain ⟨r, s1, s2, e1, e2, e3⟩ := g12 z (xs (nI (5 * j) + iI (1)).toNatClampNeg) hI
                              exact law_12 hX hSc h1 e1 e2 (hn _ e3)
                            · skip
                              by_cases c13 : v = iI (13)
                              · refine wb_tabIn (tgt := 720) (off := 681) hX dL_law_39 (by rw [c13]; decide) (by rw [c13]; decide) (by rw [c13]; decide) (by decide) ?_
                                obtain ⟨r, s1, s2, e1, e2, e3⟩ := g13 z  hI
                                exact law_13 hX hSc  e1 e2 (hn _ e3)
                              · skip
                                by_cases c14 : v = iI (14)
                                · refine wb_tabIn (tgt := 733) (off := 694) hX dL_law_39 (by rw [c14]; decide) (by rw [c14]; decide) (by rw [c14]; decide) (by decide) ?_
                                  obtain ⟨r, s1, s2, e1, e2, e3⟩ := g14 z  hI
                                  exact law_14 hX hSc  e1 e2 (hn _ e3)
                                · skip
                                  by_cases c15 : v = iI (15)
                                  · refine wb_tabIn (tgt := 746) (off := 707) hX dL_law_39 (by rw [c15]; decide) (by rw [c15]; decide) (by rw [c15]; decide) (by decide) ?_
                                    obtain ⟨r, s1, s2, e1, e2, e3⟩ := g15 z  hI
                                    exact law_15 hX hSc  e1 e2 (hn _ e3)
                                  · skip
                                    by_cases c16 : v = iI (16)
                                    · refine wb_tabIn (tgt := 759) (off := 720) hX dL_law_39 (by rw [c16]; decide) (by rw [c16]; decide) (by rw [c16]; decide) (by decide) ?_
                                      obtain ⟨r, s1, s2, e1, e2, e3⟩ := g16 z (xs (nI (5 * j) + iI (1)).toNatClampNeg) hI
                                      exact law_16 hX hSc h1 e1 e2 (hn _ e3)
                                    · skip
                                      by_cases c17 : v = iI (17)
                                      · refine wb_tabIn (tgt := 784) (off := 745) hX dL_law_39 (by rw [c17]; decide) (by rw [c17]; decide) (by rw [c17]; decide) (by decide) ?_
                                        obtain ⟨r, s1, s2, e1, e2, e3⟩ := g17 z (xs (nI (5 * j) + iI (1)).toNatClampNeg) hI
                                        exact law_17 hX hSc h1 e1 e2 (hn _ e3)
                                      · skip
                                        by_cases c18 : v = iI (18)
                                        · refine wb_tabIn (tgt := 809) (off := 770) hX dL_law_39 (by rw [c18]; decide) (by rw [c18]; decide) (by rw [c18]; decide) (by decide) ?_
                                          obtain ⟨r, s1, s2, e1, e2, e3⟩ := g18 z (xs (nI (5 * j) + iI (1)).toNatClampNeg) hI
                                          exact law_18 hX hSc h1 e1 e2 (hn _ e3)
                                        · skip
                                          by_cases c19 : v = iI (19)
                                          · refine wb_tabIn (tgt := 834) (off := 795) hX dL_law_39 (by rw [c19]; decide) (by rw [c19]; decide) (by rw [c19]; decide) (by decide) ?_
                                            obtain ⟨r, s1, s2, e1, e2, e3⟩ := g19 z (xs (nI (5 * j) + iI (1)).toNatClampNeg) hI
                                            exact law_19 hX hSc h1 e1 e2 (hn _ e3)
                                          · skip
                                            by_cases c20 : v = iI (20)
                                            · refine wb_tabIn (tgt := 859) (off := 820) hX dL_law_39 (by rw [c20]; decide) (by rw [c20]; decide) (by rw [c20]; decide) (by decide) ?_
                                              obtain ⟨r, s1, s2, e1, e2, e3⟩ := g20 z (xs (nI (5 * j) + iI (1)).toNatClampNeg) (xs (nI (5 * j) + iI (2)).toNatClampNeg) hI
                                              exact law_20 hX hSc h1 h2 e1 e2 (hn _ e3)
                                            · skip
                                              by_cases c21 : v = iI (21)
                                              · refine wb_tabIn (tgt := 896) (off := 857) hX dL_law_39 (by rw [c21]; decide) (by rw [c21]; decide) (by rw [c21]; decide) (by decide) ?_
                                                obtain ⟨r, s1, s2, e1, e2, e3⟩ := g21 z  hI
                                                exact law_21 hX hSc  e1 e2 (hn _ e3)
                                              · skip
                                                by_cases c22 : v = iI (22)
                                                · refine wb_tabIn (tgt := 909) (off := 870) hX dL_law_39 (by rw [c22]; decide) (by rw [c22]; decide) (by rw [c22]; decide) (by decide) ?_
                                                  obtain ⟨r, s1, s2, e1, e2, e3⟩ := g22 z  hI
                                                  exact law_22 hX hSc  e1 e2 (hn _ e3)
                                                · skip
                                                  by_cases c23 : v = iI (23)
                                                  · refine wb_tabIn (tgt := 922) (off := 883) hX dL_law_39 (by rw [c23]; decide) (by rw [c23]; decide) (by rw [c23]; decide) (by decide) ?_
                                                    obtain ⟨r, s1, s2, e1, e2, e3⟩ := g23 z  hI
                                                    exact law_23 hX hSc  e1 e2 (hn _ e3)
                                                  · skip
                                                    by_cases c24 : v = iI (24)
                                                    · refine wb_tabIn (tgt := 935) (off := 896) hX dL_law_39 (by rw [c24]; decide) (by rw [c24]; decide) (by rw [c24]; decide) (by decide) ?_
                                                      obtain ⟨r, s1, s2, e1, e2, e3⟩ := g24 z (xs (nI (5 * j) + iI (1)).toNatClampNeg) hI
                                                      exact law_24 hX hSc h1 e1 e2 (hn _ e3)
                                                    · skip
                                                      by_cases c25 : v = iI (25)
                                                      · refine wb_tabIn (tgt := 960) (off := 921) hX dL_law_39 (by rw [c25]; decide) (by rw [c25]; decide) (by rw [c25]; decide) (by decide) ?_
                                                        obtain ⟨r, s1, s2, e1, e2, e3⟩ := g25 z  hI
                                                        exact law_25 hX hSc  e1 e2 (hn _ e3)
                                                      · skip
                                                        by_cases c26 : v = iI (26)
                                                        · refine wb_tabIn (tgt := 973) (off := 934) hX dL_law_39 (by rw [c26]; decide) (by rw [c26]; decide) (by rw [c26]; decide) (by decide) ?_
                                                          obtain ⟨r, s1, s2, e1, e2, e3⟩ := g26 z (xs (nI (5 * j) + iI (1)).toNatClampNeg) (xs (nI (5 * j) + iI (2)).toNatClampNeg) hI
                                                          exact law_26 hX hSc h1 h2 e1 e2 (hn _ e3)
                                                        · skip
                                                          by_cases c27 : v = iI (27)
                                                          · refine wb_tabIn (tgt := 1010) (off := 971) hX dL_law_39 (by rw [c27]; decide) (by rw [c27]; decide) (by rw [c27]; decide) (by decide) ?_
                                                            obtain ⟨r, s1, s2, e1, e2, e3⟩ := g27 z  hI
                                                            exact law_27 hX hSc  e1 e2 (hn _ e3)
                                                          · skip
                                                            by_cases c28 : v = iI (28)
                                                            · refine wb_tabIn (tgt := 1023) (off := 984) hX dL_law_39 (by rw [c28]; decide) (by rw [c28]; decide) (by rw [c28]; decide) (by decide) ?_
                                                              obtain ⟨r, s1, s2, e1, e2, e3⟩ := g28 z (xs (nI (5 * j) + iI (1)).toNatClampNeg) (xs (nI (5 * j) + iI (2)).toNatClampNeg) hI
                                                              exact law_28 hX hSc h1 h2 e1 e2 (hn _ e3)
                                                            · skip
                                                              by_cases c29 : v = iI (29)
                                                              · refine wb_tabIn (tgt := 1060) (off := 1021) hX dL_law_39 (by rw [c29]; decide) (by rw [c29]; decide) (by rw [c29]; decide) (by decide) ?_
                                                                obtain ⟨r, s1, s2, e1, e2, e3⟩ := g29 z (xs (nI (5 * j) + iI (1)).toNatClampNeg) hI
                                                                exact law_29 hX hSc h1 e1 e2 (hn _ e3)
                                                              · skip
                                                                by_cases c30 : v = iI (30)
                                                                · refine wb_tabIn (tgt := 1085) (off := 1046) hX dL_law_39 (by rw [c30]; decide) (by rw [c30]; decide) (by rw [c30]; decide) (by decide) ?_
                                                                  obtain ⟨r, s1, s2, e1, e2, e3⟩ := g30 z (xs (nI (5 * j) + iI (1)).toNatClampNeg) hI
                                                                  exact law_30 hX hSc h1 e1 e2 (hn _ e3)
                                                                · skip
                                                                  by_cases c31 : v = iI (31)
                                                                  · refine wb_tabIn (tgt := 1110) (off := 1071) hX dL_law_39 (by rw [c31]; decide) (by rw [c31]; decide) (by rw [c31]; decide) (by decide) ?_
                                                                    obtain ⟨r, s1, s2, e1, e2, e3⟩ := g31 z (xs (nI (5 * j) + iI (1)).toNatClampNeg) (xs (nI (5 * j) + iI (2)).toNatClampNeg) hI
                                                                    exact law_31 hX hSc h1 h2 e1 e2 (hn _ e3)
                                                                  · skip
                                                                    by_cases c32 : v = iI (32)
                                                                    · refine wb_tabIn (tgt := 1147) (off := 1108) hX dL_law_39 (by rw [c32]; decide) (by rw [c32]; decide) (by rw [c32]; decide) (by decide) ?_
                                                                      obtain ⟨r, s1, s2, e1, e2, e3⟩ := g32 z (xs (nI (5 * j) + iI (1)).toNatClampNeg) hI
                                                                      exact law_32 hX hSc h1 e1 e2 (hn _ e3)
                                                                    · skip
                                                                      by_cases c33 : v = iI (33)
                                                                      · refine wb_tabIn (tgt := 1172) (off := 1133) hX dL_law_39 (by rw [c33]; decide) (by rw [c33]; decide) (by rw [c33]; decide) (by decide) ?_
                                                                        obtain ⟨r, s1, s2, e1, e2, e3⟩ := g33 z (xs (nI (5 * j) + iI (1)).toNatClampNeg) hI
                                                                        exact law_33 hX hSc h1 e1 e2 (hn _ e3)
                                                                      · skip
                                                                        by_cases c34 : v = iI (34)
                                                                        · refine wb_tabIn (tgt := 1197) (off := 1158) hX dL_law_39 (by rw [c34]; decide) (by rw [c34]; decide) (by rw [c34]; decide) (by decide) ?_
                                                                          obtain ⟨r, s1, s2, e1, e2, e3⟩ := g34 z  hI
                                                                          exact law_34 hX hSc  e1 e2 (hn _ e3)
                                                                        · skip
                                                                          by_cases c35 : v = iI (35)
                                                                          · refine wb_tabIn (tgt := 1210) (off := 1171) hX dL_law_39 (by rw [c35]; decide) (by rw [c35]; decide) (by rw [c35]; decide) (by decide) ?_
                                                                            obtain ⟨r, s1, s2, e1, e2, e3⟩ := g35 z (xs (nI (5 * j) + iI (1)).toNatClampNeg) (xs (nI (5 * j) + iI (2)).toNatClampNeg) hI
                                                                            exact law_35 hX hSc h1 h2 e1 e2 (hn _ e3)
                                                                          · skip
                                                                            by_cases c36 : v = iI (36)
                                                                            · refine wb_tabIn (tgt := 1247) (off := 1208) hX dL_law_39 (by rw [c36]; decide) (by rw [c36]; decide) (by rw [c36]; decide) (by decide) ?_
                                                                              obtain ⟨r, s1, s2, e1, e2, e3⟩ := g36 z  hI
                                                                              exact law_36 hX hSc  e1 e2 (hn _ e3)
                                                                            · skip
                                                                              by_cases c37 : v = iI (37)
                                                                              · refine wb_tabIn (tgt := 1260) (off := 1221) hX dL_law_39 (by rw [c37]; decide) (by rw [c37]; decide) (by rw [c37]; decide) (by decide) ?_
                                                                                obtain ⟨r, s1, s2, e1, e2, e3⟩ := g37 z (xs (nI (5 * j) + iI (1)).toNatClampNeg) (xs (nI (5 * j) + iI (2)).toNatClampNeg) hI
                                                                                exact law_37 hX hSc h1 h2 e1 e2 (hn _ e3)
                                                                              · skip
                                                                                by_cases c38 : v = iI (38)
                                                                                · refine wb_tabIn (tgt := 1297) (off := 1258) hX dL_law_39 (by rw [c38]; decide) (by rw [c38]; decide) (by rw [c38]; decide) (by decide) ?_
                                                                                  obtain ⟨r, s1, s2, e1, e2, e3⟩ := g38 z  hI
                                                                                  exact law_38 hX hSc  e1 e2 (hn _ e3)
                                                                                · skip
                                                                                  by_cases c39 : v = iI (39)
                                                                                  · refine wb_tabIn (tgt := 1310) (off := 1271) hX dL_law_39 (by rw [c39]; decide) (by rw [c39]; decide) (by rw [c39]; decide) (by decide) ?_
                                                                                    obtain ⟨r, s1, s2, e1, e2, e3⟩ := g39 z (xs (nI (5 * j) + iI (1)).toNatClampNeg) hI
                                                                                    exact law_39 hX hSc h1 e1 e2 (hn _ e3)
                                                                                  · skip
                                                                                    by_cases c40 : v = iI (40)
                                                                                    · refine wb_tabIn (tgt := 1335) (off := 1296) hX dL_law_39 (by rw [c40]; decide) (by rw [c40]; decide) (by rw [c40]; decide) (by decide) ?_
                                                                                      obtain ⟨r, s1, s2, e1, e2, e3⟩ := g40 z (xs (nI (5 * j) + iI (1)).toNatClampNeg) (xs (nI (5 * j) + iI (2)).toNatClampNeg) hI
                                                                                      exact law_40 hX hSc h1 h2 e1 e2 (hn _ e3)
                                                                                    · skip
                                                                                      by_cases c41 : v = iI (41)
                                                                                      · refine wb_tabIn (tgt := 1372) (off := 1333) hX dL_law_39 (by rw [c41]; decide) (by rw [c41]; decide) (by rw [c41]; decide) (by decide) ?_
                                                                                        obtain ⟨r, s1, s2, e1, e2, e3⟩ := g41 z  hI
                                                                                        exact law_41 hX hSc  e1 e2 (hn _ e3)
                                                                                      · skip
                                                                                        by_cases c42 : v = iI (42)
                                                                                        · refine wb_tabIn (tgt := 1385) (off := 1346) hX dL_law_39 (by rw [c42]; decide) (by rw [c42]; decide) (by rw [c42]; decide) (by decide) ?_
                                                                                          obtain ⟨r, s1, s2, e1, e2, e3⟩ := g42 z  hI
                                                                                          exact law_42 hX hSc  e1 e2 (hn _ e3)
                                                                                        · skip
                                                                                          by_cases c43 : v = iI (43)
                                                                                          · refine wb_tabIn (tgt := 1398) (off := 1359) hX dL_law_39 (by rw [c43]; decide) (by rw [c43]; decide) (by rw [c43]; decide) (by decide) ?_
                                                                                            obtain ⟨r, s1, s2, e1, e2, e3⟩ := g43 z (xs (nI (5 * j) + iI (1)).toNatClampNeg) (xs (nI (5 * j) + iI (2)).toNatClampNeg) hI
                                                                                            exact law_43 hX hSc h1 h2 e1 e2 (hn _ e3)
                                                                                          · skip
                                                                                            by_cases c44 : v = iI (44)
                                                                                            · refine wb_tabIn (tgt := 1435) (off := 1396) hX dL_law_39 (by rw [c44]; decide) (by rw [c44]; decide) (by rw [c44]; decide) (by decide) ?_
                                                                                              obtain ⟨r, s1, s2, e1, e2, e3⟩ := g44 z (xs (nI (5 * j) + iI (1)).toNatClampNeg) hI
                                                                                              exact law_44 hX hSc h1 e1 e2 (hn _ e3)
                                                                                            · skip
                                                                                              by_cases c45 : v = iI (45)
                                                                                              · refine wb_tabIn (tgt := 1460) (off := 1421) hX dL_law_39 (by rw [c45]; decide) (by rw [c45]; decide) (by rw [c45]; decide) (by decide) ?_
                                                                                                obtain ⟨r, s1, s2, e1, e2, e3⟩ := g45 z (xs (nI (5 * j) + iI (1)).toNatClampNeg) hI
                                                                                                exact law_45 hX hSc h1 e1 e2 (hn _ e3)
                                                                                              · skip
                                                                                                by_cases c46 : v = iI (46)
                                                                                                · refine wb_tabIn (tgt := 1485) (off := 1446) hX dL_law_39 (by rw [c46]; decide) (by rw [c46]; decide) (by rw [c46]; decide) (by decide) ?_
                                                                                                  obtain ⟨r, s2, e1, e2, e3⟩ := g46 z (xs (nI (5 * j) + iI (1)).toNatClampNeg) hI
                                                                                                  exact law_46 hX hSc h1 e1 e2 (hn _ e3)
                                                                                                · skip
                                                                                                  by_cases c47 : v = iI (47)
                                                                                                  · refine wb_tabIn (tgt := 1510) (off := 1471) hX dL_law_39 (by rw [c47]; decide) (by rw [c47]; decide) (by rw [c47]; decide) (by decide) ?_
                                                                                                    obtain ⟨kk, rb, s1, s2, e1, e2, e3, e4, e5⟩ := g47 z (xs (nI (5 * j) + iI (1)).toNatClampNeg) hI
                                                                                                    exact law_47 hX hSc hLx0 rfl ⟨by show 197 + j + 1 ≤ 601024; omega, by show 40073 + 6 * j + 6 ≤ 7293034; omega⟩ h1 e1 e2 e3 e4 (hn2 _ e5)
                                                                                                  · skip
                                                                                                    have t0 := lv_neT (a := 0) c0 (by decide)
                                                                                                    have t1 := lv_neT (a := 1) c1 (by decide)
                                                                                                    have t2 := lv_neT (a := 2) c2 (by decide)
                                                                                                    have t3 := lv_neT (a := 3) c3 (by decide)
                                                                                                    have t4 := lv_neT (a := 4) c4 (by decide)
                                                                                                    have t5 := lv_neT (a := 5) c5 (by decide)
                                                                                                    have t6 := lv_neT (a := 6) c6 (by decide)
                                                                                                    have t7 := lv_neT (a := 7) c7 (by decide)
                                                                                                    have t8 := lv_neT (a := 8) c8 (by decide)
                                                                                                    have t9 := lv_neT (a := 9) c9 (by decide)
                                                                                                    have t10 := lv_neT (a := 10) c10 (by decide)
                                                                                                    have t11 := lv_neT (a := 11) c11 (by decide)
                                                                                                    have t12 := lv_neT (a := 12) c12 (by decide)
                                                                                                    have t13 := lv_neT (a := 13) c13 (by decide)
                                                                                                    have t14 := lv_neT (a := 14) c14 (by decide)
                                                                                                    have t15 := lv_neT (a := 15) c15 (by decide)
                                                                                                    have t16 := lv_neT (a := 16) c16 (by decide)
                                                                                                    have t17 := lv_neT (a := 17) c17 (by decide)
                                                                                                    have t18 := lv_neT (a := 18) c18 (by decide)
                                                                                                    have t19 := lv_neT (a := 19) c19 (by decide)
                                                                                                    have t20 := lv_neT (a := 20) c20 (by decide)
                                                                                                    have t21 := lv_neT (a := 21) c21 (by decide)
                                                                                                    have t22 := lv_neT (a := 22) c22 (by decide)
                                                                                                    have t23 := lv_neT (a := 23) c23 (by decide)
                                                                                                    have t24 := lv_neT (a := 24) c24 (by decide)
                                                                                                    have t25 := lv_neT (a := 25) c25 (by decide)
                                                                                                    have t26 := lv_neT (a := 26) c26 (by decide)
                                                                                                    have t27 := lv_neT (a := 27) c27 (by decide)
                                                                                                    have t28 := lv_neT (a := 28) c28 (by decide)
                                                                                                    have t29 := lv_neT (a := 29) c29 (by decide)
                                                                                                    have t30 := lv_neT (a := 30) c30 (by decide)
                                                                                                    have t31 := lv_neT (a := 31) c31 (by decide)
                                                                                                    have t32 := lv_neT (a := 32) c32 (by decide)
                                                                                                    have t33 := lv_neT (a := 33) c33 (by decide)
                                                                                                    have t34 := lv_neT (a := 34) c34 (by decide)
                                                                                                    have t35 := lv_neT (a := 35) c35 (by decide)
                                                                                                    have t36 := lv_neT (a := 36) c36 (by decide)
                                                                                                    have t37 := lv_neT (a := 37) c37 (by decide)
                                                                                                    have t38 := lv_neT (a := 38) c38 (by decide)
                                                                                                    have t39 := lv_neT (a := 39) c39 (by decide)
                                                                                                    have t40 := lv_neT (a := 40) c40 (by decide)
                                                                                                    have t41 := lv_neT (a := 41) c41 (by decide)
                                                                                                    have t42 := lv_neT (a := 42) c42 (by decide)
                                                                                                    have t43 := lv_neT (a := 43) c43 (by decide)
                                                                                                    have t44 := lv_neT (a := 44) c44 (by decide)
                                                                                                    have t45 := lv_neT (a := 45) c45 (by decide)
                                                                                                    have t46 := lv_neT (a := 46) c46 (by decide)
                                                                                                    have t47 := lv_neT (a := 47) c47 (by decide)
                                                                                                    refine wb_tabOut (tgt := 1566) hX dL_law_39 (by omega) (by decide) ?_
                                                                                                    exact hn z hI
theorem mi_23 : wMi RL 19 yX10_init cX10_init 2 := ⟨Or.inl k_23, k_24, k_1, k_25, rfl, by decide +kernel⟩
theorem mi_1514 : wMi RL 22 yX11_init cX11_init 1 := ⟨Or.inl k_1514, k_1515, k_13, k_1516, rfl, by decide +kernel⟩
theorem w_str {args : Array Value} {s : State} {own tx : String} {k : Nat} (h1 : (Cond.stringRef own k tx).before args s = true) (h2 : (Cond.exactly (.string own k) "java/lang/String").before args s = true) : ∃ a, vk_R own k tx a s := by
  obtain ⟨a, h⟩ : ∃ a, (Term.string own k).eval args s none [] s = some (.ref a) := by
    obtain ⟨a, _, _, _, ha, _⟩ := Cond.exactly_spec h2
    exact ⟨a, ha⟩
  exact ⟨a, vk_R.of h1 h⟩
set_option maxHeartbeats 16000000 in
set_option maxRecDepth 100000 in
/-- THE LAW, from its entry, over any Inv that holds at the start and that the functions keep -/
theorem whole_open (Inv : wM → Prop) (hI0 : Inv wS0) (hops : wOps Inv) {p : Program} {e : Env} {s : State} {m : MethodId} {below : List Frame} {meth : Method} {c : Code} (l : Launch) (hl : l.stackTraces = false) {b L : Nat} {xs : Nat → Int32} (hL : L ≤ 2560) (C0 : lw_At p s m meth c b L xs) : W p l e room_1 s m #[Value.ref b] below meth c s.heap [] 0 0 (lw_Z below #[Value.ref b] s) (entryFrame m ([Value.ref b] : List Value).toArray 7) := by
  obtain ⟨hx, hb, hr, hml, hown, hts, hXs, hbl, hlocks, hgv⟩ := id C0
  have htw : ∀ w ∈ wTs, w.before #[Value.ref b] s = true := fun w hw => hts w (List.mem_filter.mp hw).1
  have hT : wTok s := ⟨fun w hw a => word_at (State.WarmedH.refl s) (good_of_word (List.mem_filter.mp hw).2) (htw w hw), fun a i x h hz => va_Nw.of rfl (hts _ hz)⟩
  have hO : va_AO "WellsNotEven$Snapshot" s := va_AO.of (hts _ k_275)
  obtain ⟨c0, i0, hKn0⟩ := u_known (C := RX0) (T := TX0) (N := 14) (n := 14) htw clX0.1 (htw _ k_130)
  obtain ⟨c1, i1, hKn1⟩ := u_known (C := RX1) (T := TX1) (N := 4) (n := 4) htw clX1.1 (htw _ k_232)
  obtain ⟨c2, i2, hKn2⟩ := u_known (C := RX2) (T := TX2) (N := 7) (n := 7) htw clX2.1 (htw _ k_80)
  obtain ⟨c3, i3, hKn3⟩ := u_known (C := RX3) (T := TX3) (N := 2) (n := 2) htw clX3.1 (htw _ k_254)
  obtain ⟨c4, i4, hKn4⟩ := u_known (C := RX4) (T := TX4) (N := 3) (n := 3) htw clX4.1 (htw _ k_269)
  obtain ⟨c5, i5, hKn5⟩ := u_known (C := RX5) (T := TX5) (N := 7) (n := 7) htw clX5.1 (htw _ k_47)
  obtain ⟨c6, i6, hKn6⟩ := u_known (C := RX6) (T := TX6) (N := 11) (n := 11) htw clX6.1 (htw _ k_189)
  obtain ⟨c7, i7, hKn7⟩ := u_known (C := RX7) (T := TX7) (N := 3) (n := 3) htw clX7.1 (htw _ k_314)
  obtain ⟨c8, i8, hKn8⟩ := u_known (C := RX8) (T := TX8) (N := 6) (n := 6) htw clX8.1 (htw _ k_276)
  obtain ⟨c9, i9, hKn9⟩ := u_known (C := RX9) (T := TX9) (N := 2) (n := 2) htw clX9.1 (htw _ k_30)
  obtain ⟨c10, i10, hKn10⟩ := u_known (C := RX10) (T := TX10) (N := 11) (n := 11) htw clX10.1 (htw _ k_22)
  obtain ⟨c11, i11, hKn11⟩ := u_known (C := RX11) (T := TX11) (N := 49) (n := 49) htw clX11.1 (htw _ k_1134)
  obtain ⟨cI, kI, qI, fI1, fI2, fI3⟩ := Cond.arrayClass_spec (htw _ k_78)
  obtain ⟨cJ, kJ, qJ, fJ1, fJ2, fJ3⟩ := Cond.arrayClass_spec (htw _ k_230)
  obtain ⟨cZ, kZ, qZ, fZ1, fZ2, fZ3⟩ := Cond.arrayClass_spec (htw _ k_1666)
  obtain ⟨cC, kC, qC, fC1, fC2, fC3⟩ := Cond.arrayClass_spec (htw _ k_45)
  obtain ⟨qS, cS, kS, fS1, fS2, fS3, fS4, fS5⟩ := Cond.arrayOver_spec (hts _ k_275)
  obtain ⟨D, hD⟩ : ∃ D : va_G, ∀ (k : Nat) (q : vw_C), vwCl[k]? = some q → u_Kn s q.1 q.2.1 q.2.2 (D.1 k) (D.2 k) := by
    refine ⟨(fun k => if k = 0 then c0 else if k = 1 then c1 else if k = 2 then c2 else if k = 3 then c3 else if k = 4 then c4 else if k = 5 then c5 else if k = 6 then c6 else if k = 7 then c7 else if k = 8 then c8 else if k = 9 then c9 else if k = 10 then c10 else c11, fun k => if k = 0 then i0 else if k = 1 then i1 else if k = 2 then i2 else if k = 3 then i3 else if k = 4 then i4 else if k = 5 then i5 else if k = 6 then i6 else if k = 7 then i7 else if k = 8 then i8 else if k = 9 then i9 else if k = 10 then i10 else i11), ?_⟩
    intro k q hq
    match k, hq with
    | 0, hq => cases hq; exact hKn0
    | 1, hq => cases hq; exact hKn1
    | 2, hq => cases hq; exact hKn2
    | 3, hq => cases hq; exact hKn3
    | 4, hq => cases hq; exact hKn4
    | 5, hq => cases hq; exact hKn5
    | 6, hq => cases hq; exact hKn6
    | 7, hq => cases hq; exact hKn7
    | 8, hq => cases hq; exact hKn8
    | 9, hq => cases hq; exact hKn9
    | 10, hq => cases hq; exact hKn10
    | 11, hq => cases hq; exact hKn11
    | k + 12, hq => simp [vwCl] at hq
  obtain ⟨AI, hAI⟩ : ∃ AI : FieldType → ClassId, AI .int = cI ∧ AI .long = cJ ∧ AI .boolean = cZ ∧ AI .char = cC ∧ AI wSn = cS := ⟨fun t => match t with | .int => cI | .long => cJ | .boolean => cZ | .char => cC | _ => cS, rfl, rfl, rfl, rfl, rfl⟩
  obtain ⟨a1, a2, a3, a4, a5⟩ := hAI
  obtain ⟨G, hG⟩ : ∃ G : wG, G = wGm s.heap.size D AI := ⟨_, rfl⟩
  have hK : va_K G.2.1 vwCl (wTy G) s := by
    rw [hG]
    refine ⟨hD, fun k q hk => ?_⟩
    match k, hk with
    | 0, hk => cases hk; exact ⟨fun n z => by show s.isArrayOf (arrV (AI .int) n z) .int; rw [a1]; exact ⟨(fun k h => by cases h), kI, fI2, qI, fI3⟩, by show s.vm.findClass _ = some (AI .int); rw [a1]; exact fI1⟩
    | 1, hk => cases hk; exact ⟨fun n z => by show s.isArrayOf (arrV (AI .long) n z) .long; rw [a2]; exact ⟨(fun k h => by cases h), kJ, fJ2, qJ, fJ3⟩, by show s.vm.findClass _ = some (AI .long); rw [a2]; exact fJ1⟩
    | 2, hk => cases hk; exact ⟨fun n z => by show s.isArrayOf (arrV (AI .boolean) n z) .boolean; rw [a3]; exact ⟨(fun k h => by cases h), kZ, fZ2, qZ, fZ3⟩, by show s.vm.findClass _ = some (AI .boolean); rw [a3]; exact fZ1⟩
    | 3, hk => cases hk; exact ⟨fun n z => by show s.isArrayOf (arrV (AI .char) n z) .char; rw [a4]; exact ⟨(fun k h => by cases h), kC, fC2, qC, fC3⟩, by show s.vm.findClass _ = some (AI .char); rw [a4]; exact fC1⟩
    | 4, hk => cases hk; exact ⟨fun n z => by show s.isArrayOf (arrV (AI wSn) n z) wSn; rw [a5]; exact ⟨(fun k h => by cases h), kS, fS3, qS, fS4⟩, kS, qS, by show s.vm.classes[AI wSn]? = some kS; rw [a5]; exact fS3, fS4, fS1, by show s.vm.findClass _ = some (AI wSn); rw [a5]; exact fS5⟩
    | k + 5, hk => simp [wTy] at hk
  have hGeo : wGeo G := by rw [hG]; exact ⟨fun i j _ _ h => by simp only [wGm] at h; omega, fun i _ => Nat.le_add_right _ _⟩
  have hG0 : G.2.2.2 = s.heap.size := by rw [hG]
  have hnA : ∀ a : Nat, a < s.heap.size → ¬ wA G a := fun a h h2 => by unfold wA at h2; rw [hG0] at h2; omega
  have hfl := flat_of_before _ hgv
  have hXst : wXs G s := ⟨w_str (hts _ k_1076) (hfl _ (by decide +kernel)), w_str (hts _ k_1103) (hfl _ (by decide +kernel)), w_str (hts _ k_1111) (hfl _ (by decide +kernel)), vx_Zqof (hts _ k_1064) (htw _ k_15) (hfl _ (by decide +kernel)) hnA, vx_Zqof (hts _ k_1066) (htw _ k_15) (hfl _ (by decide +kernel)) hnA, fun w hw => by
    simp only [wxB, List.mem_cons, List.not_mem_nil, or_false] at hw
    rcases hw with rfl | rfl | rfl | rfl
    · exact va_Nw.of rfl (hts _ k_1039)
    · exact va_Nw.of rfl (hts _ k_1041)
    · exact va_Nw.of rfl (hts _ k_1043)
    · exact va_Nw.of rfl (hts _ k_1045)⟩
  have hX0 : wOK G (lwX p l e s m b below meth c 0 0) code RL (some .boolean) 60 := ⟨hx, hb, hr, hml, hown, hT, hK, hlocks, hGeo, by decide, by decide, Nat.zero_le _, Nat.zero_le _⟩
  have hXC : wOC G (lwX p l e s m b below meth c 0 0) code RL 60 197 40073 := ⟨hx, hb, hml, hown, hT, hK, hlocks, by decide, by decide, by decide, by decide, by rw [hG0]; exact Nat.le_refl _, hO⟩
  have hSc0 : wSc G (lwX p l e s m b below meth c 0 0) b L xs := ⟨hXs, hbl, hnA b hbl⟩
  have hLx0 : wLx G (lwX p l e s m b below meth c 0 0) := ⟨hl, hXst⟩
  have hlv := lv_entry ([.ref b]) (n := 7) (Nat.le_of_ble_eq_true rfl)
  rw [lg_entry_eq]
  have key : WC G (lwX p l e s m b below meth c 0 0) 0 0 0 [(0, .ref b)] [] 0 wE0 := by
    refine wc_new (ci := 10) (fs := [.null, .null, .null, .null, .null, .null, .null, .null, .null, .null, .null]) hXC clX10 k_21 k_22 k_1 dfX10 (by decide) (by decide) dL_law_0 (pq := 3) (n1 := 1) (ce1 := 1) (sl1 := 11) rfl rfl rfl rfl ?_
    refine wc_dup hXC dL_law_3 rfl (pq := 4) rfl ?_
    refine wc_callI (n1 := 161) hXC mi_23 (iW (n := 1) (k0 := 0) (by decide) va_ups) (by decide) (by decide) (by decide) (by decide) (Nat.le_of_ble_eq_true rfl) dL_law_4 (pq := 7) (ce1 := 161) (sl1 := 6901) rfl rfl rfl ?_
    refine wc_astore_n (loc' := [(1, .ref (G.2.2.2 + 0)), (0, .ref b)]) hXC (nL0 := 7) rfl dL_law_7 (by decide) rfl (pq := 8) rfl ?_
    refine wc_new (ci := 11) (fs := [.int 0, .int 0, .null, .int 0, .null, .null, .null, .null, .null, .null, .int 0, .null, .int 0, .int 0, .int 0, .int 0, .null, .null, .null, .null, .int 0, .null, .null, .null, .null, .int 0, .null, .int 0, .null, .null, .null, .null, .null, .null, .int 0, .int 0, .null, .int 0, .null, .null, .null, .null, .null, .int 0, .null, .null, .null, .null, .null]) hXC clX11 k_1513 k_1134 k_13 dfX11 (by decide) (by decide) dL_law_8 (pq := 11) (n1 := 162) (ce1 := 162) (sl1 := 6950) rfl rfl rfl rfl ?_
    refine wc_dup hXC dL_law_11 rfl (pq := 12) rfl ?_
    refine wc_callI (n1 := 196) hXC mi_1514 (iM (n := 162) (k0 := 161) (by decide) va_ups) (by decide) (by decide) (by decide) (by decide) (Nat.le_of_ble_eq_true rfl) dL_law_12 (pq := 15) (ce1 := 196) (sl1 := 40072) rfl rfl rfl ?_
    refine wc_astore_n (loc' := [(2, .ref (G.2.2.2 + 161)), (1, .ref (G.2.2.2 + 0)), (0, .ref b)]) hXC (nL0 := 7) rfl dL_law_15 (by decide) rfl (pq := 16) rfl ?_
    refine wc_iconst (v := iI (1)) hXC dL_law_16 rfl (pq := 17) rfl ?_
    refine wc_newa (N' := 1) (a0 := (1, .inr (.inl (fun _ => 0)))) .long 1 hXC k_230 rfl rfl rfl (fun _ => rfl) (by decide) (by decide) (by decide) (by decide) (by decide) dL_law_17 (pq := 19) (n1 := 197) (ce1 := 197) (sl1 := 40073) rfl rfl rfl rfl ?_
    refine wc_astore_n (loc' := [(3, .ref (G.2.2.2 + 196)), (2, .ref (G.2.2.2 + 161)), (1, .ref (G.2.2.2 + 0)), (0, .ref b)]) hXC (nL0 := 7) rfl dL_law_19 (by decide) rfl (pq := 20) rfl ?_
    refine wc_iconst (v := nI (5 * 0)) hXC dL_law_20 (by decide) (pq := 21) rfl ?_
    refine wc_istore (loc' := [(4, .int (nI (5 * 0))), (3, .ref (G.2.2.2 + 196)), (2, .ref (G.2.2.2 + 161)), (1, .ref (G.2.2.2 + 0)), (0, .ref b)]) hXC (nL0 := 7) rfl dL_law_21 (by decide) rfl (pq := 23) rfl ?_
    refine wc_sub [4, 3, 2, 1, 0] (loc' := [(0, .ref b), (1, .ref (G.2.2.2 + 0)), (2, .ref (G.2.2.2 + 161)), (3, .ref (G.2.2.2 + 196)), (4, .int (nI (5 * 0)))]) rfl ?_
    intro H locs ls hP hz hS hl9
    have h := law_loop (p := p) (l := l) (e := e) (s := s) (m := m) (b := b) (below := below) (meth := meth) (c := c) Inv hops hL hX0 hSc0 hLx0 hG0 513 0 wS0 hI0 (by omega)
    subst hG
    exact h H locs ls (world_ok hP) hS hl9
  exact key s.heap [] _ (fun k q h => by simp [wR] at h) (by rw [hG0]) va_S.rf hlv
