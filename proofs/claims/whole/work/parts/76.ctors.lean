theorem dfX0 : ∀ j, j < 14 → defaultValue (tyX0 j) = vp_V [.null, .null, .null, .null, .null, .null, .int 0, .int 0, .int 0, .null, .null, .null, .int 0, .int 0] j
  | 0, _ => rfl
  | 1, _ => rfl
  | 2, _ => rfl
  | 3, _ => rfl
  | 4, _ => rfl
  | 5, _ => rfl
  | 6, _ => rfl
  | 7, _ => rfl
  | 8, _ => rfl
  | 9, _ => rfl
  | 10, _ => rfl
  | 11, _ => rfl
  | 12, _ => rfl
  | 13, _ => rfl
  | q + 14, h => absurd h (by omega)
theorem dfX1 : ∀ j, j < 4 → defaultValue (tyX1 j) = vp_V [.null, .null, .int 0, .null] j
  | 0, _ => rfl
  | 1, _ => rfl
  | 2, _ => rfl
  | 3, _ => rfl
  | q + 4, h => absurd h (by omega)
theorem dfX2 : ∀ j, j < 7 → defaultValue (tyX2 j) = vp_V [.null, .null, .null, .null, .int 0, .int 0, .null] j
  | 0, _ => rfl
  | 1, _ => rfl
  | 2, _ => rfl
  | 3, _ => rfl
  | 4, _ => rfl
  | 5, _ => rfl
  | 6, _ => rfl
  | q + 7, h => absurd h (by omega)
theorem dfX3 : ∀ j, j < 2 → defaultValue (tyX3 j) = vp_V [.null, .int 0] j
  | 0, _ => rfl
  | 1, _ => rfl
  | q + 2, h => absurd h (by omega)
theorem dfX4 : ∀ j, j < 3 → defaultValue (tyX4 j) = vp_V [.int 0, .null, .int 0] j
  | 0, _ => rfl
  | 1, _ => rfl
  | 2, _ => rfl
  | q + 3, h => absurd h (by omega)
theorem dfX5 : ∀ j, j < 7 → defaultValue (tyX5 j) = vp_V [.null, .null, .null, .int 0, .int 0, .int 0, .int 0] j
  | 0, _ => rfl
  | 1, _ => rfl
  | 2, _ => rfl
  | 3, _ => rfl
  | 4, _ => rfl
  | 5, _ => rfl
  | 6, _ => rfl
  | q + 7, h => absurd h (by omega)
theorem dfX6 : ∀ j, j < 11 → defaultValue (tyX6 j) = vp_V [.null, .int 0, .null, .int 0, .null, .null, .int 0, .int 0, .int 0, .int 0, .int 0] j
  | 0, _ => rfl
  | 1, _ => rfl
  | 2, _ => rfl
  | 3, _ => rfl
  | 4, _ => rfl
  | 5, _ => rfl
  | 6, _ => rfl
  | 7, _ => rfl
  | 8, _ => rfl
  | 9, _ => rfl
  | 10, _ => rfl
  | q + 11, h => absurd h (by omega)
theorem dfX7 : ∀ j, j < 3 → defaultValue (tyX7 j) = vp_V [.int 0, .null, .null] j
  | 0, _ => rfl
  | 1, _ => rfl
  | 2, _ => rfl
  | q + 3, h => absurd h (by omega)
theorem dfX8 : ∀ j, j < 6 → defaultValue (tyX8 j) = vp_V [.null, .null, .null, .null, .int 0, .int 0] j
  | 0, _ => rfl
  | 1, _ => rfl
  | 2, _ => rfl
  | 3, _ => rfl
  | 4, _ => rfl
  | 5, _ => rfl
  | q + 6, h => absurd h (by omega)
theorem dfX9 : ∀ j, j < 2 → defaultValue (tyX9 j) = vp_V [.null, .int 0] j
  | 0, _ => rfl
  | 1, _ => rfl
  | q + 2, h => absurd h (by omega)
theorem dfX10 : ∀ j, j < 11 → defaultValue (tyX10 j) = vp_V [.null, .null, .null, .null, .null, .null, .null, .null, .null, .null, .null] j
  | 0, _ => rfl
  | 1, _ => rfl
  | 2, _ => rfl
  | 3, _ => rfl
  | 4, _ => rfl
  | 5, _ => rfl
  | 6, _ => rfl
  | 7, _ => rfl
  | 8, _ => rfl
  | 9, _ => rfl
  | 10, _ => rfl
  | q + 11, h => absurd h (by omega)
theorem dfX11 : ∀ j, j < 49 → defaultValue (tyX11 j) = vp_V [.int 0, .int 0, .null, .int 0, .null, .null, .null, .null, .null, .null, .int 0, .null, .int 0, .int 0, .int 0, .int 0, .null, .null, .null, .null, .int 0, .null, .null, .null, .null, .int 0, .null, .int 0, .null, .null, .null, .null, .null, .null, .int 0, .int 0, .null, .int 0, .null, .null, .null, .null, .null, .int 0, .null, .null, .null, .null, .null] j
  | 0, _ => rfl
  | 1, _ => rfl
  | 2, _ => rfl
  | 3, _ => rfl
  | 4, _ => rfl
  | 5, _ => rfl
  | 6, _ => rfl
  | 7, _ => rfl
  | 8, _ => rfl
  | 9, _ => rfl
  | 10, _ => rfl
  | 11, _ => rfl
  | 12, _ => rfl
  | 13, _ => rfl
  | 14, _ => rfl
  | 15, _ => rfl
  | 16, _ => rfl
  | 17, _ => rfl
  | 18, _ => rfl
  | 19, _ => rfl
  | 20, _ => rfl
  | 21, _ => rfl
  | 22, _ => rfl
  | 23, _ => rfl
  | 24, _ => rfl
  | 25, _ => rfl
  | 26, _ => rfl
  | 27, _ => rfl
  | 28, _ => rfl
  | 29, _ => rfl
  | 30, _ => rfl
  | 31, _ => rfl
  | 32, _ => rfl
  | 33, _ => rfl
  | 34, _ => rfl
  | 35, _ => rfl
  | 36, _ => rfl
  | 37, _ => rfl
  | 38, _ => rfl
  | 39, _ => rfl
  | 40, _ => rfl
  | 41, _ => rfl
  | 42, _ => rfl
  | 43, _ => rfl
  | 44, _ => rfl
  | 45, _ => rfl
  | 46, _ => rfl
  | 47, _ => rfl
  | 48, _ => rfl
  | q + 49, h => absurd h (by omega)
theorem upd_fill {f : Nat → Int32} {i : Nat} {v : Int32} : upd (fun j => if j < i then v else f j) i v = (fun j => if j < i + 1 then v else f j) := by
  funext j
  unfold upd
  by_cases h1 : j = i
  · subst h1; simp
  · by_cases h2 : j < i
    · simp only [if_neg h1, if_pos h2]; rw [if_pos (by omega)]
    · simp only [if_neg h1, if_neg h2]; rw [if_neg (by omega)]
theorem va_uu {f : Nat → va_E} {k : Nat} {v w : va_E} : va_up (va_up f k v) k w = va_up f k w := by
  funext j
  unfold va_up
  by_cases h : j = k <;> simp [h]
theorem va_up_same {f : Nat → va_E} {k : Nat} {v : va_E} (h : f k = v) : va_up f k v = f := by
  funext j
  unfold va_up
  by_cases hj : j = k
  · subst hj; simp [h]
  · simp [hj]
set_option maxHeartbeats 4000000 in
theorem wFillC_L {G : wG} {X : wX} {n k0 N : Nat} {f : Nat → Int32} {v : Int32} {E : Nat → va_E} (hk : k0 < n) (hE : E k0 = .inl (G.2.2.1 .int, N, .inl f)) (hNN : N < 2 ^ 31) (hX : wOC G X cJ7_fill_53178 RJ7 0 0 0) (hNm : ∀ t : State, True) (hQ : wRc G X 0 0 (wQc G n (va_up E k0 (.inl (G.2.2.1 .int, N, .inl (fun j => if j < N then v else f j)))))) (hr : X.2.2.2.2.2.2.2.2.1.sig.returnType = none) (hN : wNl X = 4) : ∀ (r i : Nat), i + r = N → WC G X 0 0 5 [(0, .ref (G.2.2.2 + k0)), (1, .int v), (2, .int (nI i)), (3, .int (Int32.ofNat N))] [] n (va_up E k0 (.inl (G.2.2.1 .int, N, .inl (fun j => if j < i then v else f j)))) := by
  intro r
  induction r with
  | zero =>
    intro i hi
    have e : i = N := by omega
    subst e
    refine wc_iload_n 2 hX dJ7_fill_53178_5 rfl (pq := 6) rfl ?_
    refine wc_iload_n 3 hX dJ7_fill_53178_6 rfl (pq := 7) rfl ?_
    refine wc_icmp_ge (tgt := 20) hX dJ7_fill_53178_7 (by decide) (fun _ => ?_) (pq := 10) rfl (fun c => absurd (nI_le (Nat.le_refl i) hNN) c)
    obtain ⟨p, l, e, R, s0, m, args, below, meth, c, Q, nL, cells, slots⟩ := X
    obtain ⟨hx, hb, hml, hown, hT, hK, hlk, hfr, hlo, hmc, hms, hbs, hO⟩ := hX
    intro H locs ls hP hz hS hl
    simp only [wRc] at hQ
    subst hQ
    exact W.vret hx hb hr (fun t ht _ => ⟨⟨(), rfl, trivial, by show va_P _ _ _ t.heap; rw [ht]; exact hP⟩, hS.F ht⟩) hS.2.2 dJ7_fill_53178_20 hlk
  | succ r ih =>
    intro i hi
    refine wc_iload_n 2 hX dJ7_fill_53178_5 rfl (pq := 6) rfl ?_
    refine wc_iload_n 3 hX dJ7_fill_53178_6 rfl (pq := 7) rfl ?_
    refine wc_icmp_ge (tgt := 20) hX dJ7_fill_53178_7 (by decide) (fun c => absurd c (nI_ge (by omega) hNN)) (pq := 10) rfl (fun _ => ?_)
    refine wc_aload_n 0 hX dJ7_fill_53178_10 rfl (pq := 11) rfl ?_
    refine wc_iload_n 2 hX dJ7_fill_53178_11 rfl (pq := 12) rfl ?_
    refine wc_iload_n 1 hX dJ7_fill_53178_12 rfl (pq := 13) rfl ?_
    refine wc_iast (N := N) hX hk va_ups (vp_in_nI (by omega) hNN) dJ7_fill_53178_13 (pq := 14) rfl ?_
    rw [nI_clamp (by omega), va_uu, upd_fill]
    refine wc_iinc (v := nI (i + 1)) (loc' := [(2, .int (nI (i + 1))), (0, .ref (G.2.2.2 + k0)), (1, .int v), (3, .int (Int32.ofNat N))]) 2 hX hN dJ7_fill_53178_14 rfl (nI_1 i) (by decide) rfl (pq := 17) rfl ?_
    refine wc_goto (tgt := 5) hX dJ7_fill_53178_17 (by decide) ?_
    refine wc_sub [1, 2, 0, 3] (loc' := [(0, .ref (G.2.2.2 + k0)), (1, .int v), (2, .int (nI (i + 1))), (3, .int (Int32.ofNat N))]) rfl ?_
    exact ih (i + 1) (by omega)
set_option maxHeartbeats 4000000 in
theorem wFillC {l : Launch} {G : wG} {n k0 N : Nat} {f : Nat → Int32} {v : Int32} {E : Nat → va_E} (hk : k0 < n) (hE : E k0 = .inl (G.2.2.1 .int, N, .inl f)) (hNN : N < 2 ^ 31) : wMetC l G yJ7_fill_53178 cJ7_fill_53178 4 0 0 0 [.ref (G.2.2.2 + k0), .int v] n E n (va_up E k0 (.inl (G.2.2.1 .int, N, .inl (fun j => if j < N then v else f j)))) := by
  refine Met.ofW (cc := cJ7_fill_53178) (maxL := 4) (ret := none) (by decide +kernel) rfl ?_
  intro p e s m args below meth c s₁ B hml hv
  obtain ⟨rfl, hsz, hP, hK, hT, hO⟩ := hv
  have hown : s.vm.findClass RJ7 = some m.cls := findClass_of_methodNamed B.named
  have hX : wOC G (p, l, e, (headSpec [.code yJ7_fill_53178 cJ7_fill_53178 4 none] (wRmC 0 0 0)).room, s, m, [Value.ref (G.2.2.2 + k0), .int v].toArray, below, meth, c, MQ below (wQc G n (va_up E k0 (.inl (G.2.2.1 .int, N, .inl (fun j => if j < N then v else f j))))) [Value.ref (G.2.2.2 + k0), .int v].toArray s 0 0 (wA G), 4, 0, 0) cJ7_fill_53178 RJ7 0 0 0 := ⟨B.exec, B.bytes, hml, hown, hT, hK, B.notSynchronized, Nat.le_refl _, Nat.le_refl _, Nat.le_refl _, Nat.le_refl _, by omega, hO⟩
  rw [lg_entry_eq]
  have key : WC G (p, l, e, (headSpec [.code yJ7_fill_53178 cJ7_fill_53178 4 none] (wRmC 0 0 0)).room, s, m, [Value.ref (G.2.2.2 + k0), .int v].toArray, below, meth, c, MQ below (wQc G n (va_up E k0 (.inl (G.2.2.1 .int, N, .inl (fun j => if j < N then v else f j))))) [Value.ref (G.2.2.2 + k0), .int v].toArray s 0 0 (wA G), 4, 0, 0) 0 0 0 [(0, .ref (G.2.2.2 + k0)), (1, .int v)] [] n E := by
    refine wc_iconst (v := nI 0) hX dJ7_fill_53178_0 (by decide) (pq := 1) rfl ?_
    refine wc_istore_n (loc' := [(2, .int (nI 0)), (0, .ref (G.2.2.2 + k0)), (1, .int v)]) hX (nL0 := 4) rfl dJ7_fill_53178_1 (by decide) rfl (pq := 2) rfl ?_
    refine wc_aload_n 1 hX dJ7_fill_53178_2 rfl (pq := 3) rfl ?_
    refine wc_alen (N := N) hX hk hE dJ7_fill_53178_3 (pq := 4) rfl ?_
    refine wc_istore_n (loc' := [(3, .int (Int32.ofNat N)), (2, .int (nI 0)), (0, .ref (G.2.2.2 + k0)), (1, .int v)]) hX (nL0 := 4) rfl dJ7_fill_53178_4 (by decide) rfl (pq := 5) rfl ?_
    refine wc_sub [2, 3, 1, 0] (loc' := [(0, .ref (G.2.2.2 + k0)), (1, .int v), (2, .int (nI 0)), (3, .int (Int32.ofNat N))]) rfl ?_
    have h := wFillC_L (f := f) (v := v) hk hE hNN hX (fun _ => trivial) rfl B.returns rfl N 0 (by omega)
    have e0 : va_up E k0 (.inl (G.2.2.1 .int, N, .inl (fun j => if j < 0 then v else f j))) = E := va_up_same (by rw [hE]; simp)
    rw [e0] at h
    exact h
  exact key s.heap [] _ hP (by show _ = s.heap.size + 0; omega) va_S.rf (lv_entry [Value.ref (G.2.2.2 + k0), .int v] (Nat.le_of_ble_eq_true rfl))
set_option maxHeartbeats 4000000 in
theorem wc_fill {G : wG} {X : wX} {cc : ByteArray} {own : String} {d mc ms ce sl pc n k0 N idx : Nat} {loc : List (Nat × Value)} {st : List Value} {f : Nat → Int32} {v : Int32} {E : Nat → va_E} (hX : wOC G X cc own d mc ms) (h1 : Cond.methodLink own idx yJ7_fill_53178 ∈ wTs) (hk : k0 < n) (hE : E k0 = .inl (G.2.2.1 .int, N, .inl f)) (hNN : N < 2 ^ 31) (hdd : 0 < d) (hc : ce ≤ mc) (hs : sl ≤ ms) (hcat : (st.map fun v => v.category).sum ≤ 8) (hd : decode cc pc = .ok (.invokestatic idx, 3)) {pq : Nat} (hp : pc + 3 = pq) (k : WC G X ce sl pq loc st n (va_up E k0 (.inl (G.2.2.1 .int, N, .inl (fun j => if j < N then v else f j))))) : WC G X ce sl pc loc (.int v :: .ref (G.2.2.2 + k0) :: st) n E := by
  obtain ⟨p, l, e, R, s0, m, args, below, meth, c, Q, nL, cells, slots⟩ := X
  obtain ⟨hx, hb, hml, hown, hT, hK, hlk, hfr, hlo, hmc, hms, hbs, hO⟩ := hX
  intro H locs ls hP hz hS hl
  (try subst hp)
  refine W_sz fun hsz => ?_
  have hz1 := wR_size hP hS hz hbs hsz
  have hrun := va_runS (As := [.ref (G.2.2.2 + k0), .int v]) (rest := st) (R := R) (cells := ce) (slots := sl) (locs := locs) (below := below) (meth := meth) (e := e) (args := args) ⟨hx, hb, hml, hown, fun w hw => hT.1 w hw _⟩ (wFillC (l := l) (v := v) hk hE hNN) ⟨callB_of 2 (fun w hw => hT.1 w hw _) (w_code k_87) rfl rfl rfl (hT.1 _ k_5 _) (hT.1 _ h1 _) (by decide +kernel) ⟨by simp only [wRmC]; omega, by simp only [wRmC]; omega⟩, hT.1 _ k_86 _⟩ ⟨wPcC_blind, fun U hU hW => ⟨rfl, by rw [hU]; exact hz1, by rw [hU]; exact hP, va_K.moved hW.alike hK, hT.warm hW, va_AO.moved hW.alike hO⟩⟩ (g := F0 m pc ls (.int v :: .ref (G.2.2.2 + k0) :: st)) rfl rfl hl.1 rfl (lv_room (pc := pc) (ls := ls) (m := m) (rest := .int v :: .ref (G.2.2.2 + k0) :: st) hcat) hd ⟨by omega, by omega⟩
  refine va_callv hrun hS (fun q _ h => h) (fun q h => h) (fun u t H1 locs1 ht hvm hw hB hz2 hk1 hS1 => ?_)
  exact k H1 locs1 ls (by rw [← ht]; exact hB) hz hS1 hl

def eTx (G : wG) (n k0 : Nat) (E : Nat → va_E) : Nat → va_E := va_up (va_up (va_up (E) (n) (.inl (G.2.2.1 .char, 80, .inl (fun _ => 0)))) (k0) (.inr (9, [.ref (G.2.2.2 + (n)), .int 0]))) (k0) (.inr (9, [.ref (G.2.2.2 + (n)), .int (iI (0))]))
theorem eTx_off {G : wG} {n k0 j : Nat} {E : Nat → va_E} (h1 : j < n) (h2 : j ≠ k0) : eTx G n k0 E j = E j := va_upn (by omega) (va_upn (by omega) (va_upn (by omega) (rfl)))
set_option maxHeartbeats 8000000 in
set_option maxRecDepth 100000 in
theorem iTx {l : Launch} {G : wG} {n k0 : Nat} {E : Nat → va_E} (hk : k0 < n) (hE : E k0 = .inr (9, [.null, .int 0])) : wMetC l G yX9_init cX9_init 1 0 1 80 [.ref (G.2.2.2 + k0)] n E (n + 1) (eTx G n k0 E) := by
  refine wMetC_of (own := RX9) (by decide +kernel) rfl rfl (Nat.le_of_ble_eq_true rfl) ?_
  intro X hX hNm hQ hN
  show WC G X 0 0 0 [(0, .ref (G.2.2.2 + k0))] [] n E
  refine wc_aload_n 0 hX dX9_init_0 rfl (pq := 1) rfl ?_
  refine wc_obj hX k_34 k_27 k_28 (Nat.le_of_ble_eq_true rfl) dX9_init_1 (pq := 4) rfl ?_
  refine wc_aload_n 0 hX dX9_init_4 rfl (pq := 5) rfl ?_
  refine wc_bipush (v := iI (80)) hX dX9_init_5 (by decide) (pq := 7) rfl ?_
  refine wc_newa (N' := 80) (a0 := (80, .inl (fun _ => 0))) .char 3 hX k_45 rfl rfl rfl (fun _ => rfl) (by decide) (by decide) (by decide) (by decide) (by decide) dX9_init_7 (pq := 9) (n1 := n + 1) (ce1 := 1) (sl1 := 80) rfl rfl rfl rfl ?_
  refine wc_putF (ci := 9) (j := 0) hX hNm clX9 (by omega) (va_upn (by omega) (hE)) (by decide) k_35 rfl rfl rfl rfl (Nat.le_of_ble_eq_true rfl) dX9_init_9 (pq := 12) rfl (fs' := [.ref (G.2.2.2 + (n)), .int 0]) rfl ?_
  refine wc_aload_n 0 hX dX9_init_12 rfl (pq := 13) rfl ?_
  refine wc_iconst (v := iI (0)) hX dX9_init_13 rfl (pq := 14) rfl ?_
  refine wc_putI (ci := 9) (j := 1) hX clX9 (by omega) (va_ups) (by decide) k_37 rfl rfl rfl (Nat.le_of_ble_eq_true rfl) dX9_init_14 (pq := 17) rfl (fs' := [.ref (G.2.2.2 + (n)), .int (iI (0))]) rfl ?_
  exact wc_vret hX hNm hQ rfl rfl (by decide) (by decide) dX9_init_17
def eRd (G : wG) (n k0 : Nat) (E : Nat → va_E) : Nat → va_E := va_up (va_up (va_up (va_up (va_up (va_up (va_up (va_up (va_up (va_up (E) (n) (.inl (G.2.2.1 .int, 40, .inl (fun _ => 0)))) (k0) (.inr (5, [.ref (G.2.2.2 + (n)), .null, .null, .int 0, .int 0, .int 0, .int 0]))) (n + 1) (.inl (G.2.2.1 .int, 40, .inl (fun _ => 0)))) (k0) (.inr (5, [.ref (G.2.2.2 + (n)), .ref (G.2.2.2 + (n + 1)), .null, .int 0, .int 0, .int 0, .int 0]))) (n + 2) (.inl (G.2.2.1 .int, 40, .inl (fun _ => 0)))) (k0) (.inr (5, [.ref (G.2.2.2 + (n)), .ref (G.2.2.2 + (n + 1)), .ref (G.2.2.2 + (n + 2)), .int 0, .int 0, .int 0, .int 0]))) (k0) (.inr (5, [.ref (G.2.2.2 + (n)), .ref (G.2.2.2 + (n + 1)), .ref (G.2.2.2 + (n + 2)), .int (iI (0)), .int 0, .int 0, .int 0]))) (k0) (.inr (5, [.ref (G.2.2.2 + (n)), .ref (G.2.2.2 + (n + 1)), .ref (G.2.2.2 + (n + 2)), .int (iI (0)), .int (iI (0)), .int 0, .int 0]))) (k0) (.inr (5, [.ref (G.2.2.2 + (n)), .ref (G.2.2.2 + (n + 1)), .ref (G.2.2.2 + (n + 2)), .int (iI (0)), .int (iI (0)), .int (iI (0)), .int 0]))) (k0) (.inr (5, [.ref (G.2.2.2 + (n)), .ref (G.2.2.2 + (n + 1)), .ref (G.2.2.2 + (n + 2)), .int (iI (0)), .int (iI (0)), .int (iI (0)), .int (iI (0))]))
theorem eRd_off {G : wG} {n k0 j : Nat} {E : Nat → va_E} (h1 : j < n) (h2 : j ≠ k0) : eRd G n k0 E j = E j := va_upn (by omega) (va_upn (by omega) (va_upn (by omega) (va_upn (by omega) (va_upn (by omega) (va_upn (by omega) (va_upn (by omega) (va_upn (by omega) (va_upn (by omega) (va_upn (by omega) (rfl))))))))))
set_option maxHeartbeats 8000000 in
set_option maxRecDepth 100000 in
theorem iRd {l : Launch} {G : wG} {n k0 : Nat} {E : Nat → va_E} (hk : k0 < n) (hE : E k0 = .inr (5, [.null, .null, .null, .int 0, .int 0, .int 0, .int 0])) : wMetC l G yX5_init cX5_init 1 0 3 120 [.ref (G.2.2.2 + k0)] n E (n + 3) (eRd G n k0 E) := by
  refine wMetC_of (own := RX5) (by decide +kernel) rfl rfl (Nat.le_of_ble_eq_true rfl) ?_
  intro X hX hNm hQ hN
  show WC G X 0 0 0 [(0, .ref (G.2.2.2 + k0))] [] n E
  refine wc_aload_n 0 hX dX5_init_0 rfl (pq := 1) rfl ?_
  refine wc_obj hX k_51 k_27 k_28 (Nat.le_of_ble_eq_true rfl) dX5_init_1 (pq := 4) rfl ?_
  refine wc_aload_n 0 hX dX5_init_4 rfl (pq := 5) rfl ?_
  refine wc_bipush (v := iI (40)) hX dX5_init_5 (by decide) (pq := 7) rfl ?_
  refine wc_newa (N' := 40) (a0 := (40, .inl (fun _ => 0))) .int 0 hX k_78 rfl rfl rfl (fun _ => rfl) (by decide) (by decide) (by decide) (by decide) (by decide) dX5_init_7 (pq := 9) (n1 := n + 1) (ce1 := 1) (sl1 := 40) rfl rfl rfl rfl ?_
  refine wc_putF (ci := 5) (j := 0) hX hNm clX5 (by omega) (va_upn (by omega) (hE)) (by decide) k_52 rfl rfl rfl rfl (Nat.le_of_ble_eq_true rfl) dX5_init_9 (pq := 12) rfl (fs' := [.ref (G.2.2.2 + (n)), .null, .null, .int 0, .int 0, .int 0, .int 0]) rfl ?_
  refine wc_aload_n 0 hX dX5_init_12 rfl (pq := 13) rfl ?_
  refine wc_bipush (v := iI (40)) hX dX5_init_13 (by decide) (pq := 15) rfl ?_
  refine wc_newa (N' := 40) (a0 := (40, .inl (fun _ => 0))) .int 0 hX k_78 rfl rfl rfl (fun _ => rfl) (by decide) (by decide) (by decide) (by decide) (by decide) dX5_init_15 (pq := 17) (n1 := n + 2) (ce1 := 2) (sl1 := 80) rfl rfl rfl rfl ?_
  refine wc_putF (ci := 5) (j := 1) hX hNm clX5 (by omega) (va_upn (by omega) (va_ups)) (by decide) k_54 rfl rfl rfl rfl (Nat.le_of_ble_eq_true rfl) dX5_init_17 (pq := 20) rfl (fs' := [.ref (G.2.2.2 + (n)), .ref (G.2.2.2 + (n + 1)), .null, .int 0, .int 0, .int 0, .int 0]) rfl ?_
  refine wc_aload_n 0 hX dX5_init_20 rfl (pq := 21) rfl ?_
  refine wc_bipush (v := iI (40)) hX dX5_init_21 (by decide) (pq := 23) rfl ?_
  refine wc_newa (N' := 40) (a0 := (40, .inl (fun _ => 0))) .int 0 hX k_78 rfl rfl rfl (fun _ => rfl) (by decide) (by decide) (by decide) (by decide) (by decide) dX5_init_23 (pq := 25) (n1 := n + 3) (ce1 := 3) (sl1 := 120) rfl rfl rfl rfl ?_
  refine wc_putF (ci := 5) (j := 2) hX hNm clX5 (by omega) (va_upn (by omega) (va_ups)) (by decide) k_56 rfl rfl rfl rfl (Nat.le_of_ble_eq_true rfl) dX5_init_25 (pq := 28) rfl (fs' := [.ref (G.2.2.2 + (n)), .ref (G.2.2.2 + (n + 1)), .ref (G.2.2.2 + (n + 2)), .int 0, .int 0, .int 0, .int 0]) rfl ?_
  refine wc_aload_n 0 hX dX5_init_28 rfl (pq := 29) rfl ?_
  refine wc_iconst (v := iI (0)) hX dX5_init_29 rfl (pq := 30) rfl ?_
  refine wc_putI (ci := 5) (j := 3) hX clX5 (by omega) (va_ups) (by decide) k_58 rfl rfl rfl (Nat.le_of_ble_eq_true rfl) dX5_init_30 (pq := 33) rfl (fs' := [.ref (G.2.2.2 + (n)), .ref (G.2.2.2 + (n + 1)), .ref (G.2.2.2 + (n + 2)), .int (iI (0)), .int 0, .int 0, .int 0]) rfl ?_
  refine wc_aload_n 0 hX dX5_init_33 rfl (pq := 34) rfl ?_
  refine wc_iconst (v := iI (0)) hX dX5_init_34 rfl (pq := 35) rfl ?_
  refine wc_putI (ci := 5) (j := 4) hX clX5 (by omega) (va_ups) (by decide) k_60 rfl rfl rfl (Nat.le_of_ble_eq_true rfl) dX5_init_35 (pq := 38) rfl (fs' := [.ref (G.2.2.2 + (n)), .ref (G.2.2.2 + (n + 1)), .ref (G.2.2.2 + (n + 2)), .int (iI (0)), .int (iI (0)), .int 0, .int 0]) rfl ?_
  refine wc_aload_n 0 hX dX5_init_38 rfl (pq := 39) rfl ?_
  refine wc_iconst (v := iI (0)) hX dX5_init_39 rfl (pq := 40) rfl ?_
  refine wc_putI (ci := 5) (j := 5) hX clX5 (by omega) (va_ups) (by decide) k_61 rfl rfl rfl (Nat.le_of_ble_eq_true rfl) dX5_init_40 (pq := 43) rfl (fs' := [.ref (G.2.2.2 + (n)), .ref (G.2.2.2 + (n + 1)), .ref (G.2.2.2 + (n + 2)), .int (iI (0)), .int (iI (0)), .int (iI (0)), .int 0]) rfl ?_
  refine wc_aload_n 0 hX dX5_init_43 rfl (pq := 44) rfl ?_
  refine wc_iconst (v := iI (0)) hX dX5_init_44 rfl (pq := 45) rfl ?_
  refine wc_putI (ci := 5) (j := 6) hX clX5 (by omega) (va_ups) (by decide) k_62 rfl rfl rfl (Nat.le_of_ble_eq_true rfl) dX5_init_45 (pq := 48) rfl (fs' := [.ref (G.2.2.2 + (n)), .ref (G.2.2.2 + (n + 1)), .ref (G.2.2.2 + (n + 2)), .int (iI (0)), .int (iI (0)), .int (iI (0)), .int (iI (0))]) rfl ?_
  exact wc_vret hX hNm hQ rfl rfl (by decide) (by decide) dX5_init_48
def eLand (G : wG) (n k0 : Nat) (E : Nat → va_E) : Nat → va_E := va_up (va_up (va_up (va_up (va_up (va_up (va_up (va_up (va_up (va_up (va_up (va_up (va_up (va_up (E) (n) (.inl (G.2.2.1 .int, 9, .inl (fun _ => 0)))) (k0) (.inr (2, [.ref (G.2.2.2 + (n)), .null, .null, .null, .int 0, .int 0, .null]))) (n + 1) (.inl (G.2.2.1 .int, 9, .inl (fun _ => 0)))) (k0) (.inr (2, [.ref (G.2.2.2 + (n)), .ref (G.2.2.2 + (n + 1)), .null, .null, .int 0, .int 0, .null]))) (n + 2) (.inl (G.2.2.1 .int, 9, .inl (fun _ => 0)))) (k0) (.inr (2, [.ref (G.2.2.2 + (n)), .ref (G.2.2.2 + (n + 1)), .ref (G.2.2.2 + (n + 2)), .null, .int 0, .int 0, .null]))) (n + 3) (.inl (G.2.2.1 .int, 3, .inl (fun _ => 0)))) (k0) (.inr (2, [.ref (G.2.2.2 + (n)), .ref (G.2.2.2 + (n + 1)), .ref (G.2.2.2 + (n + 2)), .ref (G.2.2.2 + (n + 3)), .int 0, .int 0, .null]))) (k0) (.inr (2, [.ref (G.2.2.2 + (n)), .ref (G.2.2.2 + (n + 1)), .ref (G.2.2.2 + (n + 2)), .ref (G.2.2.2 + (n + 3)), .int (iI (0)), .int 0, .null]))) (k0) (.inr (2, [.ref (G.2.2.2 + (n)), .ref (G.2.2.2 + (n + 1)), .ref (G.2.2.2 + (n + 2)), .ref (G.2.2.2 + (n + 3)), .int (iI (0)), .int (iI (0)), .null]))) (n + 4) (.inl (G.2.2.1 .int, 81, .inl (fun _ => 0)))) (k0) (.inr (2, [.ref (G.2.2.2 + (n)), .ref (G.2.2.2 + (n + 1)), .ref (G.2.2.2 + (n + 2)), .ref (G.2.2.2 + (n + 3)), .int (iI (0)), .int (iI (0)), .ref (G.2.2.2 + (n + 4))]))) (n + 3) (.inl (G.2.2.1 .int, 3, .inl (fun j => if j < 3 then iI (1) else (fun _ => 0) j)))) (n + 4) (.inl (G.2.2.1 .int, 81, .inl (fun j => if j < 81 then iI (-1) else (fun _ => 0) j)))
theorem eLand_off {G : wG} {n k0 j : Nat} {E : Nat → va_E} (h1 : j < n) (h2 : j ≠ k0) : eLand G n k0 E j = E j := va_upn (by omega) (va_upn (by omega) (va_upn (by omega) (va_upn (by omega) (va_upn (by omega) (va_upn (by omega) (va_upn (by omega) (va_upn (by omega) (va_upn (by omega) (va_upn (by omega) (va_upn (by omega) (va_upn (by omega) (va_upn (by omega) (va_upn (by omega) (rfl))))))))))))))
set_option maxHeartbeats 8000000 in
set_option maxRecDepth 100000 in
theorem iLand {l : Launch} {G : wG} {n k0 : Nat} {E : Nat → va_E} (hk : k0 < n) (hE : E k0 = .inr (2, [.null, .null, .null, .null, .int 0, .int 0, .null])) : wMetC l G yX2_init cX2_init 1 1 5 111 [.ref (G.2.2.2 + k0)] n E (n + 5) (eLand G n k0 E) := by
  refine wMetC_of (own := RX2) (by decide +kernel) rfl rfl (Nat.le_of_ble_eq_true rfl) ?_
  intro X hX hNm hQ hN
  show WC G X 0 0 0 [(0, .ref (G.2.2.2 + k0))] [] n E
  refine wc_aload_n 0 hX dX2_init_0 rfl (pq := 1) rfl ?_
  refine wc_obj hX k_84 k_27 k_28 (Nat.le_of_ble_eq_true rfl) dX2_init_1 (pq := 4) rfl ?_
  refine wc_aload_n 0 hX dX2_init_4 rfl (pq := 5) rfl ?_
  refine wc_bipush (v := iI (9)) hX dX2_init_5 (by decide) (pq := 7) rfl ?_
  refine wc_newa (N' := 9) (a0 := (9, .inl (fun _ => 0))) .int 0 hX k_78 rfl rfl rfl (fun _ => rfl) (by decide) (by decide) (by decide) (by decide) (by decide) dX2_init_7 (pq := 9) (n1 := n + 1) (ce1 := 1) (sl1 := 9) rfl rfl rfl rfl ?_
  refine wc_putF (ci := 2) (j := 0) hX hNm clX2 (by omega) (va_upn (by omega) (hE)) (by decide) k_88 rfl rfl rfl rfl (Nat.le_of_ble_eq_true rfl) dX2_init_9 (pq := 12) rfl (fs' := [.ref (G.2.2.2 + (n)), .null, .null, .null, .int 0, .int 0, .null]) rfl ?_
  refine wc_aload_n 0 hX dX2_init_12 rfl (pq := 13) rfl ?_
  refine wc_bipush (v := iI (9)) hX dX2_init_13 (by decide) (pq := 15) rfl ?_
  refine wc_newa (N' := 9) (a0 := (9, .inl (fun _ => 0))) .int 0 hX k_78 rfl rfl rfl (fun _ => rfl) (by decide) (by decide) (by decide) (by decide) (by decide) dX2_init_15 (pq := 17) (n1 := n + 2) (ce1 := 2) (sl1 := 18) rfl rfl rfl rfl ?_
  refine wc_putF (ci := 2) (j := 1) hX hNm clX2 (by omega) (va_upn (by omega) (va_ups)) (by decide) k_92 rfl rfl rfl rfl (Nat.le_of_ble_eq_true rfl) dX2_init_17 (pq := 20) rfl (fs' := [.ref (G.2.2.2 + (n)), .ref (G.2.2.2 + (n + 1)), .null, .null, .int 0, .int 0, .null]) rfl ?_
  refine wc_aload_n 0 hX dX2_init_20 rfl (pq := 21) rfl ?_
  refine wc_bipush (v := iI (9)) hX dX2_init_21 (by decide) (pq := 23) rfl ?_
  refine wc_newa (N' := 9) (a0 := (9, .inl (fun _ => 0))) .int 0 hX k_78 rfl rfl rfl (fun _ => rfl) (by decide) (by decide) (by decide) (by decide) (by decide) dX2_init_23 (pq := 25) (n1 := n + 3) (ce1 := 3) (sl1 := 27) rfl rfl rfl rfl ?_
  refine wc_putF (ci := 2) (j := 2) hX hNm clX2 (by omega) (va_upn (by omega) (va_ups)) (by decide) k_96 rfl rfl rfl rfl (Nat.le_of_ble_eq_true rfl) dX2_init_25 (pq := 28) rfl (fs' := [.ref (G.2.2.2 + (n)), .ref (G.2.2.2 + (n + 1)), .ref (G.2.2.2 + (n + 2)), .null, .int 0, .int 0, .null]) rfl ?_
  refine wc_aload_n 0 hX dX2_init_28 rfl (pq := 29) rfl ?_
  refine wc_iconst (v := iI (3)) hX dX2_init_29 rfl (pq := 30) rfl ?_
  refine wc_newa (N' := 3) (a0 := (3, .inl (fun _ => 0))) .int 0 hX k_78 rfl rfl rfl (fun _ => rfl) (by decide) (by decide) (by decide) (by decide) (by decide) dX2_init_30 (pq := 32) (n1 := n + 4) (ce1 := 4) (sl1 := 30) rfl rfl rfl rfl ?_
  refine wc_putF (ci := 2) (j := 3) hX hNm clX2 (by omega) (va_upn (by omega) (va_ups)) (by decide) k_99 rfl rfl rfl rfl (Nat.le_of_ble_eq_true rfl) dX2_init_32 (pq := 35) rfl (fs' := [.ref (G.2.2.2 + (n)), .ref (G.2.2.2 + (n + 1)), .ref (G.2.2.2 + (n + 2)), .ref (G.2.2.2 + (n + 3)), .int 0, .int 0, .null]) rfl ?_
  refine wc_aload_n 0 hX dX2_init_35 rfl (pq := 36) rfl ?_
  refine wc_iconst (v := iI (0)) hX dX2_init_36 rfl (pq := 37) rfl ?_
  refine wc_putI (ci := 2) (j := 4) hX clX2 (by omega) (va_ups) (by decide) k_104 rfl rfl rfl (Nat.le_of_ble_eq_true rfl) dX2_init_37 (pq := 40) rfl (fs' := [.ref (G.2.2.2 + (n)), .ref (G.2.2.2 + (n + 1)), .ref (G.2.2.2 + (n + 2)), .ref (G.2.2.2 + (n + 3)), .int (iI (0)), .int 0, .null]) rfl ?_
  refine wc_aload_n 0 hX dX2_init_40 rfl (pq := 41) rfl ?_
  refine wc_iconst (v := iI (0)) hX dX2_init_41 rfl (pq := 42) rfl ?_
  refine wc_putI (ci := 2) (j := 5) hX clX2 (by omega) (va_ups) (by decide) k_110 rfl rfl rfl (Nat.le_of_ble_eq_true rfl) dX2_init_42 (pq := 45) rfl (fs' := [.ref (G.2.2.2 + (n)), .ref (G.2.2.2 + (n + 1)), .ref (G.2.2.2 + (n + 2)), .ref (G.2.2.2 + (n + 3)), .int (iI (0)), .int (iI (0)), .null]) rfl ?_
  refine wc_aload_n 0 hX dX2_init_45 rfl (pq := 46) rfl ?_
  refine wc_bipush (v := iI (81)) hX dX2_init_46 (by decide) (pq := 48) rfl ?_
  refine wc_newa (N' := 81) (a0 := (81, .inl (fun _ => 0))) .int 0 hX k_78 rfl rfl rfl (fun _ => rfl) (by decide) (by decide) (by decide) (by decide) (by decide) dX2_init_48 (pq := 50) (n1 := n + 5) (ce1 := 5) (sl1 := 111) rfl rfl rfl rfl ?_
  refine wc_putF (ci := 2) (j := 6) hX hNm clX2 (by omega) (va_upn (by omega) (va_ups)) (by decide) k_113 rfl rfl rfl rfl (Nat.le_of_ble_eq_true rfl) dX2_init_50 (pq := 53) rfl (fs' := [.ref (G.2.2.2 + (n)), .ref (G.2.2.2 + (n + 1)), .ref (G.2.2.2 + (n + 2)), .ref (G.2.2.2 + (n + 3)), .int (iI (0)), .int (iI (0)), .ref (G.2.2.2 + (n + 4))]) rfl ?_
  refine wc_aload_n 0 hX dX2_init_53 rfl (pq := 54) rfl ?_
  refine wc_get (ci := 2) (j := 3) hX clX2 (by omega) (va_ups) (by decide) k_99 rfl dX2_init_54 (pq := 57) rfl ?_
  refine wc_iconst (v := iI (1)) hX dX2_init_57 rfl (pq := 58) rfl ?_
  refine wc_fill (N := 3) (v := iI (1)) hX k_85 (by omega) (va_upn (by omega) (va_upn (by omega) (va_upn (by omega) (va_upn (by omega) (va_upn (by omega) (va_ups)))))) (by decide) (by decide) (by decide) (by decide) (Nat.le_of_ble_eq_true rfl) dX2_init_58 (pq := 61) rfl ?_
  refine wc_aload_n 0 hX dX2_init_61 rfl (pq := 62) rfl ?_
  refine wc_get (ci := 2) (j := 6) hX clX2 (by omega) (va_upn (by omega) (va_ups)) (by decide) k_113 rfl dX2_init_62 (pq := 65) rfl ?_
  refine wc_iconst (v := iI (-1)) hX dX2_init_65 rfl (pq := 66) rfl ?_
  refine wc_fill (N := 81) (v := iI (-1)) hX k_85 (by omega) (va_upn (by omega) (va_upn (by omega) (va_ups))) (by decide) (by decide) (by decide) (by decide) (Nat.le_of_ble_eq_true rfl) dX2_init_66 (pq := 69) rfl ?_
  exact wc_vret hX hNm hQ rfl rfl (by decide) (by decide) dX2_init_69
def eAh (G : wG) (n k0 : Nat) (E : Nat → va_E) : Nat → va_E := va_up (va_up (va_up (va_up (va_up (va_up (va_up (va_up (va_up (va_up (va_up (va_up (va_up (va_up (va_up (va_up (va_up (va_up (va_up (va_up (va_up (va_up (va_up (E) (n) (.inl (G.2.2.1 .int, 9, .inl (fun _ => 0)))) (k0) (.inr (0, [.ref (G.2.2.2 + (n)), .null, .null, .null, .null, .null, .int 0, .int 0, .int 0, .null, .null, .null, .int 0, .int 0]))) (n + 1) (.inl (G.2.2.1 .int, 9, .inl (fun _ => 0)))) (k0) (.inr (0, [.ref (G.2.2.2 + (n)), .ref (G.2.2.2 + (n + 1)), .null, .null, .null, .null, .int 0, .int 0, .int 0, .null, .null, .null, .int 0, .int 0]))) (n + 2) (.inl (G.2.2.1 .int, 9, .inl (fun _ => 0)))) (k0) (.inr (0, [.ref (G.2.2.2 + (n)), .ref (G.2.2.2 + (n + 1)), .ref (G.2.2.2 + (n + 2)), .null, .null, .null, .int 0, .int 0, .int 0, .null, .null, .null, .int 0, .int 0]))) (n + 3) (.inl (G.2.2.1 .int, 36, .inl (fun _ => 0)))) (k0) (.inr (0, [.ref (G.2.2.2 + (n)), .ref (G.2.2.2 + (n + 1)), .ref (G.2.2.2 + (n + 2)), .ref (G.2.2.2 + (n + 3)), .null, .null, .int 0, .int 0, .int 0, .null, .null, .null, .int 0, .int 0]))) (n + 4) (.inl (G.2.2.1 .int, 36, .inl (fun _ => 0)))) (k0) (.inr (0, [.ref (G.2.2.2 + (n)), .ref (G.2.2.2 + (n + 1)), .ref (G.2.2.2 + (n + 2)), .ref (G.2.2.2 + (n + 3)), .ref (G.2.2.2 + (n + 4)), .null, .int 0, .int 0, .int 0, .null, .null, .null, .int 0, .int 0]))) (n + 5) (.inl (G.2.2.1 .int, 36, .inl (fun _ => 0)))) (k0) (.inr (0, [.ref (G.2.2.2 + (n)), .ref (G.2.2.2 + (n + 1)), .ref (G.2.2.2 + (n + 2)), .ref (G.2.2.2 + (n + 3)), .ref (G.2.2.2 + (n + 4)), .ref (G.2.2.2 + (n + 5)), .int 0, .int 0, .int 0, .null, .null, .null, .int 0, .int 0]))) (k0) (.inr (0, [.ref (G.2.2.2 + (n)), .ref (G.2.2.2 + (n + 1)), .ref (G.2.2.2 + (n + 2)), .ref (G.2.2.2 + (n + 3)), .ref (G.2.2.2 + (n + 4)), .ref (G.2.2.2 + (n + 5)), .int (iI (0)), .int 0, .int 0, .null, .null, .null, .int 0, .int 0]))) (k0) (.inr (0, [.ref (G.2.2.2 + (n)), .ref (G.2.2.2 + (n + 1)), .ref (G.2.2.2 + (n + 2)), .ref (G.2.2.2 + (n + 3)), .ref (G.2.2.2 + (n + 4)), .ref (G.2.2.2 + (n + 5)), .int (iI (0)), .int (iI (0)), .int 0, .null, .null, .null, .int 0, .int 0]))) (k0) (.inr (0, [.ref (G.2.2.2 + (n)), .ref (G.2.2.2 + (n + 1)), .ref (G.2.2.2 + (n + 2)), .ref (G.2.2.2 + (n + 3)), .ref (G.2.2.2 + (n + 4)), .ref (G.2.2.2 + (n + 5)), .int (iI (0)), .int (iI (0)), .int (iI (0)), .null, .null, .null, .int 0, .int 0]))) (n + 6) (.inl (G.2.2.1 .int, 9, .inl (fun _ => 0)))) (k0) (.inr (0, [.ref (G.2.2.2 + (n)), .ref (G.2.2.2 + (n + 1)), .ref (G.2.2.2 + (n + 2)), .ref (G.2.2.2 + (n + 3)), .ref (G.2.2.2 + (n + 4)), .ref (G.2.2.2 + (n + 5)), .int (iI (0)), .int (iI (0)), .int (iI (0)), .ref (G.2.2.2 + (n + 6)), .null, .null, .int 0, .int 0]))) (n + 7) (.inl (G.2.2.1 .int, 36, .inl (fun _ => 0)))) (k0) (.inr (0, [.ref (G.2.2.2 + (n)), .ref (G.2.2.2 + (n + 1)), .ref (G.2.2.2 + (n + 2)), .ref (G.2.2.2 + (n + 3)), .ref (G.2.2.2 + (n + 4)), .ref (G.2.2.2 + (n + 5)), .int (iI (0)), .int (iI (0)), .int (iI (0)), .ref (G.2.2.2 + (n + 6)), .ref (G.2.2.2 + (n + 7)), .null, .int 0, .int 0]))) (n + 8) (.inl (G.2.2.1 .int, 9, .inl (fun _ => 0)))) (k0) (.inr (0, [.ref (G.2.2.2 + (n)), .ref (G.2.2.2 + (n + 1)), .ref (G.2.2.2 + (n + 2)), .ref (G.2.2.2 + (n + 3)), .ref (G.2.2.2 + (n + 4)), .ref (G.2.2.2 + (n + 5)), .int (iI (0)), .int (iI (0)), .int (iI (0)), .ref (G.2.2.2 + (n + 6)), .ref (G.2.2.2 + (n + 7)), .ref (G.2.2.2 + (n + 8)), .int 0, .int 0]))) (k0) (.inr (0, [.ref (G.2.2.2 + (n)), .ref (G.2.2.2 + (n + 1)), .ref (G.2.2.2 + (n + 2)), .ref (G.2.2.2 + (n + 3)), .ref (G.2.2.2 + (n + 4)), .ref (G.2.2.2 + (n + 5)), .int (iI (0)), .int (iI (0)), .int (iI (0)), .ref (G.2.2.2 + (n + 6)), .ref (G.2.2.2 + (n + 7)), .ref (G.2.2.2 + (n + 8)), .int (iI (0)), .int 0]))) (k0) (.inr (0, [.ref (G.2.2.2 + (n)), .ref (G.2.2.2 + (n + 1)), .ref (G.2.2.2 + (n + 2)), .ref (G.2.2.2 + (n + 3)), .ref (G.2.2.2 + (n + 4)), .ref (G.2.2.2 + (n + 5)), .int (iI (0)), .int (iI (0)), .int (iI (0)), .ref (G.2.2.2 + (n + 6)), .ref (G.2.2.2 + (n + 7)), .ref (G.2.2.2 + (n + 8)), .int (iI (0)), .int (iI (1))]))
theorem eAh_off {G : wG} {n k0 j : Nat} {E : Nat → va_E} (h1 : j < n) (h2 : j ≠ k0) : eAh G n k0 E j = E j := va_upn (by omega) (va_upn (by omega) (va_upn (by omega) (va_upn (by omega) (va_upn (by omega) (va_upn (by omega) (va_upn (by omega) (va_upn (by omega) (va_upn (by omega) (va_upn (by omega) (va_upn (by omega) (va_upn (by omega) (va_upn (by omega) (va_upn (by omega) (va_upn (by omega) (va_upn (by omega) (va_upn (by omega) (va_upn (by omega) (va_upn (by omega) (va_upn (by omega) (va_upn (by omega) (va_upn (by omega) (va_upn (by omega) (rfl)))))))))))))))))))))))
set_option maxHeartbeats 8000000 in
set_option maxRecDepth 100000 in
theorem iAh {l : Launch} {G : wG} {n k0 : Nat} {E : Nat → va_E} (hk : k0 < n) (hE : E k0 = .inr (0, [.null, .null, .null, .null, .null, .null, .int 0, .int 0, .int 0, .null, .null, .null, .int 0, .int 0])) : wMetC l G yX0_init cX0_init 1 0 9 189 [.ref (G.2.2.2 + k0)] n E (n + 9) (eAh G n k0 E) := by
  refine wMetC_of (own := RX0) (by decide +kernel) rfl rfl (Nat.le_of_ble_eq_true rfl) ?_
  intro X hX hNm hQ hN
  show WC G X 0 0 0 [(0, .ref (G.2.2.2 + k0))] [] n E
  refine wc_aload_n 0 hX dX0_init_0 rfl (pq := 1) rfl ?_
  refine wc_obj hX k_134 k_27 k_28 (Nat.le_of_ble_eq_true rfl) dX0_init_1 (pq := 4) rfl ?_
  refine wc_aload_n 0 hX dX0_init_4 rfl (pq := 5) rfl ?_
  refine wc_bipush (v := iI (9)) hX dX0_init_5 (by decide) (pq := 7) rfl ?_
  refine wc_newa (N' := 9) (a0 := (9, .inl (fun _ => 0))) .int 0 hX k_78 rfl rfl rfl (fun _ => rfl) (by decide) (by decide) (by decide) (by decide) (by decide) dX0_init_7 (pq := 9) (n1 := n + 1) (ce1 := 1) (sl1 := 9) rfl rfl rfl rfl ?_
  refine wc_putF (ci := 0) (j := 0) hX hNm clX0 (by omega) (va_upn (by omega) (hE)) (by decide) k_135 rfl rfl rfl rfl (Nat.le_of_ble_eq_true rfl) dX0_init_9 (pq := 12) rfl (fs' := [.ref (G.2.2.2 + (n)), .null, .null, .null, .null, .null, .int 0, .int 0, .int 0, .null, .null, .null, .int 0, .int 0]) rfl ?_
  refine wc_aload_n 0 hX dX0_init_12 rfl (pq := 13) rfl ?_
  refine wc_bipush (v := iI (9)) hX dX0_init_13 (by decide) (pq := 15) rfl ?_
  refine wc_newa (N' := 9) (a0 := (9, .inl (fun _ => 0))) .int 0 hX k_78 rfl rfl rfl (fun _ => rfl) (by decide) (by decide) (by decide) (by decide) (by decide) dX0_init_15 (pq := 17) (n1 := n + 2) (ce1 := 2) (sl1 := 18) rfl rfl rfl rfl ?_
  refine wc_putF (ci := 0) (j := 1) hX hNm clX0 (by omega) (va_upn (by omega) (va_ups)) (by decide) k_138 rfl rfl rfl rfl (Nat.le_of_ble_eq_true rfl) dX0_init_17 (pq := 20) rfl (fs' := [.ref (G.2.2.2 + (n)), .ref (G.2.2.2 + (n + 1)), .null, .null, .null, .null, .int 0, .int 0, .int 0, .null, .null, .null, .int 0, .int 0]) rfl ?_
  refine wc_aload_n 0 hX dX0_init_20 rfl (pq := 21) rfl ?_
  refine wc_bipush (v := iI (9)) hX dX0_init_21 (by decide) (pq := 23) rfl ?_
  refine wc_newa (N' := 9) (a0 := (9, .inl (fun _ => 0))) .int 0 hX k_78 rfl rfl rfl (fun _ => rfl) (by decide) (by decide) (by decide) (by decide) (by decide) dX0_init_23 (pq := 25) (n1 := n + 3) (ce1 := 3) (sl1 := 27) rfl rfl rfl rfl ?_
  refine wc_putF (ci := 0) (j := 2) hX hNm clX0 (by omega) (va_upn (by omega) (va_ups)) (by decide) k_140 rfl rfl rfl rfl (Nat.le_of_ble_eq_true rfl) dX0_init_25 (pq := 28) rfl (fs' := [.ref (G.2.2.2 + (n)), .ref (G.2.2.2 + (n + 1)), .ref (G.2.2.2 + (n + 2)), .null, .null, .null, .int 0, .int 0, .int 0, .null, .null, .null, .int 0, .int 0]) rfl ?_
  refine wc_aload_n 0 hX dX0_init_28 rfl (pq := 29) rfl ?_
  refine wc_bipush (v := iI (36)) hX dX0_init_29 (by decide) (pq := 31) rfl ?_
  refine wc_newa (N' := 36) (a0 := (36, .inl (fun _ => 0))) .int 0 hX k_78 rfl rfl rfl (fun _ => rfl) (by decide) (by decide) (by decide) (by decide) (by decide) dX0_init_31 (pq := 33) (n1 := n + 4) (ce1 := 4) (sl1 := 63) rfl rfl rfl rfl ?_
  refine wc_putF (ci := 0) (j := 3) hX hNm clX0 (by omega) (va_upn (by omega) (va_ups)) (by decide) k_142 rfl rfl rfl rfl (Nat.le_of_ble_eq_true rfl) dX0_init_33 (pq := 36) rfl (fs' := [.ref (G.2.2.2 + (n)), .ref (G.2.2.2 + (n + 1)), .ref (G.2.2.2 + (n + 2)), .ref (G.2.2.2 + (n + 3)), .null, .null, .int 0, .int 0, .int 0, .null, .null, .null, .int 0, .int 0]) rfl ?_
  refine wc_aload_n 0 hX dX0_init_36 rfl (pq := 37) rfl ?_
  refine wc_bipush (v := iI (36)) hX dX0_init_37 (by decide) (pq := 39) rfl ?_
  refine wc_newa (N' := 36) (a0 := (36, .inl (fun _ => 0))) .int 0 hX k_78 rfl rfl rfl (fun _ => rfl) (by decide) (by decide) (by decide) (by decide) (by decide) dX0_init_39 (pq := 41) (n1 := n + 5) (ce1 := 5) (sl1 := 99) rfl rfl rfl rfl ?_
  refine wc_putF (ci := 0) (j := 4) hX hNm clX0 (by omega) (va_upn (by omega) (va_ups)) (by decide) k_144 rfl rfl rfl rfl (Nat.le_of_ble_eq_true rfl) dX0_init_41 (pq := 44) rfl (fs' := [.ref (G.2.2.2 + (n)), .ref (G.2.2.2 + (n + 1)), .ref (G.2.2.2 + (n + 2)), .ref (G.2.2.2 + (n + 3)), .ref (G.2.2.2 + (n + 4)), .null, .int 0, .int 0, .int 0, .null, .null, .null, .int 0, .int 0]) rfl ?_
  refine wc_aload_n 0 hX dX0_init_44 rfl (pq := 45) rfl ?_
  refine wc_bipush (v := iI (36)) hX dX0_init_45 (by decide) (pq := 47) rfl ?_
  refine wc_newa (N' := 36) (a0 := (36, .inl (fun _ => 0))) .int 0 hX k_78 rfl rfl rfl (fun _ => rfl) (by decide) (by decide) (by decide) (by decide) (by decide) dX0_init_47 (pq := 49) (n1 := n + 6) (ce1 := 6) (sl1 := 135) rfl rfl rfl rfl ?_
  refine wc_putF (ci := 0) (j := 5) hX hNm clX0 (by omega) (va_upn (by omega) (va_ups)) (by decide) k_146 rfl rfl rfl rfl (Nat.le_of_ble_eq_true rfl) dX0_init_49 (pq := 52) rfl (fs' := [.ref (G.2.2.2 + (n)), .ref (G.2.2.2 + (n + 1)), .ref (G.2.2.2 + (n + 2)), .ref (G.2.2.2 + (n + 3)), .ref (G.2.2.2 + (n + 4)), .ref (G.2.2.2 + (n + 5)), .int 0, .int 0, .int 0, .null, .null, .null, .int 0, .int 0]) rfl ?_
  refine wc_aload_n 0 hX dX0_init_52 rfl (pq := 53) rfl ?_
  refine wc_iconst (v := iI (0)) hX dX0_init_53 rfl (pq := 54) rfl ?_
  refine wc_putI (ci := 0) (j := 6) hX clX0 (by omega) (va_ups) (by decide) k_148 rfl rfl rfl (Nat.le_of_ble_eq_true rfl) dX0_init_54 (pq := 57) rfl (fs' := [.ref (G.2.2.2 + (n)), .ref (G.2.2.2 + (n + 1)), .ref (G.2.2.2 + (n + 2)), .ref (G.2.2.2 + (n + 3)), .ref (G.2.2.2 + (n + 4)), .ref (G.2.2.2 + (n + 5)), .int (iI (0)), .int 0, .int 0, .null, .null, .null, .int 0, .int 0]) rfl ?_
  refine wc_aload_n 0 hX dX0_init_57 rfl (pq := 58) rfl ?_
  refine wc_iconst (v := iI (0)) hX dX0_init_58 rfl (pq := 59) rfl ?_
  refine wc_putI (ci := 0) (j := 7) hX clX0 (by omega) (va_ups) (by decide) k_150 rfl rfl rfl (Nat.le_of_ble_eq_true rfl) dX0_init_59 (pq := 62) rfl (fs' := [.ref (G.2.2.2 + (n)), .ref (G.2.2.2 + (n + 1)), .ref (G.2.2.2 + (n + 2)), .ref (G.2.2.2 + (n + 3)), .ref (G.2.2.2 + (n + 4)), .ref (G.2.2.2 + (n + 5)), .int (iI (0)), .int (iI (0)), .int 0, .null, .null, .null, .int 0, .int 0]) rfl ?_
  refine wc_aload_n 0 hX dX0_init_62 rfl (pq := 63) rfl ?_
  refine wc_iconst (v := iI (0)) hX dX0_init_63 rfl (pq := 64) rfl ?_
  refine wc_putI (ci := 0) (j := 8) hX clX0 (by omega) (va_ups) (by decide) k_152 rfl rfl rfl (Nat.le_of_ble_eq_true rfl) dX0_init_64 (pq := 67) rfl (fs' := [.ref (G.2.2.2 + (n)), .ref (G.2.2.2 + (n + 1)), .ref (G.2.2.2 + (n + 2)), .ref (G.2.2.2 + (n + 3)), .ref (G.2.2.2 + (n + 4)), .ref (G.2.2.2 + (n + 5)), .int (iI (0)), .int (iI (0)), .int (iI (0)), .null, .null, .null, .int 0, .int 0]) rfl ?_
  refine wc_aload_n 0 hX dX0_init_67 rfl (pq := 68) rfl ?_
  refine wc_bipush (v := iI (9)) hX dX0_init_68 (by decide) (pq := 70) rfl ?_
  refine wc_newa (N' := 9) (a0 := (9, .inl (fun _ => 0))) .int 0 hX k_78 rfl rfl rfl (fun _ => rfl) (by decide) (by decide) (by decide) (by decide) (by decide) dX0_init_70 (pq := 72) (n1 := n + 7) (ce1 := 7) (sl1 := 144) rfl rfl rfl rfl ?_
  refine wc_putF (ci := 0) (j := 9) hX hNm clX0 (by omega) (va_upn (by omega) (va_ups)) (by decide) k_154 rfl rfl rfl rfl (Nat.le_of_ble_eq_true rfl) dX0_init_72 (pq := 75) rfl (fs' := [.ref (G.2.2.2 + (n)), .ref (G.2.2.2 + (n + 1)), .ref (G.2.2.2 + (n + 2)), .ref (G.2.2.2 + (n + 3)), .ref (G.2.2.2 + (n + 4)), .ref (G.2.2.2 + (n + 5)), .int (iI (0)), .int (iI (0)), .int (iI (0)), .ref (G.2.2.2 + (n + 6)), .null, .null, .int 0, .int 0]) rfl ?_
  refine wc_aload_n 0 hX dX0_init_75 rfl (pq := 76) rfl ?_
  refine wc_bipush (v := iI (36)) hX dX0_init_76 (by decide) (pq := 78) rfl ?_
  refine wc_newa (N' := 36) (a0 := (36, .inl (fun _ => 0))) .int 0 hX k_78 rfl rfl rfl (fun _ => rfl) (by decide) (by decide) (by decide) (by decide) (by decide) dX0_init_78 (pq := 80) (n1 := n + 8) (ce1 := 8) (sl1 := 180) rfl rfl rfl rfl ?_
  refine wc_putF (ci := 0) (j := 10) hX hNm clX0 (by omega) (va_upn (by omega) (va_ups)) (by decide) k_155 rfl rfl rfl rfl (Nat.le_of_ble_eq_true rfl) dX0_init_80 (pq := 83) rfl (fs' := [.ref (G.2.2.2 + (n)), .ref (G.2.2.2 + (n + 1)), .ref (G.2.2.2 + (n + 2)), .ref (G.2.2.2 + (n + 3)), .ref (G.2.2.2 + (n + 4)), .ref (G.2.2.2 + (n + 5)), .int (iI (0)), .int (iI (0)), .int (iI (0)), .ref (G.2.2.2 + (n + 6)), .ref (G.2.2.2 + (n + 7)), .null, .int 0, .int 0]) rfl ?_
  refine wc_aload_n 0 hX dX0_init_83 rfl (pq := 84) rfl ?_
  refine wc_bipush (v := iI (9)) hX dX0_init_84 (by decide) (pq := 86) rfl ?_
  refine wc_newa (N' := 9) (a0 := (9, .inl (fun _ => 0))) .int 0 hX k_78 rfl rfl rfl (fun _ => rfl) (by decide) (by decide) (by decide) (by decide) (by decide) dX0_init_86 (pq := 88) (n1 := n + 9) (ce1 := 9) (sl1 := 189) rfl rfl rfl rfl ?_
  refine wc_putF (ci := 0) (j := 11) hX hNm clX0 (by omega) (va_upn (by omega) (va_ups)) (by decide) k_156 rfl rfl rfl rfl (Nat.le_of_ble_eq_true rfl) dX0_init_88 (pq := 91) rfl (fs' := [.ref (G.2.2.2 + (n)), .ref (G.2.2.2 + (n + 1)), .ref (G.2.2.2 + (n + 2)), .ref (G.2.2.2 + (n + 3)), .ref (G.2.2.2 + (n + 4)), .ref (G.2.2.2 + (n + 5)), .int (iI (0)), .int (iI (0)), .int (iI (0)), .ref (G.2.2.2 + (n + 6)), .ref (G.2.2.2 + (n + 7)), .ref (G.2.2.2 + (n + 8)), .int 0, .int 0]) rfl ?_
  refine wc_aload_n 0 hX dX0_init_91 rfl (pq := 92) rfl ?_
  refine wc_iconst (v := iI (0)) hX dX0_init_92 rfl (pq := 93) rfl ?_
  refine wc_putI (ci := 0) (j := 12) hX clX0 (by omega) (va_ups) (by decide) k_157 rfl rfl rfl (Nat.le_of_ble_eq_true rfl) dX0_init_93 (pq := 96) rfl (fs' := [.ref (G.2.2.2 + (n)), .ref (G.2.2.2 + (n + 1)), .ref (G.2.2.2 + (n + 2)), .ref (G.2.2.2 + (n + 3)), .ref (G.2.2.2 + (n + 4)), .ref (G.2.2.2 + (n + 5)), .int (iI (0)), .int (iI (0)), .int (iI (0)), .ref (G.2.2.2 + (n + 6)), .ref (G.2.2.2 + (n + 7)), .ref (G.2.2.2 + (n + 8)), .int (iI (0)), .int 0]) rfl ?_
  refine wc_aload_n 0 hX dX0_init_96 rfl (pq := 97) rfl ?_
  refine wc_iconst (v := iI (1)) hX dX0_init_97 rfl (pq := 98) rfl ?_
  refine wc_putI (ci := 0) (j := 13) hX clX0 (by omega) (va_ups) (by decide) k_158 rfl rfl rfl (Nat.le_of_ble_eq_true rfl) dX0_init_98 (pq := 101) rfl (fs' := [.ref (G.2.2.2 + (n)), .ref (G.2.2.2 + (n + 1)), .ref (G.2.2.2 + (n + 2)), .ref (G.2.2.2 + (n + 3)), .ref (G.2.2.2 + (n + 4)), .ref (G.2.2.2 + (n + 5)), .int (iI (0)), .int (iI (0)), .int (iI (0)), .ref (G.2.2.2 + (n + 6)), .ref (G.2.2.2 + (n + 7)), .ref (G.2.2.2 + (n + 8)), .int (iI (0)), .int (iI (1))]) rfl ?_
  exact wc_vret hX hNm hQ rfl rfl (by decide) (by decide) dX0_init_101
def eSe (G : wG) (n k0 : Nat) (E : Nat → va_E) : Nat → va_E := va_up (va_up (va_up (va_up (va_up (va_up (va_up (va_up (va_up (va_up (va_up (va_up (va_up (va_up (va_up (E) (n) (.inl (G.2.2.1 .long, 3000, .inr (.inl (fun _ => 0))))) (k0) (.inr (6, [.ref (G.2.2.2 + (n)), .int 0, .null, .int 0, .null, .null, .int 0, .int 0, .int 0, .int 0, .int 0]))) (k0) (.inr (6, [.ref (G.2.2.2 + (n)), .int (iI (0)), .null, .int 0, .null, .null, .int 0, .int 0, .int 0, .int 0, .int 0]))) (n + 1) (.inl (G.2.2.1 .long, 2048, .inr (.inl (fun _ => 0))))) (k0) (.inr (6, [.ref (G.2.2.2 + (n)), .int (iI (0)), .ref (G.2.2.2 + (n + 1)), .int 0, .null, .null, .int 0, .int 0, .int 0, .int 0, .int 0]))) (k0) (.inr (6, [.ref (G.2.2.2 + (n)), .int (iI (0)), .ref (G.2.2.2 + (n + 1)), .int (iI (0)), .null, .null, .int 0, .int 0, .int 0, .int 0, .int 0]))) (n + 2) (.inl (G.2.2.1 .int, 72, .inl (fun _ => 0)))) (k0) (.inr (6, [.ref (G.2.2.2 + (n)), .int (iI (0)), .ref (G.2.2.2 + (n + 1)), .int (iI (0)), .ref (G.2.2.2 + (n + 2)), .null, .int 0, .int 0, .int 0, .int 0, .int 0]))) (n + 3) (.inl (G.2.2.1 .int, 72, .inl (fun _ => 0)))) (k0) (.inr (6, [.ref (G.2.2.2 + (n)), .int (iI (0)), .ref (G.2.2.2 + (n + 1)), .int (iI (0)), .ref (G.2.2.2 + (n + 2)), .ref (G.2.2.2 + (n + 3)), .int 0, .int 0, .int 0, .int 0, .int 0]))) (k0) (.inr (6, [.ref (G.2.2.2 + (n)), .int (iI (0)), .ref (G.2.2.2 + (n + 1)), .int (iI (0)), .ref (G.2.2.2 + (n + 2)), .ref (G.2.2.2 + (n + 3)), .int (iI (0)), .int 0, .int 0, .int 0, .int 0]))) (k0) (.inr (6, [.ref (G.2.2.2 + (n)), .int (iI (0)), .ref (G.2.2.2 + (n + 1)), .int (iI (0)), .ref (G.2.2.2 + (n + 2)), .ref (G.2.2.2 + (n + 3)), .int (iI (0)), .int (iI (1)), .int 0, .int 0, .int 0]))) (k0) (.inr (6, [.ref (G.2.2.2 + (n)), .int (iI (0)), .ref (G.2.2.2 + (n + 1)), .int (iI (0)), .ref (G.2.2.2 + (n + 2)), .ref (G.2.2.2 + (n + 3)), .int (iI (0)), .int (iI (1)), .int (iI (0)), .int 0, .int 0]))) (k0) (.inr (6, [.ref (G.2.2.2 + (n)), .int (iI (0)), .ref (G.2.2.2 + (n + 1)), .int (iI (0)), .ref (G.2.2.2 + (n + 2)), .ref (G.2.2.2 + (n + 3)), .int (iI (0)), .int (iI (1)), .int (iI (0)), .int (iI (0)), .int 0]))) (k0) (.inr (6, [.ref (G.2.2.2 + (n)), .int (iI (0)), .ref (G.2.2.2 + (n + 1)), .int (iI (0)), .ref (G.2.2.2 + (n + 2)), .ref (G.2.2.2 + (n + 3)), .int (iI (0)), .int (iI (1)), .int (iI (0)), .int (iI (0)), .int (iI (0))]))
theorem eSe_off {G : wG} {n k0 j : Nat} {E : Nat → va_E} (h1 : j < n) (h2 : j ≠ k0) : eSe G n k0 E j = E j := va_upn (by omega) (va_upn (by omega) (va_upn (by omega) (va_upn (by omega) (va_upn (by omega) (va_upn (by omega) (va_upn (by omega) (va_upn (by omega) (va_upn (by omega) (va_upn (by omega) (va_upn (by omega) (va_upn (by omega) (va_upn (by omega) (va_upn (by omega) (va_upn (by omega) (rfl)))))))))))))))
set_option maxHeartbeats 8000000 in
set_option maxRecDepth 100000 in
theorem iSe {l : Launch} {G : wG} {n k0 : Nat} {E : Nat → va_E} (hk : k0 < n) (hE : E k0 = .inr (6, [.null, .int 0, .null, .int 0, .null, .null, .int 0, .int 0, .int 0, .int 0, .int 0])) : wMetC l G yX6_init cX6_init 1 0 4 5192 [.ref (G.2.2.2 + k0)] n E (n + 4) (eSe G n k0 E) := by
  refine wMetC_of (own := RX6) (by decide +kernel) rfl rfl (Nat.le_of_ble_eq_true rfl) ?_
  intro X hX hNm hQ hN
  show WC G X 0 0 0 [(0, .ref (G.2.2.2 + k0))] [] n E
  refine wc_aload_n 0 hX dX6_init_0 rfl (pq := 1) rfl ?_
  refine wc_obj hX k_193 k_27 k_28 (Nat.le_of_ble_eq_true rfl) dX6_init_1 (pq := 4) rfl ?_
  refine wc_aload_n 0 hX dX6_init_4 rfl (pq := 5) rfl ?_
  refine wc_sipush (v := iI (3000)) hX dX6_init_5 (by decide) (pq := 8) rfl ?_
  refine wc_newa (N' := 3000) (a0 := (3000, .inr (.inl (fun _ => 0)))) .long 1 hX k_230 rfl rfl rfl (fun _ => rfl) (by decide) (by decide) (by decide) (by decide) (by decide) dX6_init_8 (pq := 10) (n1 := n + 1) (ce1 := 1) (sl1 := 3000) rfl rfl rfl rfl ?_
  refine wc_putF (ci := 6) (j := 0) hX hNm clX6 (by omega) (va_upn (by omega) (hE)) (by decide) k_194 rfl rfl rfl rfl (Nat.le_of_ble_eq_true rfl) dX6_init_10 (pq := 13) rfl (fs' := [.ref (G.2.2.2 + (n)), .int 0, .null, .int 0, .null, .null, .int 0, .int 0, .int 0, .int 0, .int 0]) rfl ?_
  refine wc_aload_n 0 hX dX6_init_13 rfl (pq := 14) rfl ?_
  refine wc_iconst (v := iI (0)) hX dX6_init_14 rfl (pq := 15) rfl ?_
  refine wc_putI (ci := 6) (j := 1) hX clX6 (by omega) (va_ups) (by decide) k_196 rfl rfl rfl (Nat.le_of_ble_eq_true rfl) dX6_init_15 (pq := 18) rfl (fs' := [.ref (G.2.2.2 + (n)), .int (iI (0)), .null, .int 0, .null, .null, .int 0, .int 0, .int 0, .int 0, .int 0]) rfl ?_
  refine wc_aload_n 0 hX dX6_init_18 rfl (pq := 19) rfl ?_
  refine wc_sipush (v := iI (2048)) hX dX6_init_19 (by decide) (pq := 22) rfl ?_
  refine wc_newa (N' := 2048) (a0 := (2048, .inr (.inl (fun _ => 0)))) .long 1 hX k_230 rfl rfl rfl (fun _ => rfl) (by decide) (by decide) (by decide) (by decide) (by decide) dX6_init_22 (pq := 24) (n1 := n + 2) (ce1 := 2) (sl1 := 5048) rfl rfl rfl rfl ?_
  refine wc_putF (ci := 6) (j := 2) hX hNm clX6 (by omega) (va_upn (by omega) (va_ups)) (by decide) k_198 rfl rfl rfl rfl (Nat.le_of_ble_eq_true rfl) dX6_init_24 (pq := 27) rfl (fs' := [.ref (G.2.2.2 + (n)), .int (iI (0)), .ref (G.2.2.2 + (n + 1)), .int 0, .null, .null, .int 0, .int 0, .int 0, .int 0, .int 0]) rfl ?_
  refine wc_aload_n 0 hX dX6_init_27 rfl (pq := 28) rfl ?_
  refine wc_iconst (v := iI (0)) hX dX6_init_28 rfl (pq := 29) rfl ?_
  refine wc_putI (ci := 6) (j := 3) hX clX6 (by omega) (va_ups) (by decide) k_199 rfl rfl rfl (Nat.le_of_ble_eq_true rfl) dX6_init_29 (pq := 32) rfl (fs' := [.ref (G.2.2.2 + (n)), .int (iI (0)), .ref (G.2.2.2 + (n + 1)), .int (iI (0)), .null, .null, .int 0, .int 0, .int 0, .int 0, .int 0]) rfl ?_
  refine wc_aload_n 0 hX dX6_init_32 rfl (pq := 33) rfl ?_
  refine wc_bipush (v := iI (72)) hX dX6_init_33 (by decide) (pq := 35) rfl ?_
  refine wc_newa (N' := 72) (a0 := (72, .inl (fun _ => 0))) .int 0 hX k_78 rfl rfl rfl (fun _ => rfl) (by decide) (by decide) (by decide) (by decide) (by decide) dX6_init_35 (pq := 37) (n1 := n + 3) (ce1 := 3) (sl1 := 5120) rfl rfl rfl rfl ?_
  refine wc_putF (ci := 6) (j := 4) hX hNm clX6 (by omega) (va_upn (by omega) (va_ups)) (by decide) k_200 rfl rfl rfl rfl (Nat.le_of_ble_eq_true rfl) dX6_init_37 (pq := 40) rfl (fs' := [.ref (G.2.2.2 + (n)), .int (iI (0)), .ref (G.2.2.2 + (n + 1)), .int (iI (0)), .ref (G.2.2.2 + (n + 2)), .null, .int 0, .int 0, .int 0, .int 0, .int 0]) rfl ?_
  refine wc_aload_n 0 hX dX6_init_40 rfl (pq := 41) rfl ?_
  refine wc_bipush (v := iI (72)) hX dX6_init_41 (by decide) (pq := 43) rfl ?_
  refine wc_newa (N' := 72) (a0 := (72, .inl (fun _ => 0))) .int 0 hX k_78 rfl rfl rfl (fun _ => rfl) (by decide) (by decide) (by decide) (by decide) (by decide) dX6_init_43 (pq := 45) (n1 := n + 4) (ce1 := 4) (sl1 := 5192) rfl rfl rfl rfl ?_
  refine wc_putF (ci := 6) (j := 5) hX hNm clX6 (by omega) (va_upn (by omega) (va_ups)) (by decide) k_201 rfl rfl rfl rfl (Nat.le_of_ble_eq_true rfl) dX6_init_45 (pq := 48) rfl (fs' := [.ref (G.2.2.2 + (n)), .int (iI (0)), .ref (G.2.2.2 + (n + 1)), .int (iI (0)), .ref (G.2.2.2 + (n + 2)), .ref (G.2.2.2 + (n + 3)), .int 0, .int 0, .int 0, .int 0, .int 0]) rfl ?_
  refine wc_aload_n 0 hX dX6_init_48 rfl (pq := 49) rfl ?_
  refine wc_iconst (v := iI (0)) hX dX6_init_49 rfl (pq := 50) rfl ?_
  refine wc_putI (ci := 6) (j := 6) hX clX6 (by omega) (va_ups) (by decide) k_202 rfl rfl rfl (Nat.le_of_ble_eq_true rfl) dX6_init_50 (pq := 53) rfl (fs' := [.ref (G.2.2.2 + (n)), .int (iI (0)), .ref (G.2.2.2 + (n + 1)), .int (iI (0)), .ref (G.2.2.2 + (n + 2)), .ref (G.2.2.2 + (n + 3)), .int (iI (0)), .int 0, .int 0, .int 0, .int 0]) rfl ?_
  refine wc_aload_n 0 hX dX6_init_53 rfl (pq := 54) rfl ?_
  refine wc_iconst (v := iI (1)) hX dX6_init_54 rfl (pq := 55) rfl ?_
  refine wc_putI (ci := 6) (j := 7) hX clX6 (by omega) (va_ups) (by decide) k_203 rfl rfl rfl (Nat.le_of_ble_eq_true rfl) dX6_init_55 (pq := 58) rfl (fs' := [.ref (G.2.2.2 + (n)), .int (iI (0)), .ref (G.2.2.2 + (n + 1)), .int (iI (0)), .ref (G.2.2.2 + (n + 2)), .ref (G.2.2.2 + (n + 3)), .int (iI (0)), .int (iI (1)), .int 0, .int 0, .int 0]) rfl ?_
  refine wc_aload_n 0 hX dX6_init_58 rfl (pq := 59) rfl ?_
  refine wc_iconst (v := iI (0)) hX dX6_init_59 rfl (pq := 60) rfl ?_
  refine wc_putI (ci := 6) (j := 8) hX clX6 (by omega) (va_ups) (by decide) k_204 rfl rfl rfl (Nat.le_of_ble_eq_true rfl) dX6_init_60 (pq := 63) rfl (fs' := [.ref (G.2.2.2 + (n)), .int (iI (0)), .ref (G.2.2.2 + (n + 1)), .int (iI (0)), .ref (G.2.2.2 + (n + 2)), .ref (G.2.2.2 + (n + 3)), .int (iI (0)), .int (iI (1)), .int (iI (0)), .int 0, .int 0]) rfl ?_
  refine wc_aload_n 0 hX dX6_init_63 rfl (pq := 64) rfl ?_
  refine wc_iconst (v := iI (0)) hX dX6_init_64 rfl (pq := 65) rfl ?_
  refine wc_putI (ci := 6) (j := 9) hX clX6 (by omega) (va_ups) (by decide) k_205 rfl rfl rfl (Nat.le_of_ble_eq_true rfl) dX6_init_65 (pq := 68) rfl (fs' := [.ref (G.2.2.2 + (n)), .int (iI (0)), .ref (G.2.2.2 + (n + 1)), .int (iI (0)), .ref (G.2.2.2 + (n + 2)), .ref (G.2.2.2 + (n + 3)), .int (iI (0)), .int (iI (1)), .int (iI (0)), .int (iI (0)), .int 0]) rfl ?_
  refine wc_aload_n 0 hX dX6_init_68 rfl (pq := 69) rfl ?_
  refine wc_iconst (v := iI (0)) hX dX6_init_69 rfl (pq := 70) rfl ?_
  refine wc_putI (ci := 6) (j := 10) hX clX6 (by omega) (va_ups) (by decide) k_206 rfl rfl rfl (Nat.le_of_ble_eq_true rfl) dX6_init_70 (pq := 73) rfl (fs' := [.ref (G.2.2.2 + (n)), .int (iI (0)), .ref (G.2.2.2 + (n + 1)), .int (iI (0)), .ref (G.2.2.2 + (n + 2)), .ref (G.2.2.2 + (n + 3)), .int (iI (0)), .int (iI (1)), .int (iI (0)), .int (iI (0)), .int (iI (0))]) rfl ?_
  exact wc_vret hX hNm hQ rfl rfl (by decide) (by decide) dX6_init_73
def eGr (G : wG) (n k0 : Nat) (E : Nat → va_E) : Nat → va_E := va_up (va_up (va_up (va_up (va_up (va_up (va_up (E) (n) (.inl (G.2.2.1 .int, 9, .inl (fun _ => 0)))) (k0) (.inr (1, [.ref (G.2.2.2 + (n)), .null, .int 0, .null]))) (n + 1) (.inl (G.2.2.1 .int, 9, .inl (fun _ => 0)))) (k0) (.inr (1, [.ref (G.2.2.2 + (n)), .ref (G.2.2.2 + (n + 1)), .int 0, .null]))) (k0) (.inr (1, [.ref (G.2.2.2 + (n)), .ref (G.2.2.2 + (n + 1)), .int (iI (0)), .null]))) (n + 2) (.inl (G.2.2.1 .int, 9, .inl (fun _ => 0)))) (k0) (.inr (1, [.ref (G.2.2.2 + (n)), .ref (G.2.2.2 + (n + 1)), .int (iI (0)), .ref (G.2.2.2 + (n + 2))]))
theorem eGr_off {G : wG} {n k0 j : Nat} {E : Nat → va_E} (h1 : j < n) (h2 : j ≠ k0) : eGr G n k0 E j = E j := va_upn (by omega) (va_upn (by omega) (va_upn (by omega) (va_upn (by omega) (va_upn (by omega) (va_upn (by omega) (va_upn (by omega) (rfl)))))))
set_option maxHeartbeats 8000000 in
set_option maxRecDepth 100000 in
theorem iGr {l : Launch} {G : wG} {n k0 : Nat} {E : Nat → va_E} (hk : k0 < n) (hE : E k0 = .inr (1, [.null, .null, .int 0, .null])) : wMetC l G yX1_init cX1_init 1 0 3 27 [.ref (G.2.2.2 + k0)] n E (n + 3) (eGr G n k0 E) := by
  refine wMetC_of (own := RX1) (by decide +kernel) rfl rfl (Nat.le_of_ble_eq_true rfl) ?_
  intro X hX hNm hQ hN
  show WC G X 0 0 0 [(0, .ref (G.2.2.2 + k0))] [] n E
  refine wc_aload_n 0 hX dX1_init_0 rfl (pq := 1) rfl ?_
  refine wc_obj hX k_236 k_27 k_28 (Nat.le_of_ble_eq_true rfl) dX1_init_1 (pq := 4) rfl ?_
  refine wc_aload_n 0 hX dX1_init_4 rfl (pq := 5) rfl ?_
  refine wc_bipush (v := iI (9)) hX dX1_init_5 (by decide) (pq := 7) rfl ?_
  refine wc_newa (N' := 9) (a0 := (9, .inl (fun _ => 0))) .int 0 hX k_78 rfl rfl rfl (fun _ => rfl) (by decide) (by decide) (by decide) (by decide) (by decide) dX1_init_7 (pq := 9) (n1 := n + 1) (ce1 := 1) (sl1 := 9) rfl rfl rfl rfl ?_
  refine wc_putF (ci := 1) (j := 0) hX hNm clX1 (by omega) (va_upn (by omega) (hE)) (by decide) k_237 rfl rfl rfl rfl (Nat.le_of_ble_eq_true rfl) dX1_init_9 (pq := 12) rfl (fs' := [.ref (G.2.2.2 + (n)), .null, .int 0, .null]) rfl ?_
  refine wc_aload_n 0 hX dX1_init_12 rfl (pq := 13) rfl ?_
  refine wc_bipush (v := iI (9)) hX dX1_init_13 (by decide) (pq := 15) rfl ?_
  refine wc_newa (N' := 9) (a0 := (9, .inl (fun _ => 0))) .int 0 hX k_78 rfl rfl rfl (fun _ => rfl) (by decide) (by decide) (by decide) (by decide) (by decide) dX1_init_15 (pq := 17) (n1 := n + 2) (ce1 := 2) (sl1 := 18) rfl rfl rfl rfl ?_
  refine wc_putF (ci := 1) (j := 1) hX hNm clX1 (by omega) (va_upn (by omega) (va_ups)) (by decide) k_239 rfl rfl rfl rfl (Nat.le_of_ble_eq_true rfl) dX1_init_17 (pq := 20) rfl (fs' := [.ref (G.2.2.2 + (n)), .ref (G.2.2.2 + (n + 1)), .int 0, .null]) rfl ?_
  refine wc_aload_n 0 hX dX1_init_20 rfl (pq := 21) rfl ?_
  refine wc_iconst (v := iI (0)) hX dX1_init_21 rfl (pq := 22) rfl ?_
  refine wc_putI (ci := 1) (j := 2) hX clX1 (by omega) (va_ups) (by decide) k_241 rfl rfl rfl (Nat.le_of_ble_eq_true rfl) dX1_init_22 (pq := 25) rfl (fs' := [.ref (G.2.2.2 + (n)), .ref (G.2.2.2 + (n + 1)), .int (iI (0)), .null]) rfl ?_
  refine wc_aload_n 0 hX dX1_init_25 rfl (pq := 26) rfl ?_
  refine wc_bipush (v := iI (9)) hX dX1_init_26 (by decide) (pq := 28) rfl ?_
  refine wc_newa (N' := 9) (a0 := (9, .inl (fun _ => 0))) .int 0 hX k_78 rfl rfl rfl (fun _ => rfl) (by decide) (by decide) (by decide) (by decide) (by decide) dX1_init_28 (pq := 30) (n1 := n + 3) (ce1 := 3) (sl1 := 27) rfl rfl rfl rfl ?_
  refine wc_putF (ci := 1) (j := 3) hX hNm clX1 (by omega) (va_upn (by omega) (va_ups)) (by decide) k_243 rfl rfl rfl rfl (Nat.le_of_ble_eq_true rfl) dX1_init_30 (pq := 33) rfl (fs' := [.ref (G.2.2.2 + (n)), .ref (G.2.2.2 + (n + 1)), .int (iI (0)), .ref (G.2.2.2 + (n + 2))]) rfl ?_
  exact wc_vret hX hNm hQ rfl rfl (by decide) (by decide) dX1_init_33
def eNum (G : wG) (n k0 : Nat) (E : Nat → va_E) : Nat → va_E := va_up (va_up (va_up (E) (n) (.inl (G.2.2.1 .int, 10, .inl (fun _ => 0)))) (k0) (.inr (3, [.ref (G.2.2.2 + (n)), .int 0]))) (k0) (.inr (3, [.ref (G.2.2.2 + (n)), .int (iI (0))]))
theorem eNum_off {G : wG} {n k0 j : Nat} {E : Nat → va_E} (h1 : j < n) (h2 : j ≠ k0) : eNum G n k0 E j = E j := va_upn (by omega) (va_upn (by omega) (va_upn (by omega) (rfl)))
set_option maxHeartbeats 8000000 in
set_option maxRecDepth 100000 in
theorem iNum {l : Launch} {G : wG} {n k0 : Nat} {E : Nat → va_E} (hk : k0 < n) (hE : E k0 = .inr (3, [.null, .int 0])) : wMetC l G yX3_init cX3_init 1 0 1 10 [.ref (G.2.2.2 + k0)] n E (n + 1) (eNum G n k0 E) := by
  refine wMetC_of (own := RX3) (by decide +kernel) rfl rfl (Nat.le_of_ble_eq_true rfl) ?_
  intro X hX hNm hQ hN
  show WC G X 0 0 0 [(0, .ref (G.2.2.2 + k0))] [] n E
  refine wc_aload_n 0 hX dX3_init_0 rfl (pq := 1) rfl ?_
  refine wc_obj hX k_258 k_27 k_28 (Nat.le_of_ble_eq_true rfl) dX3_init_1 (pq := 4) rfl ?_
  refine wc_aload_n 0 hX dX3_init_4 rfl (pq := 5) rfl ?_
  refine wc_bipush (v := iI (10)) hX dX3_init_5 (by decide) (pq := 7) rfl ?_
  refine wc_newa (N' := 10) (a0 := (10, .inl (fun _ => 0))) .int 0 hX k_78 rfl rfl rfl (fun _ => rfl) (by decide) (by decide) (by decide) (by decide) (by decide) dX3_init_7 (pq := 9) (n1 := n + 1) (ce1 := 1) (sl1 := 10) rfl rfl rfl rfl ?_
  refine wc_putF (ci := 3) (j := 0) hX hNm clX3 (by omega) (va_upn (by omega) (hE)) (by decide) k_259 rfl rfl rfl rfl (Nat.le_of_ble_eq_true rfl) dX3_init_9 (pq := 12) rfl (fs' := [.ref (G.2.2.2 + (n)), .int 0]) rfl ?_
  refine wc_aload_n 0 hX dX3_init_12 rfl (pq := 13) rfl ?_
  refine wc_iconst (v := iI (0)) hX dX3_init_13 rfl (pq := 14) rfl ?_
  refine wc_putI (ci := 3) (j := 1) hX clX3 (by omega) (va_ups) (by decide) k_261 rfl rfl rfl (Nat.le_of_ble_eq_true rfl) dX3_init_14 (pq := 17) rfl (fs' := [.ref (G.2.2.2 + (n)), .int (iI (0))]) rfl ?_
  exact wc_vret hX hNm hQ rfl rfl (by decide) (by decide) dX3_init_17
def eSn (G : wG) (n k0 : Nat) (E : Nat → va_E) : Nat → va_E := va_up (va_up (va_up (va_up (va_up (va_up (va_up (va_up (va_up (va_up (E) (n) (.inl (G.2.2.1 .int, 9, .inl (fun _ => 0)))) (k0) (.inr (8, [.ref (G.2.2.2 + (n)), .null, .null, .null, .int 0, .int 0]))) (n + 1) (.inl (G.2.2.1 .int, 9, .inl (fun _ => 0)))) (k0) (.inr (8, [.ref (G.2.2.2 + (n)), .ref (G.2.2.2 + (n + 1)), .null, .null, .int 0, .int 0]))) (n + 2) (.inl (G.2.2.1 .int, 9, .inl (fun _ => 0)))) (k0) (.inr (8, [.ref (G.2.2.2 + (n)), .ref (G.2.2.2 + (n + 1)), .ref (G.2.2.2 + (n + 2)), .null, .int 0, .int 0]))) (n + 3) (.inl (G.2.2.1 .int, 3, .inl (fun _ => 0)))) (k0) (.inr (8, [.ref (G.2.2.2 + (n)), .ref (G.2.2.2 + (n + 1)), .ref (G.2.2.2 + (n + 2)), .ref (G.2.2.2 + (n + 3)), .int 0, .int 0]))) (k0) (.inr (8, [.ref (G.2.2.2 + (n)), .ref (G.2.2.2 + (n + 1)), .ref (G.2.2.2 + (n + 2)), .ref (G.2.2.2 + (n + 3)), .int (iI (0)), .int 0]))) (k0) (.inr (8, [.ref (G.2.2.2 + (n)), .ref (G.2.2.2 + (n + 1)), .ref (G.2.2.2 + (n + 2)), .ref (G.2.2.2 + (n + 3)), .int (iI (0)), .int (iI (-1))]))
theorem eSn_off {G : wG} {n k0 j : Nat} {E : Nat → va_E} (h1 : j < n) (h2 : j ≠ k0) : eSn G n k0 E j = E j := va_upn (by omega) (va_upn (by omega) (va_upn (by omega) (va_upn (by omega) (va_upn (by omega) (va_upn (by omega) (va_upn (by omega) (va_upn (by omega) (va_upn (by omega) (va_upn (by omega) (rfl))))))))))
set_option maxHeartbeats 8000000 in
set_option maxRecDepth 100000 in
theorem iSn {l : Launch} {G : wG} {n k0 : Nat} {E : Nat → va_E} (hk : k0 < n) (hE : E k0 = .inr (8, [.null, .null, .null, .null, .int 0, .int 0])) : wMetC l G yX8_init cX8_init 1 0 4 30 [.ref (G.2.2.2 + k0)] n E (n + 4) (eSn G n k0 E) := by
  refine wMetC_of (own := RX8) (by decide +kernel) rfl rfl (Nat.le_of_ble_eq_true rfl) ?_
  intro X hX hNm hQ hN
  show WC G X 0 0 0 [(0, .ref (G.2.2.2 + k0))] [] n E
  refine wc_aload_n 0 hX dX8_init_0 rfl (pq := 1) rfl ?_
  refine wc_obj hX k_280 k_27 k_28 (Nat.le_of_ble_eq_true rfl) dX8_init_1 (pq := 4) rfl ?_
  refine wc_aload_n 0 hX dX8_init_4 rfl (pq := 5) rfl ?_
  refine wc_bipush (v := iI (9)) hX dX8_init_5 (by decide) (pq := 7) rfl ?_
  refine wc_newa (N' := 9) (a0 := (9, .inl (fun _ => 0))) .int 0 hX k_78 rfl rfl rfl (fun _ => rfl) (by decide) (by decide) (by decide) (by decide) (by decide) dX8_init_7 (pq := 9) (n1 := n + 1) (ce1 := 1) (sl1 := 9) rfl rfl rfl rfl ?_
  refine wc_putF (ci := 8) (j := 0) hX hNm clX8 (by omega) (va_upn (by omega) (hE)) (by decide) k_281 rfl rfl rfl rfl (Nat.le_of_ble_eq_true rfl) dX8_init_9 (pq := 12) rfl (fs' := [.ref (G.2.2.2 + (n)), .null, .null, .null, .int 0, .int 0]) rfl ?_
  refine wc_aload_n 0 hX dX8_init_12 rfl (pq := 13) rfl ?_
  refine wc_bipush (v := iI (9)) hX dX8_init_13 (by decide) (pq := 15) rfl ?_
  refine wc_newa (N' := 9) (a0 := (9, .inl (fun _ => 0))) .int 0 hX k_78 rfl rfl rfl (fun _ => rfl) (by decide) (by decide) (by decide) (by decide) (by decide) dX8_init_15 (pq := 17) (n1 := n + 2) (ce1 := 2) (sl1 := 18) rfl rfl rfl rfl ?_
  refine wc_putF (ci := 8) (j := 1) hX hNm clX8 (by omega) (va_upn (by omega) (va_ups)) (by decide) k_282 rfl rfl rfl rfl (Nat.le_of_ble_eq_true rfl) dX8_init_17 (pq := 20) rfl (fs' := [.ref (G.2.2.2 + (n)), .ref (G.2.2.2 + (n + 1)), .null, .null, .int 0, .int 0]) rfl ?_
  refine wc_aload_n 0 hX dX8_init_20 rfl (pq := 21) rfl ?_
  refine wc_bipush (v := iI (9)) hX dX8_init_21 (by decide) (pq := 23) rfl ?_
  refine wc_newa (N' := 9) (a0 := (9, .inl (fun _ => 0))) .int 0 hX k_78 rfl rfl rfl (fun _ => rfl) (by decide) (by decide) (by decide) (by decide) (by decide) dX8_init_23 (pq := 25) (n1 := n + 3) (ce1 := 3) (sl1 := 27) rfl rfl rfl rfl ?_
  refine wc_putF (ci := 8) (j := 2) hX hNm clX8 (by omega) (va_upn (by omega) (va_ups)) (by decide) k_283 rfl rfl rfl rfl (Nat.le_of_ble_eq_true rfl) dX8_init_25 (pq := 28) rfl (fs' := [.ref (G.2.2.2 + (n)), .ref (G.2.2.2 + (n + 1)), .ref (G.2.2.2 + (n + 2)), .null, .int 0, .int 0]) rfl ?_
  refine wc_aload_n 0 hX dX8_init_28 rfl (pq := 29) rfl ?_
  refine wc_iconst (v := iI (3)) hX dX8_init_29 rfl (pq := 30) rfl ?_
  refine wc_newa (N' := 3) (a0 := (3, .inl (fun _ => 0))) .int 0 hX k_78 rfl rfl rfl (fun _ => rfl) (by decide) (by decide) (by decide) (by decide) (by decide) dX8_init_30 (pq := 32) (n1 := n + 4) (ce1 := 4) (sl1 := 30) rfl rfl rfl rfl ?_
  refine wc_putF (ci := 8) (j := 3) hX hNm clX8 (by omega) (va_upn (by omega) (va_ups)) (by decide) k_284 rfl rfl rfl rfl (Nat.le_of_ble_eq_true rfl) dX8_init_32 (pq := 35) rfl (fs' := [.ref (G.2.2.2 + (n)), .ref (G.2.2.2 + (n + 1)), .ref (G.2.2.2 + (n + 2)), .ref (G.2.2.2 + (n + 3)), .int 0, .int 0]) rfl ?_
  refine wc_aload_n 0 hX dX8_init_35 rfl (pq := 36) rfl ?_
  refine wc_iconst (v := iI (0)) hX dX8_init_36 rfl (pq := 37) rfl ?_
  refine wc_putI (ci := 8) (j := 4) hX clX8 (by omega) (va_ups) (by decide) k_285 rfl rfl rfl (Nat.le_of_ble_eq_true rfl) dX8_init_37 (pq := 40) rfl (fs' := [.ref (G.2.2.2 + (n)), .ref (G.2.2.2 + (n + 1)), .ref (G.2.2.2 + (n + 2)), .ref (G.2.2.2 + (n + 3)), .int (iI (0)), .int 0]) rfl ?_
  refine wc_aload_n 0 hX dX8_init_40 rfl (pq := 41) rfl ?_
  refine wc_iconst (v := iI (-1)) hX dX8_init_41 rfl (pq := 42) rfl ?_
  refine wc_putI (ci := 8) (j := 5) hX clX8 (by omega) (va_ups) (by decide) k_286 rfl rfl rfl (Nat.le_of_ble_eq_true rfl) dX8_init_42 (pq := 45) rfl (fs' := [.ref (G.2.2.2 + (n)), .ref (G.2.2.2 + (n + 1)), .ref (G.2.2.2 + (n + 2)), .ref (G.2.2.2 + (n + 3)), .int (iI (0)), .int (iI (-1))]) rfl ?_
  exact wc_vret hX hNm hQ rfl rfl (by decide) (by decide) dX8_init_45
def eSi (G : wG) (n k0 : Nat) (E : Nat → va_E) : Nat → va_E := va_up (va_up (va_up (va_up (va_up (E) (k0) (.inr (7, [.int (iI (0)), .null, .null]))) (n) (.inl (G.2.2.1 .int, 10, .inl (fun _ => 0)))) (k0) (.inr (7, [.int (iI (0)), .ref (G.2.2.2 + (n)), .null]))) (n + 1) (.inl (G.2.2.1 .int, 10, .inl (fun _ => 0)))) (k0) (.inr (7, [.int (iI (0)), .ref (G.2.2.2 + (n)), .ref (G.2.2.2 + (n + 1))]))
theorem eSi_off {G : wG} {n k0 j : Nat} {E : Nat → va_E} (h1 : j < n) (h2 : j ≠ k0) : eSi G n k0 E j = E j := va_upn (by omega) (va_upn (by omega) (va_upn (by omega) (va_upn (by omega) (va_upn (by omega) (rfl)))))
set_option maxHeartbeats 8000000 in
set_option maxRecDepth 100000 in
theorem iSi {l : Launch} {G : wG} {n k0 : Nat} {E : Nat → va_E} (hk : k0 < n) (hE : E k0 = .inr (7, [.int 0, .null, .null])) : wMetC l G yX7_init cX7_init 1 0 2 20 [.ref (G.2.2.2 + k0)] n E (n + 2) (eSi G n k0 E) := by
  refine wMetC_of (own := RX7) (by decide +kernel) rfl rfl (Nat.le_of_ble_eq_true rfl) ?_
  intro X hX hNm hQ hN
  show WC G X 0 0 0 [(0, .ref (G.2.2.2 + k0))] [] n E
  refine wc_aload_n 0 hX dX7_init_0 rfl (pq := 1) rfl ?_
  refine wc_obj hX k_318 k_27 k_28 (Nat.le_of_ble_eq_true rfl) dX7_init_1 (pq := 4) rfl ?_
  refine wc_aload_n 0 hX dX7_init_4 rfl (pq := 5) rfl ?_
  refine wc_iconst (v := iI (0)) hX dX7_init_5 rfl (pq := 6) rfl ?_
  refine wc_putI (ci := 7) (j := 0) hX clX7 (by omega) (hE) (by decide) k_319 rfl rfl rfl (Nat.le_of_ble_eq_true rfl) dX7_init_6 (pq := 9) rfl (fs' := [.int (iI (0)), .null, .null]) rfl ?_
  refine wc_aload_n 0 hX dX7_init_9 rfl (pq := 10) rfl ?_
  refine wc_bipush (v := iI (10)) hX dX7_init_10 (by decide) (pq := 12) rfl ?_
  refine wc_newa (N' := 10) (a0 := (10, .inl (fun _ => 0))) .int 0 hX k_78 rfl rfl rfl (fun _ => rfl) (by decide) (by decide) (by decide) (by decide) (by decide) dX7_init_12 (pq := 14) (n1 := n + 1) (ce1 := 1) (sl1 := 10) rfl rfl rfl rfl ?_
  refine wc_putF (ci := 7) (j := 1) hX hNm clX7 (by omega) (va_upn (by omega) (va_ups)) (by decide) k_321 rfl rfl rfl rfl (Nat.le_of_ble_eq_true rfl) dX7_init_14 (pq := 17) rfl (fs' := [.int (iI (0)), .ref (G.2.2.2 + (n)), .null]) rfl ?_
  refine wc_aload_n 0 hX dX7_init_17 rfl (pq := 18) rfl ?_
  refine wc_bipush (v := iI (10)) hX dX7_init_18 (by decide) (pq := 20) rfl ?_
  refine wc_newa (N' := 10) (a0 := (10, .inl (fun _ => 0))) .int 0 hX k_78 rfl rfl rfl (fun _ => rfl) (by decide) (by decide) (by decide) (by decide) (by decide) dX7_init_20 (pq := 22) (n1 := n + 2) (ce1 := 2) (sl1 := 20) rfl rfl rfl rfl ?_
  refine wc_putF (ci := 7) (j := 2) hX hNm clX7 (by omega) (va_upn (by omega) (va_ups)) (by decide) k_322 rfl rfl rfl rfl (Nat.le_of_ble_eq_true rfl) dX7_init_22 (pq := 25) rfl (fs' := [.int (iI (0)), .ref (G.2.2.2 + (n)), .ref (G.2.2.2 + (n + 1))]) rfl ?_
  exact wc_vret hX hNm hQ rfl rfl (by decide) (by decide) dX7_init_25
def ringF (G : wG) (m0 i : Nat) : Nat → Option Nat := fun j => if j < i then some (G.2.2.2 + (m0 + 5 * j)) else none
theorem ringF_succ {G : wG} {m0 i : Nat} : va_up (ringF G m0 i) i (some (G.2.2.2 + (m0 + 5 * i))) = ringF G m0 (i + 1) := by
  funext j
  unfold va_up ringF
  by_cases h1 : j = i
  · subst h1; simp
  · by_cases h2 : j < i
    · rw [if_neg h1, if_pos h2, if_pos (by omega)]
    · rw [if_neg h1, if_neg h2, if_neg (by omega)]
def eSnaps (G : wG) (E : Nat → va_E) (rg N m0 : Nat) : Nat → (Nat → va_E)
  | 0 => E
  | i + 1 => va_up (eSn G (m0 + 5 * i + 1) (m0 + 5 * i) (va_up (eSnaps G E rg N m0 i) (m0 + 5 * i) (.inr (8, [.null, .null, .null, .null, .int 0, .int 0])))) rg (.inl (G.2.2.1 wSn, N, .inr (.inr (.inr (.inr (ringF G m0 (i + 1)))))))
theorem eSnaps_off {G : wG} {E : Nat → va_E} {rg N m0 j : Nat} (i : Nat) (hk : j < m0) (hne : j ≠ rg) : eSnaps G E rg N m0 i j = E j := by
  induction i with
  | zero => rfl
  | succ i ih => exact va_upn hne ((eSn_off (by omega) (by omega)).trans (va_upn (by omega) ih))
theorem eSnaps_rg {G : wG} {E : Nat → va_E} {rg N m0 : Nat} (hR : E rg = .inl (G.2.2.1 wSn, N, .inr (.inr (.inr (.inr (fun _ => none)))))) (i : Nat) : eSnaps G E rg N m0 i rg = .inl (G.2.2.1 wSn, N, .inr (.inr (.inr (.inr (ringF G m0 i))))) := by
  cases i with
  | zero =>
    have e : ringF G m0 0 = fun _ => none := by funext j; simp [ringF]
    rw [e]
    exact hR
  | succ i => exact va_ups
def snF (G : wG) (q : Nat) : List Value := [.ref (G.2.2.2 + q), .ref (G.2.2.2 + (q + 1)), .ref (G.2.2.2 + (q + 2)), .ref (G.2.2.2 + (q + 3)), .int (iI 0), .int (iI (-1))]
theorem eSn_at {G : wG} {n k0 : Nat} {E : Nat → va_E} : eSn G n k0 E k0 = .inr (8, snF G n) := va_ups

theorem mi_277 : wMi RX4 24 yX8_init cX8_init 1 := ⟨Or.inr ⟨_, k_277⟩, k_278, k_11, k_279, rfl, by decide +kernel⟩
set_option maxHeartbeats 8000000 in
set_option maxRecDepth 100000 in
theorem iPa_L {G : wG} {X : wX} {k0 rg m0 : Nat} {E : Nat → va_E} {fs : List Value} (hX : wOC G X cX4_init RX4 1 106 777) (hNm : wNm X) (hQ : wRc G X 106 777 (wQc G (m0 + 105) (eSnaps G E rg 21 m0 21))) (hN : wNl X = 2) (hk : k0 < m0) (hr : rg < m0) (hkr : k0 ≠ rg) (hE : E k0 = .inr (4, fs)) (hfs : fs[1]? = some (.ref (G.2.2.2 + rg))) (hR : E rg = .inl (G.2.2.1 wSn, 21, .inr (.inr (.inr (.inr (fun _ => none)))))) : ∀ (r i : Nat), i + r = 21 → WC G X (1 + 5 * i) (21 + 36 * i) 25 [(0, .ref (G.2.2.2 + k0)), (1, .int (nI i))] [] (m0 + 5 * i) (eSnaps G E rg 21 m0 i) := by
  intro r
  induction r with
  | zero =>
    intro i hi
    have e : i = 21 := by omega
    subst e
    refine wc_iload_n 1 hX dX4_init_25 rfl (pq := 26) rfl ?_
    refine wc_bipush (v := nI 21) hX dX4_init_26 (by decide) (pq := 28) rfl ?_
    refine wc_icmp_ge (tgt := 50) hX dX4_init_28 (by decide) (fun _ => ?_) (pq := 31) rfl (fun c => absurd (nI_le (Nat.le_refl 21) (by decide)) c)
    exact wc_vret hX hNm hQ rfl rfl (by decide) (by decide) dX4_init_50
  | succ r ih =>
    intro i hi
    refine wc_iload_n 1 hX dX4_init_25 rfl (pq := 26) rfl ?_
    refine wc_bipush (v := nI 21) hX dX4_init_26 (by decide) (pq := 28) rfl ?_
    refine wc_icmp_ge (tgt := 50) hX dX4_init_28 (by decide) (fun c => absurd c (nI_ge (by omega) (by decide))) (pq := 31) rfl (fun _ => ?_)
    refine wc_aload_n 0 hX dX4_init_31 rfl (pq := 32) rfl ?_
    refine wc_get (ci := 4) (j := 1) hX clX4 (by omega) ((eSnaps_off i hk hkr).trans hE) (by decide) k_303 hfs dX4_init_32 (pq := 35) rfl ?_
    refine wc_iload_n 1 hX dX4_init_35 rfl (pq := 36) rfl ?_
    refine wc_new (ci := 8) (fs := [.null, .null, .null, .null, .int 0, .int 0]) hX clX8 k_274 k_276 k_11 dfX8 (by omega) (by omega) dX4_init_36 (pq := 39) rfl rfl rfl rfl ?_
    refine wc_dup hX dX4_init_39 rfl (pq := 40) rfl ?_
    refine wc_callI (n1 := m0 + 5 * i + 1 + 4) hX mi_277 (iSn (n := m0 + 5 * i + 1) (k0 := m0 + 5 * i) (by omega) va_ups) (by decide) rfl (by omega) (by omega) (Nat.le_of_ble_eq_true rfl) dX4_init_40 (pq := 43) rfl rfl rfl ?_
    refine wc_aast (N := 21) (f := ringF G m0 i) (vs := snF G (m0 + 5 * i + 1)) hX (by omega) ((eSn_off (by omega) (by omega)).trans (va_upn (by omega) (eSnaps_rg hR i))) (by omega) eSn_at (vp_in_nI (by omega) (by decide)) dX4_init_43 (pq := 44) rfl ?_
    rw [nI_clamp (by omega), ringF_succ]
    refine wc_iinc (v := nI (i + 1)) (loc' := [(1, .int (nI (i + 1))), (0, .ref (G.2.2.2 + k0))]) 1 hX hN dX4_init_44 rfl (nI_1 i) (by decide) rfl (pq := 47) rfl ?_
    refine wc_goto (tgt := 25) hX dX4_init_47 (by decide) ?_
    refine wc_sub [1, 0] (loc' := [(0, .ref (G.2.2.2 + k0)), (1, .int (nI (i + 1)))]) rfl ?_
    have h := ih (i + 1) (by omega)
    rw [show 1 + 5 * (i + 1) = 1 + 5 * i + 1 + 4 by omega, show 21 + 36 * (i + 1) = 21 + 36 * i + 6 + 30 by omega, show m0 + 5 * (i + 1) = m0 + 5 * i + 1 + 4 by omega] at h
    exact h
def ePa0 (G : wG) (n k0 : Nat) (E : Nat → va_E) : Nat → va_E := va_up (va_up (va_up (va_up E k0 (.inr (4, [.int (iI 0), .null, .int 0]))) n (.inl (G.2.2.1 wSn, 21, .inr (.inr (.inr (.inr (fun _ => none))))))) k0 (.inr (4, [.int (iI 0), .ref (G.2.2.2 + n), .int 0]))) k0 (.inr (4, [.int (iI 0), .ref (G.2.2.2 + n), .int (iI 0)]))
def ePa (G : wG) (n k0 : Nat) (E : Nat → va_E) : Nat → va_E := eSnaps G (ePa0 G n k0 E) n 21 (n + 1) 21
theorem ePa_off {G : wG} {n k0 j : Nat} {E : Nat → va_E} (h1 : j < n) (h2 : j ≠ k0) : ePa G n k0 E j = E j := (eSnaps_off 21 (by omega) (by omega)).trans (va_upn (by omega) (va_upn (by omega) (va_upn (by omega) (va_upn (by omega) rfl))))
set_option maxHeartbeats 8000000 in
set_option maxRecDepth 100000 in
theorem iPa {l : Launch} {G : wG} {n k0 : Nat} {E : Nat → va_E} (hk : k0 < n) (hE : E k0 = .inr (4, [.int 0, .null, .int 0])) : wMetC l G yX4_init cX4_init 2 1 106 777 [.ref (G.2.2.2 + k0)] n E (n + 106) (ePa G n k0 E) := by
  refine wMetC_of (own := RX4) (by decide +kernel) rfl rfl (Nat.le_of_ble_eq_true rfl) ?_
  intro X hX hNm hQ hN
  show WC G X 0 0 0 [(0, .ref (G.2.2.2 + k0))] [] n E
  refine wc_aload_n 0 hX dX4_init_0 rfl (pq := 1) rfl ?_
  refine wc_obj hX k_273 k_27 k_28 (Nat.le_of_ble_eq_true rfl) dX4_init_1 (pq := 4) rfl ?_
  refine wc_aload_n 0 hX dX4_init_4 rfl (pq := 5) rfl ?_
  refine wc_iconst (v := iI 0) hX dX4_init_5 rfl (pq := 6) rfl ?_
  refine wc_putI (ci := 4) (j := 0) hX clX4 (by omega) hE (by decide) k_301 rfl rfl rfl (Nat.le_of_ble_eq_true rfl) dX4_init_6 (pq := 9) rfl (fs' := [.int (iI 0), .null, .int 0]) rfl ?_
  refine wc_aload_n 0 hX dX4_init_9 rfl (pq := 10) rfl ?_
  refine wc_bipush (v := iI 21) hX dX4_init_10 (by decide) (pq := 12) rfl ?_
  refine wc_newq (N' := 21) hX k_274 (by decide) (by decide) (by decide) (by decide) (by decide) dX4_init_12 (pq := 15) (n1 := n + 1) (ce1 := 1) (sl1 := 21) rfl rfl rfl rfl ?_
  refine wc_putF (ci := 4) (j := 1) hX hNm clX4 (by omega) (va_upn (by omega) va_ups) (by decide) k_303 rfl rfl rfl rfl (Nat.le_of_ble_eq_true rfl) dX4_init_15 (pq := 18) rfl (fs' := [.int (iI 0), .ref (G.2.2.2 + n), .int 0]) rfl ?_
  refine wc_aload_n 0 hX dX4_init_18 rfl (pq := 19) rfl ?_
  refine wc_iconst (v := iI 0) hX dX4_init_19 rfl (pq := 20) rfl ?_
  refine wc_putI (ci := 4) (j := 2) hX clX4 (by omega) va_ups (by decide) k_304 rfl rfl rfl (Nat.le_of_ble_eq_true rfl) dX4_init_20 (pq := 23) rfl (fs' := [.int (iI 0), .ref (G.2.2.2 + n), .int (iI 0)]) rfl ?_
  refine wc_iconst (v := nI 0) hX dX4_init_23 (by decide) (pq := 24) rfl ?_
  refine wc_istore_n (loc' := [(1, .int (nI 0)), (0, .ref (G.2.2.2 + k0))]) hX hN dX4_init_24 (by decide) rfl (pq := 25) rfl ?_
  refine wc_sub [1, 0] (loc' := [(0, .ref (G.2.2.2 + k0)), (1, .int (nI 0))]) rfl ?_
  have h := iPa_L (E := ePa0 G n k0 E) (rg := n) (m0 := n + 1) (k0 := k0) hX hNm (by rw [show n + 1 + 105 = n + 106 by omega]; exact hQ) hN (by omega) (by omega) (by omega) va_ups rfl (va_upn (by omega) (va_upn (by omega) va_ups)) 21 0 (by omega)
  exact h
theorem mi_31 : wMi RX10 11 yX9_init cX9_init 1 := ⟨Or.inr ⟨_, k_31⟩, k_32, k_2, k_33, rfl, by decide +kernel⟩
theorem mi_48 : wMi RX10 18 yX5_init cX5_init 1 := ⟨Or.inr ⟨_, k_48⟩, k_49, k_3, k_50, rfl, by decide +kernel⟩
theorem mi_81 : wMi RX10 25 yX2_init cX2_init 1 := ⟨Or.inl k_81, k_82, k_4, k_83, rfl, by decide +kernel⟩
theorem mi_131 : wMi RX10 32 yX0_init cX0_init 1 := ⟨Or.inr ⟨_, k_131⟩, k_132, k_6, k_133, rfl, by decide +kernel⟩
theorem mi_190 : wMi RX10 39 yX6_init cX6_init 1 := ⟨Or.inr ⟨_, k_190⟩, k_191, k_7, k_192, rfl, by decide +kernel⟩
theorem mi_233 : wMi RX10 46 yX1_init cX1_init 1 := ⟨Or.inr ⟨_, k_233⟩, k_234, k_8, k_235, rfl, by decide +kernel⟩
theorem mi_255 : wMi RX10 53 yX3_init cX3_init 1 := ⟨Or.inr ⟨_, k_255⟩, k_256, k_9, k_257, rfl, by decide +kernel⟩
theorem mi_270 : wMi RX10 60 yX4_init cX4_init 2 := ⟨Or.inl k_270, k_271, k_10, k_272, rfl, by decide +kernel⟩
theorem mi_315 : wMi RX10 73 yX7_init cX7_init 1 := ⟨Or.inr ⟨_, k_315⟩, k_316, k_12, k_317, rfl, by decide +kernel⟩
theorem wc_name {G : wG} {X : wX} {ce sl pc n : Nat} {loc : List (Nat × Value)} {st : List Value} {E e : Nat → va_E} (h : E = e) (k : WC G X ce sl pc loc st n e) : WC G X ce sl pc loc st n E := h ▸ k
def eW1 (G : wG) (n k0 : Nat) (E : Nat → va_E) : Nat → va_E := va_up (eTx G (n + 1) (n) (va_up (E) (n) (.inr (9, [.null, .int 0])))) k0 (.inr (10, [.ref (G.2.2.2 + (n)), .null, .null, .null, .null, .null, .null, .null, .null, .null, .null]))
def eW2 (G : wG) (n k0 : Nat) (E : Nat → va_E) : Nat → va_E := va_up (eRd G (n + 3) (n + 2) (va_up (eW1 G n k0 E) (n + 2) (.inr (5, [.null, .null, .null, .int 0, .int 0, .int 0, .int 0])))) k0 (.inr (10, [.ref (G.2.2.2 + (n)), .ref (G.2.2.2 + (n + 2)), .null, .null, .null, .null, .null, .null, .null, .null, .null]))
def eW3 (G : wG) (n k0 : Nat) (E : Nat → va_E) : Nat → va_E := va_up (eLand G (n + 7) (n + 6) (va_up (eW2 G n k0 E) (n + 6) (.inr (2, [.null, .null, .null, .null, .int 0, .int 0, .null])))) k0 (.inr (10, [.ref (G.2.2.2 + (n)), .ref (G.2.2.2 + (n + 2)), .ref (G.2.2.2 + (n + 6)), .null, .null, .null, .null, .null, .null, .null, .null]))
def eW4 (G : wG) (n k0 : Nat) (E : Nat → va_E) : Nat → va_E := va_up (eAh G (n + 13) (n + 12) (va_up (eW3 G n k0 E) (n + 12) (.inr (0, [.null, .null, .null, .null, .null, .null, .int 0, .int 0, .int 0, .null, .null, .null, .int 0, .int 0])))) k0 (.inr (10, [.ref (G.2.2.2 + (n)), .ref (G.2.2.2 + (n + 2)), .ref (G.2.2.2 + (n + 6)), .ref (G.2.2.2 + (n + 12)), .null, .null, .null, .null, .null, .null, .null]))
def eW5 (G : wG) (n k0 : Nat) (E : Nat → va_E) : Nat → va_E := va_up (eSe G (n + 23) (n + 22) (va_up (eW4 G n k0 E) (n + 22) (.inr (6, [.null, .int 0, .null, .int 0, .null, .null, .int 0, .int 0, .int 0, .int 0, .int 0])))) k0 (.inr (10, [.ref (G.2.2.2 + (n)), .ref (G.2.2.2 + (n + 2)), .ref (G.2.2.2 + (n + 6)), .ref (G.2.2.2 + (n + 12)), .ref (G.2.2.2 + (n + 22)), .null, .null, .null, .null, .null, .null]))
def eW6 (G : wG) (n k0 : Nat) (E : Nat → va_E) : Nat → va_E := va_up (eGr G (n + 28) (n + 27) (va_up (eW5 G n k0 E) (n + 27) (.inr (1, [.null, .null, .int 0, .null])))) k0 (.inr (10, [.ref (G.2.2.2 + (n)), .ref (G.2.2.2 + (n + 2)), .ref (G.2.2.2 + (n + 6)), .ref (G.2.2.2 + (n + 12)), .ref (G.2.2.2 + (n + 22)), .ref (G.2.2.2 + (n + 27)), .null, .null, .null, .null, .null]))
def eW7 (G : wG) (n k0 : Nat) (E : Nat → va_E) : Nat → va_E := va_up (eNum G (n + 32) (n + 31) (va_up (eW6 G n k0 E) (n + 31) (.inr (3, [.null, .int 0])))) k0 (.inr (10, [.ref (G.2.2.2 + (n)), .ref (G.2.2.2 + (n + 2)), .ref (G.2.2.2 + (n + 6)), .ref (G.2.2.2 + (n + 12)), .ref (G.2.2.2 + (n + 22)), .ref (G.2.2.2 + (n + 27)), .ref (G.2.2.2 + (n + 31)), .null, .null, .null, .null]))
def eW8 (G : wG) (n k0 : Nat) (E : Nat → va_E) : Nat → va_E := va_up (ePa G (n + 34) (n + 33) (va_up (eW7 G n k0 E) (n + 33) (.inr (4, [.int 0, .null, .int 0])))) k0 (.inr (10, [.ref (G.2.2.2 + (n)), .ref (G.2.2.2 + (n + 2)), .ref (G.2.2.2 + (n + 6)), .ref (G.2.2.2 + (n + 12)), .ref (G.2.2.2 + (n + 22)), .ref (G.2.2.2 + (n + 27)), .ref (G.2.2.2 + (n + 31)), .ref (G.2.2.2 + (n + 33)), .null, .null, .null]))
def eW9 (G : wG) (n k0 : Nat) (E : Nat → va_E) : Nat → va_E := va_up (va_up (eW8 G n k0 E) (n + 140) (.inl (G.2.2.1 wSn, 3, .inr (.inr (.inr (.inr (fun _ => none))))))) k0 (.inr (10, [.ref (G.2.2.2 + (n)), .ref (G.2.2.2 + (n + 2)), .ref (G.2.2.2 + (n + 6)), .ref (G.2.2.2 + (n + 12)), .ref (G.2.2.2 + (n + 22)), .ref (G.2.2.2 + (n + 27)), .ref (G.2.2.2 + (n + 31)), .ref (G.2.2.2 + (n + 33)), .ref (G.2.2.2 + (n + 140)), .null, .null]))
def eW10 (G : wG) (n k0 : Nat) (E : Nat → va_E) : Nat → va_E := va_up (eSi G (n + 142) (n + 141) (va_up (eW9 G n k0 E) (n + 141) (.inr (7, [.int 0, .null, .null])))) k0 (.inr (10, [.ref (G.2.2.2 + (n)), .ref (G.2.2.2 + (n + 2)), .ref (G.2.2.2 + (n + 6)), .ref (G.2.2.2 + (n + 12)), .ref (G.2.2.2 + (n + 22)), .ref (G.2.2.2 + (n + 27)), .ref (G.2.2.2 + (n + 31)), .ref (G.2.2.2 + (n + 33)), .ref (G.2.2.2 + (n + 140)), .ref (G.2.2.2 + (n + 141)), .null]))
def eW11 (G : wG) (n k0 : Nat) (E : Nat → va_E) : Nat → va_E := va_up (va_up (eW10 G n k0 E) (n + 144) (.inl (G.2.2.1 .int, 200, .inl (fun _ => 0)))) k0 (.inr (10, [.ref (G.2.2.2 + (n)), .ref (G.2.2.2 + (n + 2)), .ref (G.2.2.2 + (n + 6)), .ref (G.2.2.2 + (n + 12)), .ref (G.2.2.2 + (n + 22)), .ref (G.2.2.2 + (n + 27)), .ref (G.2.2.2 + (n + 31)), .ref (G.2.2.2 + (n + 33)), .ref (G.2.2.2 + (n + 140)), .ref (G.2.2.2 + (n + 141)), .ref (G.2.2.2 + (n + 144))]))
theorem mi_330 : wMi RX10 82 yX8_init cX8_init 1 := ⟨Or.inr ⟨_, k_330⟩, k_278, k_11, k_279, rfl, by decide +kernel⟩
set_option maxHeartbeats 8000000 in
set_option maxRecDepth 100000 in
theorem iW_L {G : wG} {X : wX} {k0 rg m0 : Nat} {E : Nat → va_E} {fs : List Value} (hX : wOC G X cX10_init RX10 2 160 6890) (hNm : wNm X) (hQ : wRc G X 160 6890 (wQc G (m0 + 15) (eSnaps G E rg 3 m0 3))) (hN : wNl X = 2) (hk : k0 < m0) (hr : rg < m0) (hkr : k0 ≠ rg) (hE : E k0 = .inr (10, fs)) (hfs : fs[8]? = some (.ref (G.2.2.2 + rg))) (hR : E rg = .inl (G.2.2.1 wSn, 3, .inr (.inr (.inr (.inr (fun _ => none)))))) : ∀ (r i : Nat), i + r = 3 → WC G X (145 + 5 * i) (6782 + 36 * i) 122 [(0, .ref (G.2.2.2 + k0)), (1, .int (nI i))] [] (m0 + 5 * i) (eSnaps G E rg 3 m0 i) := by
  intro r
  induction r with
  | zero =>
    intro i hi
    have e : i = 3 := by omega
    subst e
    refine wc_iload_n 1 hX dX10_init_122 rfl (pq := 123) rfl ?_
    refine wc_iconst (v := nI 3) hX dX10_init_123 (by decide) (pq := 124) rfl ?_
    refine wc_icmp_ge (tgt := 146) hX dX10_init_124 (by decide) (fun _ => ?_) (pq := 127) rfl (fun c => absurd (nI_le (Nat.le_refl 3) (by decide)) c)
    exact wc_vret hX hNm hQ rfl rfl (by decide) (by decide) dX10_init_146
  | succ r ih =>
    intro i hi
    refine wc_iload_n 1 hX dX10_init_122 rfl (pq := 123) rfl ?_
    refine wc_iconst (v := nI 3) hX dX10_init_123 (by decide) (pq := 124) rfl ?_
    refine wc_icmp_ge (tgt := 146) hX dX10_init_124 (by decide) (fun c => absurd c (nI_ge (by omega) (by decide))) (pq := 127) rfl (fun _ => ?_)
    refine wc_aload_n 0 hX dX10_init_127 rfl (pq := 128) rfl ?_
    refine wc_get (ci := 10) (j := 8) hX clX10 (by omega) ((eSnaps_off i hk hkr).trans hE) (by decide) k_339 hfs dX10_init_128 (pq := 131) rfl ?_
    refine wc_iload_n 1 hX dX10_init_131 rfl (pq := 132) rfl ?_
    refine wc_new (ci := 8) (fs := [.null, .null, .null, .null, .int 0, .int 0]) hX clX8 k_312 k_276 k_11 dfX8 (by omega) (by omega) dX10_init_132 (pq := 135) rfl rfl rfl rfl ?_
    refine wc_dup hX dX10_init_135 rfl (pq := 136) rfl ?_
    refine wc_callI (n1 := m0 + 5 * i + 1 + 4) hX mi_330 (iSn (n := m0 + 5 * i + 1) (k0 := m0 + 5 * i) (by omega) va_ups) (by decide) rfl (by omega) (by omega) (Nat.le_of_ble_eq_true rfl) dX10_init_136 (pq := 139) rfl rfl rfl ?_
    refine wc_aast (N := 3) (f := ringF G m0 i) (vs := snF G (m0 + 5 * i + 1)) hX (by omega) ((eSn_off (by omega) (by omega)).trans (va_upn (by omega) (eSnaps_rg hR i))) (by omega) eSn_at (vp_in_nI (by omega) (by decide)) dX10_init_139 (pq := 140) rfl ?_
    rw [nI_clamp (by omega), ringF_succ]
    refine wc_iinc (v := nI (i + 1)) (loc' := [(1, .int (nI (i + 1))), (0, .ref (G.2.2.2 + k0))]) 1 hX hN dX10_init_140 rfl (nI_1 i) (by decide) rfl (pq := 143) rfl ?_
    refine wc_goto (tgt := 122) hX dX10_init_143 (by decide) ?_
    refine wc_sub [1, 0] (loc' := [(0, .ref (G.2.2.2 + k0)), (1, .int (nI (i + 1)))]) rfl ?_
    have h := ih (i + 1) (by omega)
    rw [show 145 + 5 * (i + 1) = 145 + 5 * i + 1 + 4 by omega, show 6782 + 36 * (i + 1) = 6782 + 36 * i + 6 + 30 by omega, show m0 + 5 * (i + 1) = m0 + 5 * i + 1 + 4 by omega] at h
    exact h
def eW (G : wG) (n k0 : Nat) (E : Nat → va_E) : Nat → va_E := eSnaps G (eW11 G n k0 E) (n + 140) 3 (n + 145) 3
theorem eW_kept {G : wG} {n k0 : Nat} {E : Nat → va_E} (hk : k0 < n) : eW9 G n k0 E (n + 140) = .inl (G.2.2.1 wSn, 3, .inr (.inr (.inr (.inr (fun _ => none))))) := va_upn (by omega) va_ups
theorem eW_kept10 {G : wG} {n k0 : Nat} {E : Nat → va_E} (hk : k0 < n) : eW10 G n k0 E (n + 140) = .inl (G.2.2.1 wSn, 3, .inr (.inr (.inr (.inr (fun _ => none))))) := va_upn (by omega) ((eSi_off (by omega) (by omega)).trans (va_upn (by omega) (eW_kept hk)))
theorem eW_kept11 {G : wG} {n k0 : Nat} {E : Nat → va_E} (hk : k0 < n) : eW11 G n k0 E (n + 140) = .inl (G.2.2.1 wSn, 3, .inr (.inr (.inr (.inr (fun _ => none))))) := va_upn (by omega) (va_upn (by omega) (eW_kept10 hk))
set_option maxHeartbeats 8000000 in
set_option maxRecDepth 100000 in
theorem iW {l : Launch} {G : wG} {n k0 : Nat} {E : Nat → va_E} (hk : k0 < n) (hE : E k0 = .inr (10, [.null, .null, .null, .null, .null, .null, .null, .null, .null, .null, .null])) : wMetC l G yX10_init cX10_init 2 2 160 6890 [.ref (G.2.2.2 + k0)] n E (n + 160) (eW G n k0 E) := by
  refine wMetC_of (own := RX10) (by decide +kernel) rfl rfl (Nat.le_of_ble_eq_true rfl) ?_
  intro X hX hNm hQ hN
  show WC G X 0 0 0 [(0, .ref (G.2.2.2 + k0))] [] n E
  refine wc_aload_n 0 hX dX10_init_0 rfl (pq := 1) rfl ?_
  refine wc_obj hX k_26 k_27 k_28 (Nat.le_of_ble_eq_true rfl) dX10_init_1 (pq := 4) rfl ?_
  refine wc_aload_n 0 hX dX10_init_4 rfl (pq := 5) rfl ?_
  refine wc_new (ci := 9) (fs := [.null, .int 0]) hX clX9 k_29 k_30 k_2 dfX9 (by decide) (by decide) dX10_init_5 (pq := 8) (n1 := n + 1) (ce1 := 1) (sl1 := 2) rfl rfl rfl rfl ?_
  refine wc_dup hX dX10_init_8 rfl (pq := 9) rfl ?_
  refine wc_callI (n1 := n + 2) hX mi_31 (iTx (n := n + 1) (k0 := n) (by omega) va_ups) (by decide) (by omega) (by decide) (by decide) (Nat.le_of_ble_eq_true rfl) dX10_init_9 (pq := 12) (ce1 := 2) (sl1 := 82) rfl rfl rfl ?_
  refine wc_putF (ci := 10) (j := 0) hX hNm clX10 (by omega) ((eTx_off (by omega) (by omega)).trans (va_upn (by omega) (hE))) (by decide) k_331 rfl rfl rfl rfl (Nat.le_of_ble_eq_true rfl) dX10_init_12 (pq := 15) rfl (fs' := [.ref (G.2.2.2 + (n)), .null, .null, .null, .null, .null, .null, .null, .null, .null, .null]) rfl ?_
  refine wc_name (e := eW1 G n k0 E) rfl ?_
  refine wc_aload_n 0 hX dX10_init_15 rfl (pq := 16) rfl ?_
  refine wc_new (ci := 5) (fs := [.null, .null, .null, .int 0, .int 0, .int 0, .int 0]) hX clX5 k_46 k_47 k_3 dfX5 (by decide) (by decide) dX10_init_16 (pq := 19) (n1 := n + 3) (ce1 := 3) (sl1 := 89) rfl rfl rfl rfl ?_
  refine wc_dup hX dX10_init_19 rfl (pq := 20) rfl ?_
  refine wc_callI (n1 := n + 6) hX mi_48 (iRd (n := n + 3) (k0 := n + 2) (by omega) va_ups) (by decide) (by omega) (by decide) (by decide) (Nat.le_of_ble_eq_true rfl) dX10_init_20 (pq := 23) (ce1 := 6) (sl1 := 209) rfl rfl rfl ?_
  refine wc_putF (ci := 10) (j := 1) hX hNm clX10 (by omega) ((eRd_off (by omega) (by omega)).trans (va_upn (by omega) (va_ups))) (by decide) k_332 rfl rfl rfl rfl (Nat.le_of_ble_eq_true rfl) dX10_init_23 (pq := 26) rfl (fs' := [.ref (G.2.2.2 + (n)), .ref (G.2.2.2 + (n + 2)), .null, .null, .null, .null, .null, .null, .null, .null, .null]) rfl ?_
  refine wc_name (e := eW2 G n k0 E) rfl ?_
  refine wc_aload_n 0 hX dX10_init_26 rfl (pq := 27) rfl ?_
  refine wc_new (ci := 2) (fs := [.null, .null, .null, .null, .int 0, .int 0, .null]) hX clX2 k_79 k_80 k_4 dfX2 (by decide) (by decide) dX10_init_27 (pq := 30) (n1 := n + 7) (ce1 := 7) (sl1 := 216) rfl rfl rfl rfl ?_
  refine wc_dup hX dX10_init_30 rfl (pq := 31) rfl ?_
  refine wc_callI (n1 := n + 12) hX mi_81 (iLand (n := n + 7) (k0 := n + 6) (by omega) va_ups) (by decide) (by omega) (by decide) (by decide) (Nat.le_of_ble_eq_true rfl) dX10_init_31 (pq := 34) (ce1 := 12) (sl1 := 327) rfl rfl rfl ?_
  refine wc_putF (ci := 10) (j := 2) hX hNm clX10 (by omega) ((eLand_off (by omega) (by omega)).trans (va_upn (by omega) (va_ups))) (by decide) k_333 rfl rfl rfl rfl (Nat.le_of_ble_eq_true rfl) dX10_init_34 (pq := 37) rfl (fs' := [.ref (G.2.2.2 + (n)), .ref (G.2.2.2 + (n + 2)), .ref (G.2.2.2 + (n + 6)), .null, .null, .null, .null, .null, .null, .null, .null]) rfl ?_
  refine wc_name (e := eW3 G n k0 E) rfl ?_
  refine wc_aload_n 0 hX dX10_init_37 rfl (pq := 38) rfl ?_
  refine wc_new (ci := 0) (fs := [.null, .null, .null, .null, .null, .null, .int 0, .int 0, .int 0, .null, .null, .null, .int 0, .int 0]) hX clX0 k_129 k_130 k_6 dfX0 (by decide) (by decide) dX10_init_38 (pq := 41) (n1 := n + 13) (ce1 := 13) (sl1 := 341) rfl rfl rfl rfl ?_
  refine wc_dup hX dX10_init_41 rfl (pq := 42) rfl ?_
  refine wc_callI (n1 := n + 22) hX mi_131 (iAh (n := n + 13) (k0 := n + 12) (by omega) va_ups) (by decide) (by omega) (by decide) (by decide) (Nat.le_of_ble_eq_true rfl) dX10_init_42 (pq := 45) (ce1 := 22) (sl1 := 530) rfl rfl rfl ?_
  refine wc_putF (ci := 10) (j := 3) hX hNm clX10 (by omega) ((eAh_off (by omega) (by omega)).trans (va_upn (by omega) (va_ups))) (by decide) k_334 rfl rfl rfl rfl (Nat.le_of_ble_eq_true rfl) dX10_init_45 (pq := 48) rfl (fs' := [.ref (G.2.2.2 + (n)), .ref (G.2.2.2 + (n + 2)), .ref (G.2.2.2 + (n + 6)), .ref (G.2.2.2 + (n + 12)), .null, .null, .null, .null, .null, .null, .null]) rfl ?_
  refine wc_name (e := eW4 G n k0 E) rfl ?_
  refine wc_aload_n 0 hX dX10_init_48 rfl (pq := 49) rfl ?_
  refine wc_new (ci := 6) (fs := [.null, .int 0, .null, .int 0, .null, .null, .int 0, .int 0, .int 0, .int 0, .int 0]) hX clX6 k_188 k_189 k_7 dfX6 (by decide) (by decide) dX10_init_49 (pq := 52) (n1 := n + 23) (ce1 := 23) (sl1 := 541) rfl rfl rfl rfl ?_
  refine wc_dup hX dX10_init_52 rfl (pq := 53) rfl ?_
  refine wc_callI (n1 := n + 27) hX mi_190 (iSe (n := n + 23) (k0 := n + 22) (by omega) va_ups) (by decide) (by omega) (by decide) (by decide) (Nat.le_of_ble_eq_true rfl) dX10_init_53 (pq := 56) (ce1 := 27) (sl1 := 5733) rfl rfl rfl ?_
  refine wc_putF (ci := 10) (j := 4) hX hNm clX10 (by omega) ((eSe_off (by omega) (by omega)).trans (va_upn (by omega) (va_ups))) (by decide) k_335 rfl rfl rfl rfl (Nat.le_of_ble_eq_true rfl) dX10_init_56 (pq := 59) rfl (fs' := [.ref (G.2.2.2 + (n)), .ref (G.2.2.2 + (n + 2)), .ref (G.2.2.2 + (n + 6)), .ref (G.2.2.2 + (n + 12)), .ref (G.2.2.2 + (n + 22)), .null, .null, .null, .null, .null, .null]) rfl ?_
  refine wc_name (e := eW5 G n k0 E) rfl ?_
  refine wc_aload_n 0 hX dX10_init_59 rfl (pq := 60) rfl ?_
  refine wc_new (ci := 1) (fs := [.null, .null, .int 0, .null]) hX clX1 k_231 k_232 k_8 dfX1 (by decide) (by decide) dX10_init_60 (pq := 63) (n1 := n + 28) (ce1 := 28) (sl1 := 5737) rfl rfl rfl rfl ?_
  refine wc_dup hX dX10_init_63 rfl (pq := 64) rfl ?_
  refine wc_callI (n1 := n + 31) hX mi_233 (iGr (n := n + 28) (k0 := n + 27) (by omega) va_ups) (by decide) (by omega) (by decide) (by decide) (Nat.le_of_ble_eq_true rfl) dX10_init_64 (pq := 67) (ce1 := 31) (sl1 := 5764) rfl rfl rfl ?_
  refine wc_putF (ci := 10) (j := 5) hX hNm clX10 (by omega) ((eGr_off (by omega) (by omega)).trans (va_upn (by omega) (va_ups))) (by decide) k_336 rfl rfl rfl rfl (Nat.le_of_ble_eq_true rfl) dX10_init_67 (pq := 70) rfl (fs' := [.ref (G.2.2.2 + (n)), .ref (G.2.2.2 + (n + 2)), .ref (G.2.2.2 + (n + 6)), .ref (G.2.2.2 + (n + 12)), .ref (G.2.2.2 + (n + 22)), .ref (G.2.2.2 + (n + 27)), .null, .null, .null, .null, .null]) rfl ?_
  refine wc_name (e := eW6 G n k0 E) rfl ?_
  refine wc_aload_n 0 hX dX10_init_70 rfl (pq := 71) rfl ?_
  refine wc_new (ci := 3) (fs := [.null, .int 0]) hX clX3 k_253 k_254 k_9 dfX3 (by decide) (by decide) dX10_init_71 (pq := 74) (n1 := n + 32) (ce1 := 32) (sl1 := 5766) rfl rfl rfl rfl ?_
  refine wc_dup hX dX10_init_74 rfl (pq := 75) rfl ?_
  refine wc_callI (n1 := n + 33) hX mi_255 (iNum (n := n + 32) (k0 := n + 31) (by omega) va_ups) (by decide) (by omega) (by decide) (by decide) (Nat.le_of_ble_eq_true rfl) dX10_init_75 (pq := 78) (ce1 := 33) (sl1 := 5776) rfl rfl rfl ?_
  refine wc_putF (ci := 10) (j := 6) hX hNm clX10 (by omega) ((eNum_off (by omega) (by omega)).trans (va_upn (by omega) (va_ups))) (by decide) k_337 rfl rfl rfl rfl (Nat.le_of_ble_eq_true rfl) dX10_init_78 (pq := 81) rfl (fs' := [.ref (G.2.2.2 + (n)), .ref (G.2.2.2 + (n + 2)), .ref (G.2.2.2 + (n + 6)), .ref (G.2.2.2 + (n + 12)), .ref (G.2.2.2 + (n + 22)), .ref (G.2.2.2 + (n + 27)), .ref (G.2.2.2 + (n + 31)), .null, .null, .null, .null]) rfl ?_
  refine wc_name (e := eW7 G n k0 E) rfl ?_
  refine wc_aload_n 0 hX dX10_init_81 rfl (pq := 82) rfl ?_
  refine wc_new (ci := 4) (fs := [.int 0, .null, .int 0]) hX clX4 k_268 k_269 k_10 dfX4 (by decide) (by decide) dX10_init_82 (pq := 85) (n1 := n + 34) (ce1 := 34) (sl1 := 5779) rfl rfl rfl rfl ?_
  refine wc_dup hX dX10_init_85 rfl (pq := 86) rfl ?_
  refine wc_callI (n1 := n + 140) hX mi_270 (iPa (n := n + 34) (k0 := n + 33) (by omega) va_ups) (by decide) (by omega) (by decide) (by decide) (Nat.le_of_ble_eq_true rfl) dX10_init_86 (pq := 89) (ce1 := 140) (sl1 := 6556) rfl rfl rfl ?_
  refine wc_putF (ci := 10) (j := 7) hX hNm clX10 (by omega) ((ePa_off (by omega) (by omega)).trans (va_upn (by omega) (va_ups))) (by decide) k_338 rfl rfl rfl rfl (Nat.le_of_ble_eq_true rfl) dX10_init_89 (pq := 92) rfl (fs' := [.ref (G.2.2.2 + (n)), .ref (G.2.2.2 + (n + 2)), .ref (G.2.2.2 + (n + 6)), .ref (G.2.2.2 + (n + 12)), .ref (G.2.2.2 + (n + 22)), .ref (G.2.2.2 + (n + 27)), .ref (G.2.2.2 + (n + 31)), .ref (G.2.2.2 + (n + 33)), .null, .null, .null]) rfl ?_
  refine wc_name (e := eW8 G n k0 E) rfl ?_
  refine wc_aload_n 0 hX dX10_init_92 rfl (pq := 93) rfl ?_
  refine wc_iconst (v := iI (3)) hX dX10_init_93 (by decide) (pq := 94) rfl ?_
  refine wc_newq (N' := 3) hX k_312 (by decide) (by decide) (by decide) (by decide) (by decide) dX10_init_94 (pq := 97) (n1 := n + 141) (ce1 := 141) (sl1 := 6559) rfl rfl rfl rfl ?_
  refine wc_putF (ci := 10) (j := 8) hX hNm clX10 (by omega) (va_upn (by omega) (va_ups)) (by decide) k_339 rfl rfl rfl rfl (Nat.le_of_ble_eq_true rfl) dX10_init_97 (pq := 100) rfl (fs' := [.ref (G.2.2.2 + (n)), .ref (G.2.2.2 + (n + 2)), .ref (G.2.2.2 + (n + 6)), .ref (G.2.2.2 + (n + 12)), .ref (G.2.2.2 + (n + 22)), .ref (G.2.2.2 + (n + 27)), .ref (G.2.2.2 + (n + 31)), .ref (G.2.2.2 + (n + 33)), .ref (G.2.2.2 + (n + 140)), .null, .null]) rfl ?_
  refine wc_name (e := eW9 G n k0 E) rfl ?_
  refine wc_aload_n 0 hX dX10_init_100 rfl (pq := 101) rfl ?_
  refine wc_new (ci := 7) (fs := [.int 0, .null, .null]) hX clX7 k_313 k_314 k_12 dfX7 (by decide) (by decide) dX10_init_101 (pq := 104) (n1 := n + 142) (ce1 := 142) (sl1 := 6562) rfl rfl rfl rfl ?_
  refine wc_dup hX dX10_init_104 rfl (pq := 105) rfl ?_
  refine wc_callI (n1 := n + 144) hX mi_315 (iSi (n := n + 142) (k0 := n + 141) (by omega) va_ups) (by decide) (by omega) (by decide) (by decide) (Nat.le_of_ble_eq_true rfl) dX10_init_105 (pq := 108) (ce1 := 144) (sl1 := 6582) rfl rfl rfl ?_
  refine wc_putF (ci := 10) (j := 9) hX hNm clX10 (by omega) ((eSi_off (by omega) (by omega)).trans (va_upn (by omega) (va_ups))) (by decide) k_340 rfl rfl rfl rfl (Nat.le_of_ble_eq_true rfl) dX10_init_108 (pq := 111) rfl (fs' := [.ref (G.2.2.2 + (n)), .ref (G.2.2.2 + (n + 2)), .ref (G.2.2.2 + (n + 6)), .ref (G.2.2.2 + (n + 12)), .ref (G.2.2.2 + (n + 22)), .ref (G.2.2.2 + (n + 27)), .ref (G.2.2.2 + (n + 31)), .ref (G.2.2.2 + (n + 33)), .ref (G.2.2.2 + (n + 140)), .ref (G.2.2.2 + (n + 141)), .null]) rfl ?_
  refine wc_name (e := eW10 G n k0 E) rfl ?_
  refine wc_aload_n 0 hX dX10_init_111 rfl (pq := 112) rfl ?_
  refine wc_sipush (v := iI (200)) hX dX10_init_112 (by decide) (pq := 115) rfl ?_
  refine wc_newa (N' := 200) (a0 := (200, .inl (fun _ => 0))) .int 0 hX k_78 rfl rfl rfl (fun _ => rfl) (by decide) (by decide) (by decide) (by decide) (by decide) dX10_init_115 (pq := 117) (n1 := n + 145) (ce1 := 145) (sl1 := 6782) rfl rfl rfl rfl ?_
  refine wc_putF (ci := 10) (j := 10) hX hNm clX10 (by omega) (va_upn (by omega) (va_ups)) (by decide) k_341 rfl rfl rfl rfl (Nat.le_of_ble_eq_true rfl) dX10_init_117 (pq := 120) rfl (fs' := [.ref (G.2.2.2 + (n)), .ref (G.2.2.2 + (n + 2)), .ref (G.2.2.2 + (n + 6)), .ref (G.2.2.2 + (n + 12)), .ref (G.2.2.2 + (n + 22)), .ref (G.2.2.2 + (n + 27)), .ref (G.2.2.2 + (n + 31)), .ref (G.2.2.2 + (n + 33)), .ref (G.2.2.2 + (n + 140)), .ref (G.2.2.2 + (n + 141)), .ref (G.2.2.2 + (n + 144))]) rfl ?_
  refine wc_name (e := eW11 G n k0 E) rfl ?_
  refine wc_iconst (v := nI 0) hX dX10_init_120 (by decide) (pq := 121) rfl ?_
  refine wc_istore_n (loc' := [(1, .int (nI 0)), (0, .ref (G.2.2.2 + k0))]) hX hN dX10_init_121 (by decide) rfl (pq := 122) rfl ?_
  refine wc_sub [1, 0] (loc' := [(0, .ref (G.2.2.2 + k0)), (1, .int (nI 0))]) rfl ?_
  have h := iW_L (E := eW11 G n k0 E) (rg := n + 140) (m0 := n + 145) (k0 := k0) hX hNm (by rw [show n + 145 + 15 = n + 160 by omega]; exact hQ) hN (by omega) (by omega) (by omega) va_ups rfl (eW_kept11 hk) 3 0 (by omega)
  exact h
