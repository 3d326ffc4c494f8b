set_option maxHeartbeats 4000000 in
set_option maxRecDepth 100000 in
theorem tM_findsFirst_L2 {G : wG} {X : wX} {x1 : Nat} {s1 : wM} (hX : wOK G X cX11_findsFirst RX11 none 2) (hQ : wRt G X (wQv G s1)) (hN : wNl X = 3) (hx1 : wSh[x1]? = some (.inl (.int, 9, 0, 0))) : ∀ (n : Nat) (x2 : Int32) (s : wM), wh2 (fM_findsFirst_L2 x1) n x2 s = some s1 → WB G X 2 [(0, .ref (G.1 161)), (1, .ref (G.1 x1)), (2, .int x2)] [] s := by
  intro n
  induction n with
  | zero => intro x2 s h; cases h
  | succ n hk2 =>
    intro x2 s h
    have h : fM_findsFirst_L2 x1 x2 s (wh2 (fM_findsFirst_L2 x1) n) = some s1 := h
    unfold fM_findsFirst_L2 at h
    refine wb_iload_n 2 hX dX11_findsFirst_2 rfl (pq := 3) rfl ?_
    refine wb_sipush (v := iI (16384)) hX dX11_findsFirst_3 (by decide) (pq := 6) rfl ?_
    refine wb_icmp_ge (tgt := 22) hX dX11_findsFirst_6 (by decide) (fun c_1 => ?_) (pq := 9) rfl (fun c_1 => ?_)
    · have h := ite_t c_1 h
      refine wb_aload_n 0 hX dX11_findsFirst_22 rfl (pq := 23) rfl ?_
      refine wb_iconst (v := iI (0)) hX dX11_findsFirst_23 rfl (pq := 24) rfl ?_
      refine wb_putI hX fp_1552 sh_161 rfl dX11_findsFirst_24 rfl rfl (pq := 27) rfl ?_
      refine wb_mem (fun s_2 es_2 => ?_)
      have h := nmM_s h s_2 es_2
      refine wb_aload_n 0 hX dX11_findsFirst_27 rfl (pq := 28) rfl ?_
      refine wb_iconst (v := iI (0)) hX dX11_findsFirst_28 rfl (pq := 29) rfl ?_
      refine wb_putI hX fp_1553 sh_161 rfl dX11_findsFirst_29 nar01.1.1 nar01.1.2.1 (pq := 32) rfl ?_
      refine wb_mem (fun s_3 es_3 => ?_)
      have h := nmM_s h s_3 es_3
      refine wb_aload_n 0 hX dX11_findsFirst_32 rfl (pq := 33) rfl ?_
      refine wb_aload_n 1 hX dX11_findsFirst_33 rfl (pq := 34) rfl ?_
      refine wb_iconst (v := iI (-1)) hX dX11_findsFirst_34 rfl (pq := 35) rfl ?_
      refine wb_iconst (v := iI (-1)) hX dX11_findsFirst_35 rfl (pq := 36) rfl ?_
      refine wb_iconst (v := iI (1)) hX dX11_findsFirst_36 rfl (pq := 37) rfl ?_
      obtain ⟨q_5, hc_4, h⟩ := bind_s h
      refine wb_callVv (s1 := q_5) [.ref (G.1 x1), .int (iI (-1)), .int (iI (-1)), .int (iI (1))] hX sh_161 ml_1314 (tM_finds hx1 hc_4) (by decide) rfl rfl (Nat.le_of_ble_eq_true rfl) dX11_findsFirst_37 (pq := 40) rfl ?_
      exact wb_vret hX hQ h dX11_findsFirst_40
    · have h := ite_f c_1 h
      refine wb_aload_n 0 hX dX11_findsFirst_9 rfl (pq := 10) rfl ?_
      refine wb_getR hX fl_1550 sh_161 rfl dX11_findsFirst_10 (pq := 13) rfl ?_
      refine wb_iload_n 2 hX dX11_findsFirst_13 rfl (pq := 14) rfl ?_
      refine wb_iconst (v := iI (-1)) hX dX11_findsFirst_14 rfl (pq := 15) rfl ?_
      obtain ⟨hi_6, h⟩ := chk_some h
      refine wb_iast hX sh_183 hi_6 dX11_findsFirst_15 (pq := 16) rfl ?_
      refine wb_mem (fun s_7 es_7 => ?_)
      have h := nmM_s h s_7 es_7
      refine wb_iinc (v := (x2 + iI (1))) (loc' := [(2, .int (x2 + iI (1))), (0, .ref (G.1 161)), (1, .ref (G.1 x1))]) 2 hX hN dX11_findsFirst_16 rfl rfl (by decide) rfl (pq := 19) rfl ?_
      refine wb_goto (tgt := 2) hX dX11_findsFirst_19 (by decide) ?_
      refine wb_sub [1, 2, 0] (loc' := [(0, .ref (G.1 161)), (1, .ref (G.1 x1)), (2, .int (x2 + iI (1)))]) rfl ?_
      exact hk2 _ _ h
set_option maxHeartbeats 4000000 in
set_option maxRecDepth 100000 in
theorem tM_findsFirst {l : Launch} {G : wG} {s : wM} {x1 : Nat} {s1 : wM} (hx1 : wSh[x1]? = some (.inl (.int, 9, 0, 0))) (h : fM_findsFirst s x1 = some s1) : wMet l G yX11_findsFirst cX11_findsFirst 3 none 2 [.ref (G.1 161), .ref (G.1 x1)] s (wQv G s1) := by
  refine wMet_of (own := RX11) (by decide +kernel) rfl (Nat.le_of_ble_eq_true rfl) ?_
  intro X hX hQ hN hl
  show WB G X 0 [(0, .ref (G.1 161)), (1, .ref (G.1 x1))] [] s
  unfold fM_findsFirst at h
  refine wb_iconst (v := iI (0)) hX dX11_findsFirst_0 rfl (pq := 1) rfl ?_
  refine wb_istore_n (loc' := [(2, .int (iI (0))), (0, .ref (G.1 161)), (1, .ref (G.1 x1))]) hX hN dX11_findsFirst_1 (by decide) rfl (pq := 2) rfl ?_
  refine wb_sub [1, 2, 0] (loc' := [(0, .ref (G.1 161)), (1, .ref (G.1 x1)), (2, .int (iI (0)))]) rfl ?_
  exact tM_findsFirst_L2 hX hQ hN hx1 100000 _ _ h
set_option maxHeartbeats 4000000 in
set_option maxRecDepth 100000 in
theorem tM_findsFrom_J82 {G : wG} {X : wX} {k2 : Int32 → wM → Option (wM)} {k13 : Int32 → wM → Option (wM)} {x1 : Int32} {x2 : Int32} {x3 : Int32} {x4 : Int32} {s : wM} {s1 : wM} (hX : wOK G X cX11_findsFrom RX11 none 2) (hQ : wRt G X (wQv G s1)) (hN : wNl X = 5) (hk2 : ∀ (x3 : Int32) (s : wM), k2 x3 s = some s1 → WB G X 2 [(0, .ref (G.1 161)), (1, .int x1), (2, .int x2), (3, .int x3)] [] s) (hk13 : ∀ (x4 : Int32) (s : wM), k13 x4 s = some s1 → WB G X 13 [(0, .ref (G.1 161)), (1, .int x1), (2, .int x2), (3, .int x3), (4, .int x4)] [] s) (h : fM_findsFrom_J82 k2 k13 x1 x2 x3 x4 s = some s1) : WB G X 82 [(0, .ref (G.1 161)), (1, .int x1), (2, .int x2), (3, .int x3), (4, .int x4)] [] s := by
  unfold fM_findsFrom_J82 at h
  refine wb_iinc (v := (x4 + iI (1))) (loc' := [(4, .int (x4 + iI (1))), (0, .ref (G.1 161)), (1, .int x1), (2, .int x2), (3, .int x3)]) 4 hX hN dX11_findsFrom_82 rfl rfl (by decide) rfl (pq := 85) rfl ?_
  refine wb_goto (tgt := 13) hX dX11_findsFrom_85 (by decide) ?_
  refine wb_sub [1, 2, 3, 4, 0] (loc' := [(0, .ref (G.1 161)), (1, .int x1), (2, .int x2), (3, .int x3), (4, .int (x4 + iI (1)))]) rfl ?_
  exact hk13 _ _ h
set_option maxHeartbeats 4000000 in
set_option maxRecDepth 100000 in
theorem tM_findsFrom_J88 {G : wG} {X : wX} {k2 : Int32 → wM → Option (wM)} {x1 : Int32} {x2 : Int32} {x3 : Int32} {s : wM} {s1 : wM} (hX : wOK G X cX11_findsFrom RX11 none 2) (hQ : wRt G X (wQv G s1)) (hN : wNl X = 5) (hk2 : ∀ (x3 : Int32) (s : wM), k2 x3 s = some s1 → WB G X 2 [(0, .ref (G.1 161)), (1, .int x1), (2, .int x2), (3, .int x3)] [] s) (h : fM_findsFrom_J88 k2 x1 x2 x3 s = some s1) : WB G X 88 [(0, .ref (G.1 161)), (1, .int x1), (2, .int x2), (3, .int x3)] [] s := by
  unfold fM_findsFrom_J88 at h
  refine wb_iinc (v := (x3 + iI (1))) (loc' := [(3, .int (x3 + iI (1))), (0, .ref (G.1 161)), (1, .int x1), (2, .int x2)]) 3 hX hN dX11_findsFrom_88 rfl rfl (by decide) rfl (pq := 91) rfl ?_
  refine wb_goto (tgt := 2) hX dX11_findsFrom_91 (by decide) ?_
  refine wb_sub [1, 2, 3, 0] (loc' := [(0, .ref (G.1 161)), (1, .int x1), (2, .int x2), (3, .int (x3 + iI (1)))]) rfl ?_
  exact hk2 _ _ h
set_option maxHeartbeats 4000000 in
set_option maxRecDepth 100000 in
theorem tM_findsFrom_L13 {G : wG} {X : wX} {k2 : Int32 → wM → Option (wM)} {x1 : Int32} {x2 : Int32} {x3 : Int32} {s1 : wM} (hX : wOK G X cX11_findsFrom RX11 none 2) (hQ : wRt G X (wQv G s1)) (hN : wNl X = 5) (hk2 : ∀ (x3 : Int32) (s : wM), k2 x3 s = some s1 → WB G X 2 [(0, .ref (G.1 161)), (1, .int x1), (2, .int x2), (3, .int x3)] [] s) : ∀ (n : Nat) (x4 : Int32) (s : wM), wh2 (fM_findsFrom_L13 k2 x1 x2 x3) n x4 s = some s1 → WB G X 13 [(0, .ref (G.1 161)), (1, .int x1), (2, .int x2), (3, .int x3), (4, .int x4)] [] s := by
  intro n
  induction n with
  | zero => intro x4 s h; cases h
  | succ n hk13 =>
    intro x4 s h
    have h : fM_findsFrom_L13 k2 x1 x2 x3 x4 s (wh2 (fM_findsFrom_L13 k2 x1 x2 x3) n) = some s1 := h
    unfold fM_findsFrom_L13 at h
    refine wb_iload 4 hX dX11_findsFrom_13 rfl (pq := 15) rfl ?_
    refine wb_aload_n 0 hX dX11_findsFrom_15 rfl (pq := 16) rfl ?_
    refine wb_getI hX fl_1521 sh_161 rfl dX11_findsFrom_16 (pq := 19) rfl ?_
    refine wb_icmp_ge (tgt := 88) hX dX11_findsFrom_19 (by decide) (fun c_1 => ?_) (pq := 22) rfl (fun c_1 => ?_)
    · have h := ite_t c_1 h
      refine wb_sub [0, 1, 2, 3] (loc' := [(0, .ref (G.1 161)), (1, .int x1), (2, .int x2), (3, .int x3)]) rfl ?_
      exact tM_findsFrom_J88 hX hQ hN hk2 h
    · have h := ite_f c_1 h
      refine wb_aload_n 0 hX dX11_findsFrom_22 rfl (pq := 23) rfl ?_
      refine wb_getI hX fl_1553 sh_161 rfl dX11_findsFrom_23 (pq := 26) rfl ?_
      refine wb_if_ne (tgt := 88) hX dX11_findsFrom_26 (by decide) (pq := 29) rfl (fun c_2 => ?_) (fun c_2 => ?_)
      · have h := ite_t c_2 h
        refine wb_aload_n 0 hX dX11_findsFrom_29 rfl (pq := 30) rfl ?_
        refine wb_iload_n 1 hX dX11_findsFrom_30 rfl (pq := 31) rfl ?_
        obtain ⟨q_4, hc_3, h⟩ := bind_s h
        refine wb_callVv (s1 := q_4) [.int x1] hX sh_161 ml_1333 (tM_unpacks hc_3) (by decide) rfl rfl (Nat.le_of_ble_eq_true rfl) dX11_findsFrom_31 (pq := 34) rfl ?_
        refine wb_iload_n 3 hX dX11_findsFrom_34 rfl (pq := 35) rfl ?_
        refine wb_iload 4 hX dX11_findsFrom_35 rfl (pq := 37) rfl ?_
        refine wb_icmp_eq (tgt := 82) hX dX11_findsFrom_37 (by decide) (fun c_5 => ?_) (pq := 40) rfl (fun c_5 => ?_)
        · have h := ite_t c_5 h
          exact tM_findsFrom_J82 hX hQ hN hk2 hk13 h
        · have h := ite_f c_5 h
          refine wb_aload_n 0 hX dX11_findsFrom_40 rfl (pq := 41) rfl ?_
          refine wb_aload_n 0 hX dX11_findsFrom_41 rfl (pq := 42) rfl ?_
          refine wb_getR hX fl_1551 sh_161 rfl dX11_findsFrom_42 (pq := 45) rfl ?_
          refine wb_iload_n 3 hX dX11_findsFrom_45 rfl (pq := 46) rfl ?_
          refine wb_iload 4 hX dX11_findsFrom_46 rfl (pq := 48) rfl ?_
          obtain ⟨q_7, hc_6, h⟩ := bind_s h
          refine wb_callVi (r0 := q_7) (s1 := q_4) [.ref (G.1 184), .int x3, .int x4] hX sh_161 ml_1233 (tM_canCarry sh_184 hc_6) (by decide) rfl rfl (Nat.le_of_ble_eq_true rfl) dX11_findsFrom_48 (pq := 51) rfl ?_
          refine wb_if_eq (tgt := 82) hX dX11_findsFrom_51 (by decide) (fun c_8 => ?_) (pq := 54) rfl (fun c_8 => ?_)
          · have h := ite_t c_8 h
            exact tM_findsFrom_J82 hX hQ hN hk2 hk13 h
          · have h := ite_f c_8 h
            refine wb_aload_n 0 hX dX11_findsFrom_54 rfl (pq := 55) rfl ?_
            refine wb_aload_n 0 hX dX11_findsFrom_55 rfl (pq := 56) rfl ?_
            refine wb_getR hX fl_1551 sh_161 rfl dX11_findsFrom_56 (pq := 59) rfl ?_
            refine wb_iload_n 3 hX dX11_findsFrom_59 rfl (pq := 60) rfl ?_
            refine wb_iload 4 hX dX11_findsFrom_60 rfl (pq := 62) rfl ?_
            obtain ⟨q_10, hc_9, h⟩ := bind_s h
            refine wb_callVv (s1 := q_10) [.ref (G.1 184), .int x3, .int x4] hX sh_161 ml_1245 (tM_carries sh_184 hc_9) (by decide) rfl rfl (Nat.le_of_ble_eq_true rfl) dX11_findsFrom_62 (pq := 65) rfl ?_
            refine wb_aload_n 0 hX dX11_findsFrom_65 rfl (pq := 66) rfl ?_
            refine wb_aload_n 0 hX dX11_findsFrom_66 rfl (pq := 67) rfl ?_
            refine wb_getR hX fl_1551 sh_161 rfl dX11_findsFrom_67 (pq := 70) rfl ?_
            refine wb_iload_n 1 hX dX11_findsFrom_70 rfl (pq := 71) rfl ?_
            refine wb_bipush (v := iI (10)) hX dX11_findsFrom_71 (by decide) (pq := 73) rfl ?_
            refine wb_iload_n 3 hX dX11_findsFrom_73 rfl (pq := 74) rfl ?_
            refine wb_imul hX dX11_findsFrom_74 (pq := 75) rfl ?_
            refine wb_iload 4 hX dX11_findsFrom_75 rfl (pq := 77) rfl ?_
            refine wb_iadd hX dX11_findsFrom_77 (pq := 78) rfl ?_
            refine wb_iload_n 2 hX dX11_findsFrom_78 rfl (pq := 79) rfl ?_
            obtain ⟨q_12, hc_11, h⟩ := bind_s h
            refine wb_callVv (s1 := q_12) [.ref (G.1 184), .int x1, .int (((iI (10)) * x3) + x4), .int x2] hX sh_161 ml_1314 (tM_finds sh_184 hc_11) (by decide) rfl rfl (Nat.le_of_ble_eq_true rfl) dX11_findsFrom_79 (pq := 82) rfl ?_
            exact tM_findsFrom_J82 hX hQ hN hk2 hk13 h
      · have h := ite_f c_2 h
        refine wb_sub [0, 1, 2, 3] (loc' := [(0, .ref (G.1 161)), (1, .int x1), (2, .int x2), (3, .int x3)]) rfl ?_
        exact tM_findsFrom_J88 hX hQ hN hk2 h
set_option maxHeartbeats 4000000 in
set_option maxRecDepth 100000 in
theorem tM_findsFrom_L2 {G : wG} {X : wX} {x1 : Int32} {x2 : Int32} {s1 : wM} (hX : wOK G X cX11_findsFrom RX11 none 2) (hQ : wRt G X (wQv G s1)) (hN : wNl X = 5) : ∀ (n : Nat) (x3 : Int32) (s : wM), wh2 (fM_findsFrom_L2 x1 x2) n x3 s = some s1 → WB G X 2 [(0, .ref (G.1 161)), (1, .int x1), (2, .int x2), (3, .int x3)] [] s := by
  intro n
  induction n with
  | zero => intro x3 s h; cases h
  | succ n hk2 =>
    intro x3 s h
    have h : fM_findsFrom_L2 x1 x2 x3 s (wh2 (fM_findsFrom_L2 x1 x2) n) = some s1 := h
    unfold fM_findsFrom_L2 at h
    refine wb_iload_n 3 hX dX11_findsFrom_2 rfl (pq := 3) rfl ?_
    refine wb_aload_n 0 hX dX11_findsFrom_3 rfl (pq := 4) rfl ?_
    refine wb_getI hX fl_1521 sh_161 rfl dX11_findsFrom_4 (pq := 7) rfl ?_
    refine wb_icmp_ge (tgt := 94) hX dX11_findsFrom_7 (by decide) (fun c_1 => ?_) (pq := 10) rfl (fun c_1 => ?_)
    · have h := ite_t c_1 h
      exact wb_vret hX hQ h dX11_findsFrom_94
    · have h := ite_f c_1 h
      refine wb_iconst (v := iI (0)) hX dX11_findsFrom_10 rfl (pq := 11) rfl ?_
      refine wb_istore (loc' := [(4, .int (iI (0))), (0, .ref (G.1 161)), (1, .int x1), (2, .int x2), (3, .int x3)]) hX hN dX11_findsFrom_11 (by decide) rfl (pq := 13) rfl ?_
      refine wb_sub [1, 2, 3, 4, 0] (loc' := [(0, .ref (G.1 161)), (1, .int x1), (2, .int x2), (3, .int x3), (4, .int (iI (0)))]) rfl ?_
      exact tM_findsFrom_L13 hX hQ hN hk2 100000 _ _ h
set_option maxHeartbeats 4000000 in
set_option maxRecDepth 100000 in
theorem tM_findsFrom {l : Launch} {G : wG} {s : wM} {x1 : Int32} {x2 : Int32} {s1 : wM} (h : fM_findsFrom s x1 x2 = some s1) : wMet l G yX11_findsFrom cX11_findsFrom 5 none 2 [.ref (G.1 161), .int x1, .int x2] s (wQv G s1) := by
  refine wMet_of (own := RX11) (by decide +kernel) rfl (Nat.le_of_ble_eq_true rfl) ?_
  intro X hX hQ hN hl
  show WB G X 0 [(0, .ref (G.1 161)), (1, .int x1), (2, .int x2)] [] s
  unfold fM_findsFrom at h
  refine wb_iconst (v := iI (0)) hX dX11_findsFrom_0 rfl (pq := 1) rfl ?_
  refine wb_istore_n (loc' := [(3, .int (iI (0))), (0, .ref (G.1 161)), (1, .int x1), (2, .int x2)]) hX hN dX11_findsFrom_1 (by decide) rfl (pq := 2) rfl ?_
  refine wb_sub [1, 2, 3, 0] (loc' := [(0, .ref (G.1 161)), (1, .int x1), (2, .int x2), (3, .int (iI (0)))]) rfl ?_
  exact tM_findsFrom_L2 hX hQ hN 100000 _ _ h
set_option maxHeartbeats 4000000 in
set_option maxRecDepth 100000 in
theorem tM_findsAll_J40 {G : wG} {X : wX} {k7 : Int32 → wM → Option (Int32 × wM)} {x2 : Int32} {x3 : Int32} {s : wM} {r0 : Int32} {s1 : wM} (hX : wOK G X cX11_findsAll RX11 (some .boolean) 3) (hQ : wRt G X (wQi G r0 s1)) (hN : wNl X = 4) (hk7 : ∀ (x3 : Int32) (s : wM), k7 x3 s = some (r0, s1) → WB G X 7 [(0, .ref (G.1 161)), (2, .int x2), (3, .int x3)] [] s) (h : fM_findsAll_J40 k7 x2 x3 s = some (r0, s1)) : WB G X 40 [(0, .ref (G.1 161)), (2, .int x2), (3, .int x3)] [] s := by
  unfold fM_findsAll_J40 at h
  refine wb_iinc (v := (x3 + iI (1))) (loc' := [(3, .int (x3 + iI (1))), (0, .ref (G.1 161)), (2, .int x2)]) 2 hX hN dX11_findsAll_40 rfl rfl (by decide) rfl (pq := 43) rfl ?_
  refine wb_goto (tgt := 7) hX dX11_findsAll_43 (by decide) ?_
  refine wb_sub [1, 2, 0] (loc' := [(0, .ref (G.1 161)), (2, .int x2), (3, .int (x3 + iI (1)))]) rfl ?_
  exact hk7 _ _ h
set_option maxHeartbeats 4000000 in
set_option maxRecDepth 100000 in
theorem tM_findsAll_J58 {G : wG} {X : wX} {v0 : Int32} {s : wM} {r0 : Int32} {s1 : wM} (hX : wOK G X cX11_findsAll RX11 (some .boolean) 3) (hQ : wRt G X (wQi G r0 s1)) (hN : wNl X = 4) (h : fM_findsAll_J58 v0 s = some (r0, s1)) : WB G X 58 [] [.int v0] s := by
  unfold fM_findsAll_J58 at h
  obtain ⟨hz_1, h⟩ := chkZ_some h
  exact wb_zret hX hQ h hz_1.1 dX11_findsAll_58
set_option maxHeartbeats 4000000 in
set_option maxRecDepth 100000 in
theorem tM_findsAll_J46 {G : wG} {X : wX} {s : wM} {r0 : Int32} {s1 : wM} (hX : wOK G X cX11_findsAll RX11 (some .boolean) 3) (hQ : wRt G X (wQi G r0 s1)) (hN : wNl X = 4) (h : fM_findsAll_J46 s = some (r0, s1)) : WB G X 46 [(0, .ref (G.1 161))] [] s := by
  unfold fM_findsAll_J46 at h
  refine wb_aload_n 0 hX dX11_findsAll_46 rfl (pq := 47) rfl ?_
  refine wb_getI hX fl_1553 sh_161 rfl dX11_findsAll_47 (pq := 50) rfl ?_
  refine wb_if_ne (tgt := 57) hX dX11_findsAll_50 (by decide) (pq := 53) rfl (fun c_1 => ?_) (fun c_1 => ?_)
  · have h := ite_t c_1 h
    refine wb_iconst (v := iI (1)) hX dX11_findsAll_53 rfl (pq := 54) rfl ?_
    refine wb_goto (tgt := 58) hX dX11_findsAll_54 (by decide) ?_
    refine wb_sub [] (loc' := []) rfl ?_
    exact tM_findsAll_J58 hX hQ hN h
  · have h := ite_f c_1 h
    refine wb_iconst (v := iI (0)) hX dX11_findsAll_57 rfl (pq := 58) rfl ?_
    refine wb_sub [] (loc' := []) rfl ?_
    exact tM_findsAll_J58 hX hQ hN h
set_option maxHeartbeats 4000000 in
set_option maxRecDepth 100000 in
theorem tM_findsAll_L7 {G : wG} {X : wX} {x2 : Int32} {r0 : Int32} {s1 : wM} (hX : wOK G X cX11_findsAll RX11 (some .boolean) 3) (hQ : wRt G X (wQi G r0 s1)) (hN : wNl X = 4) : ∀ (n : Nat) (x3 : Int32) (s : wM), wh2 (fM_findsAll_L7 x2) n x3 s = some (r0, s1) → WB G X 7 [(0, .ref (G.1 161)), (2, .int x2), (3, .int x3)] [] s := by
  intro n
  induction n with
  | zero => intro x3 s h; cases h
  | succ n hk7 =>
    intro x3 s h
    have h : fM_findsAll_L7 x2 x3 s (wh2 (fM_findsAll_L7 x2) n) = some (r0, s1) := h
    unfold fM_findsAll_L7 at h
    refine wb_iload_n 2 hX dX11_findsAll_7 rfl (pq := 8) rfl ?_
    refine wb_aload_n 0 hX dX11_findsAll_8 rfl (pq := 9) rfl ?_
    refine wb_getI hX fl_1552 sh_161 rfl dX11_findsAll_9 (pq := 12) rfl ?_
    refine wb_icmp_ge (tgt := 46) hX dX11_findsAll_12 (by decide) (fun c_1 => ?_) (pq := 15) rfl (fun c_1 => ?_)
    · have h := ite_t c_1 h
      refine wb_sub [0] (loc' := [(0, .ref (G.1 161))]) rfl ?_
      exact tM_findsAll_J46 hX hQ hN h
    · have h := ite_f c_1 h
      refine wb_aload_n 0 hX dX11_findsAll_15 rfl (pq := 16) rfl ?_
      refine wb_getI hX fl_1553 sh_161 rfl dX11_findsAll_16 (pq := 19) rfl ?_
      refine wb_if_ne (tgt := 46) hX dX11_findsAll_19 (by decide) (pq := 22) rfl (fun c_2 => ?_) (fun c_2 => ?_)
      · have h := ite_t c_2 h
        refine wb_aload_n 0 hX dX11_findsAll_22 rfl (pq := 23) rfl ?_
        refine wb_getR hX fl_1549 sh_161 rfl dX11_findsAll_23 (pq := 26) rfl ?_
        refine wb_iload_n 2 hX dX11_findsAll_26 rfl (pq := 27) rfl ?_
        obtain ⟨hi_3, h⟩ := chk_some h
        refine wb_iald hX sh_182 hi_3 dX11_findsAll_27 (pq := 28) rfl ?_
        refine wb_iload_n 1 hX dX11_findsAll_28 rfl (pq := 29) rfl ?_
        refine wb_icmp_ge (tgt := 40) hX dX11_findsAll_29 (by decide) (fun c_4 => ?_) (pq := 32) rfl (fun c_4 => ?_)
        · have h := ite_t c_4 h
          exact tM_findsAll_J40 hX hQ hN hk7 h
        · have h := ite_f c_4 h
          refine wb_aload_n 0 hX dX11_findsAll_32 rfl (pq := 33) rfl ?_
          refine wb_iload_n 2 hX dX11_findsAll_33 rfl (pq := 34) rfl ?_
          refine wb_sipush (v := iI (3000)) hX dX11_findsAll_34 (by decide) (pq := 37) rfl ?_
          obtain ⟨q_6, hc_5, h⟩ := bind_s h
          refine wb_callVv (s1 := q_6) [.int x3, .int (iI (3000))] hX sh_161 ml_1329 (tM_findsFrom hc_5) (by decide) rfl rfl (Nat.le_of_ble_eq_true rfl) dX11_findsAll_37 (pq := 40) rfl ?_
          exact tM_findsAll_J40 hX hQ hN hk7 h
      · have h := ite_f c_2 h
        refine wb_sub [0] (loc' := [(0, .ref (G.1 161))]) rfl ?_
        exact tM_findsAll_J46 hX hQ hN h
set_option maxHeartbeats 4000000 in
set_option maxRecDepth 100000 in
theorem tM_findsAll {l : Launch} {G : wG} {s : wM} {x1 : Nat} {x2 : Int32} {r0 : Int32} {s1 : wM} (hx1 : wSh[x1]? = some (.inl (.int, 9, 0, 0))) (h : fM_findsAll s x1 x2 = some (r0, s1)) : wMet l G yX11_findsAll cX11_findsAll 4 (some .boolean) 3 [.ref (G.1 161), .ref (G.1 x1), .int x2] s (wQi G r0 s1) := by
  refine wMet_of (own := RX11) (by decide +kernel) rfl (Nat.le_of_ble_eq_true rfl) ?_
  intro X hX hQ hN hl
  show WB G X 0 [(0, .ref (G.1 161)), (1, .ref (G.1 x1)), (2, .int x2)] [] s
  unfold fM_findsAll at h
  refine wb_aload_n 0 hX dX11_findsAll_0 rfl (pq := 1) rfl ?_
  refine wb_aload_n 1 hX dX11_findsAll_1 rfl (pq := 2) rfl ?_
  obtain ⟨q_2, hc_1, h⟩ := bind_s h
  refine wb_callVv (s1 := q_2) [.ref (G.1 x1)] hX sh_161 ml_1310 (tM_findsFirst hx1 hc_1) (by decide) rfl rfl (Nat.le_of_ble_eq_true rfl) dX11_findsAll_2 (pq := 5) rfl ?_
  refine wb_iconst (v := iI (0)) hX dX11_findsAll_5 rfl (pq := 6) rfl ?_
  refine wb_istore_n (loc' := [(3, .int (iI (0))), (0, .ref (G.1 161)), (1, .ref (G.1 x1)), (2, .int x2)]) hX hN dX11_findsAll_6 (by decide) rfl (pq := 7) rfl ?_
  refine wb_sub [1, 3, 0] (loc' := [(0, .ref (G.1 161)), (2, .int x2), (3, .int (iI (0)))]) rfl ?_
  exact tM_findsAll_L7 hX hQ hN 100000 _ _ h
set_option maxHeartbeats 4000000 in
set_option maxRecDepth 100000 in
theorem tM_tellsWay_J83 {G : wG} {X : wX} {x2 : Int32} {s : wM} {r0 : Int32} {s1 : wM} (hX : wOK G X cX11_tellsWay RX11 (some .int) 1) (hQ : wRt G X (wQi G r0 s1)) (hN : wNl X = 5) (h : fM_tellsWay_J83 x2 s = some (r0, s1)) : WB G X 83 [(2, .int x2)] [] s := by
  unfold fM_tellsWay_J83 at h
  refine wb_iload_n 0 hX dX11_tellsWay_83 rfl (pq := 84) rfl ?_
  exact wb_iret hX hQ h dX11_tellsWay_84
set_option maxHeartbeats 4000000 in
set_option maxRecDepth 100000 in
theorem tM_tellsWay_L53 {G : wG} {X : wX} {x2 : Int32} {r0 : Int32} {s1 : wM} (hX : wOK G X cX11_tellsWay RX11 (some .int) 1) (hQ : wRt G X (wQi G r0 s1)) (hN : wNl X = 5) : ∀ (n : Nat) (x4 : Int32) (s : wM), wh2 (fM_tellsWay_L53 x2) n x4 s = some (r0, s1) → WB G X 53 [(0, .ref (G.1 161)), (2, .int x2), (4, .int x4)] [] s := by
  intro n
  induction n with
  | zero => intro x4 s h; cases h
  | succ n hk53 =>
    intro x4 s h
    have h : fM_tellsWay_L53 x2 x4 s (wh2 (fM_tellsWay_L53 x2) n) = some (r0, s1) := h
    unfold fM_tellsWay_L53 at h
    refine wb_iload 2 hX dX11_tellsWay_53 rfl (pq := 55) rfl ?_
    refine wb_iload_n 1 hX dX11_tellsWay_55 rfl (pq := 56) rfl ?_
    refine wb_icmp_ge (tgt := 83) hX dX11_tellsWay_56 (by decide) (fun c_1 => ?_) (pq := 59) rfl (fun c_1 => ?_)
    · have h := ite_t c_1 h
      refine wb_sub [1] (loc' := [(2, .int x2)]) rfl ?_
      exact tM_tellsWay_J83 hX hQ hN h
    · have h := ite_f c_1 h
      refine wb_iload 2 hX dX11_tellsWay_59 rfl (pq := 61) rfl ?_
      refine wb_bipush (v := iI (10)) hX dX11_tellsWay_61 (by decide) (pq := 63) rfl ?_
      refine wb_icmp_ge (tgt := 83) hX dX11_tellsWay_63 (by decide) (fun c_2 => ?_) (pq := 66) rfl (fun c_2 => ?_)
      · have h := ite_t c_2 h
        refine wb_sub [1] (loc' := [(2, .int x2)]) rfl ?_
        exact tM_tellsWay_J83 hX hQ hN h
      · have h := ite_f c_2 h
        refine wb_aload_n 0 hX dX11_tellsWay_66 rfl (pq := 67) rfl ?_
        refine wb_aload_n 0 hX dX11_tellsWay_67 rfl (pq := 68) rfl ?_
        refine wb_getR hX fl_1554 sh_161 rfl dX11_tellsWay_68 (pq := 71) rfl ?_
        refine wb_iload 2 hX dX11_tellsWay_71 rfl (pq := 73) rfl ?_
        obtain ⟨hi_3, h⟩ := chk_some h
        refine wb_iald hX sh_185 hi_3 dX11_tellsWay_73 (pq := 74) rfl ?_
        obtain ⟨q_5, hc_4, h⟩ := bind_s h
        refine wb_callVv (s1 := q_5) [.int (s.1 185 x4.toNatClampNeg)] hX sh_161 ml_1263 (tM_enters hc_4) (by decide) rfl rfl (Nat.le_of_ble_eq_true rfl) dX11_tellsWay_74 (pq := 77) rfl ?_
        refine wb_iinc (v := (x4 + iI (1))) (loc' := [(4, .int (x4 + iI (1))), (0, .ref (G.1 161)), (2, .int x2)]) 2 hX hN dX11_tellsWay_77 rfl rfl (by decide) rfl (pq := 80) rfl ?_
        refine wb_goto (tgt := 53) hX dX11_tellsWay_80 (by decide) ?_
        refine wb_sub [1, 2, 0] (loc' := [(0, .ref (G.1 161)), (2, .int x2), (4, .int (x4 + iI (1)))]) rfl ?_
        exact hk53 _ _ h
set_option maxHeartbeats 4000000 in
set_option maxRecDepth 100000 in
theorem tM_tellsWay_L14 {G : wG} {X : wX} {x2 : Int32} {r0 : Int32} {s1 : wM} (hX : wOK G X cX11_tellsWay RX11 (some .int) 1) (hQ : wRt G X (wQi G r0 s1)) (hN : wNl X = 5) : ∀ (n : Nat) (x3 : Int32) (x4 : Int32) (s : wM), wh3 (fM_tellsWay_L14 x2) n x3 x4 s = some (r0, s1) → WB G X 14 [(0, .ref (G.1 161)), (2, .int x2), (3, .int x3), (4, .int x4)] [] s := by
  intro n
  induction n with
  | zero => intro x3 x4 s h; cases h
  | succ n hk14 =>
    intro x3 x4 s h
    have h : fM_tellsWay_L14 x2 x3 x4 s (wh3 (fM_tellsWay_L14 x2) n) = some (r0, s1) := h
    unfold fM_tellsWay_L14 at h
    refine wb_iload 3 hX dX11_tellsWay_14 rfl (pq := 16) rfl ?_
    refine wb_if_lt (tgt := 45) hX dX11_tellsWay_16 (by decide) (fun c_1 => ?_) (pq := 19) rfl (fun c_1 => ?_)
    · have h := ite_t c_1 h
      refine wb_aload_n 0 hX dX11_tellsWay_45 rfl (pq := 46) rfl ?_
      refine wb_iconst (v := iI (0)) hX dX11_tellsWay_46 rfl (pq := 47) rfl ?_
      refine wb_putI hX fp_1519 sh_161 rfl dX11_tellsWay_47 rfl rfl (pq := 50) rfl ?_
      refine wb_mem (fun s_2 es_2 => ?_)
      have h := nmM_s h s_2 es_2
      refine wb_iconst (v := iI (0)) hX dX11_tellsWay_50 rfl (pq := 51) rfl ?_
      refine wb_istore (loc' := [(4, .int (iI (0))), (0, .ref (G.1 161)), (2, .int x2), (3, .int x3)]) hX hN dX11_tellsWay_51 (by decide) rfl (pq := 53) rfl ?_
      refine wb_sub [1, 2, 0] (loc' := [(0, .ref (G.1 161)), (2, .int x2), (4, .int (iI (0)))]) rfl ?_
      exact tM_tellsWay_L53 hX hQ hN 100000 _ _ h
    · have h := ite_f c_1 h
      refine wb_aload_n 0 hX dX11_tellsWay_19 rfl (pq := 20) rfl ?_
      refine wb_getR hX fl_1554 sh_161 rfl dX11_tellsWay_20 (pq := 23) rfl ?_
      refine wb_iload 3 hX dX11_tellsWay_23 rfl (pq := 25) rfl ?_
      refine wb_aload_n 0 hX dX11_tellsWay_25 rfl (pq := 26) rfl ?_
      refine wb_getR hX fl_1548 sh_161 rfl dX11_tellsWay_26 (pq := 29) rfl ?_
      refine wb_iload_n 2 hX dX11_tellsWay_29 rfl (pq := 30) rfl ?_
      obtain ⟨hi_3, h⟩ := chk_some h
      refine wb_iald hX sh_181 hi_3 dX11_tellsWay_30 (pq := 31) rfl ?_
      obtain ⟨hi_4, h⟩ := chk_some h
      refine wb_iast hX sh_185 hi_4 dX11_tellsWay_31 (pq := 32) rfl ?_
      refine wb_mem (fun s_5 es_5 => ?_)
      have h := nmM_s h s_5 es_5
      refine wb_aload_n 0 hX dX11_tellsWay_32 rfl (pq := 33) rfl ?_
      refine wb_getR hX fl_1547 sh_161 rfl dX11_tellsWay_33 (pq := 36) rfl ?_
      refine wb_iload_n 2 hX dX11_tellsWay_36 rfl (pq := 37) rfl ?_
      refine wb_iald hX sh_180 hi_3 dX11_tellsWay_37 (pq := 38) rfl ?_
      refine wb_istore_n (loc' := [(3, .int (s_5.1 180 x3.toNatClampNeg)), (0, .ref (G.1 161)), (2, .int x2), (4, .int x4)]) hX hN dX11_tellsWay_38 (by decide) rfl (pq := 39) rfl ?_
      refine wb_iinc (v := (x4 + iI (-1))) (loc' := [(4, .int (x4 + iI (-1))), (3, .int (s_5.1 180 x3.toNatClampNeg)), (0, .ref (G.1 161)), (2, .int x2)]) 3 hX hN dX11_tellsWay_39 rfl rfl (by decide) rfl (pq := 42) rfl ?_
      refine wb_goto (tgt := 14) hX dX11_tellsWay_42 (by decide) ?_
      refine wb_sub [2, 3, 1, 0] (loc' := [(0, .ref (G.1 161)), (2, .int x2), (3, .int (s_5.1 180 x3.toNatClampNeg)), (4, .int (x4 + iI (-1)))]) rfl ?_
      exact hk14 _ _ _ h
set_option maxHeartbeats 4000000 in
set_option maxRecDepth 100000 in
theorem tM_tellsWay {l : Launch} {G : wG} {s : wM} {x1 : Int32} {r0 : Int32} {s1 : wM} (h : fM_tellsWay s x1 = some (r0, s1)) : wMet l G yX11_tellsWay cX11_tellsWay 5 (some .int) 1 [.ref (G.1 161), .int x1] s (wQi G r0 s1) := by
  refine wMet_of (own := RX11) (by decide +kernel) rfl (Nat.le_of_ble_eq_true rfl) ?_
  intro X hX hQ hN hl
  show WB G X 0 [(0, .ref (G.1 161)), (1, .int x1)] [] s
  unfold fM_tellsWay at h
  refine wb_aload_n 0 hX dX11_tellsWay_0 rfl (pq := 1) rfl ?_
  refine wb_getR hX fl_1549 sh_161 rfl dX11_tellsWay_1 (pq := 4) rfl ?_
  refine wb_iload_n 1 hX dX11_tellsWay_4 rfl (pq := 5) rfl ?_
  obtain ⟨hi_1, h⟩ := chk_some h
  refine wb_iald hX sh_182 hi_1 dX11_tellsWay_5 (pq := 6) rfl ?_
  refine wb_istore_n (loc' := [(2, .int (s.1 182 x1.toNatClampNeg)), (0, .ref (G.1 161)), (1, .int x1)]) hX hN dX11_tellsWay_6 (by decide) rfl (pq := 7) rfl ?_
  refine wb_iload_n 2 hX dX11_tellsWay_7 rfl (pq := 8) rfl ?_
  refine wb_istore_n (loc' := [(3, .int x1), (2, .int (s.1 182 x1.toNatClampNeg)), (0, .ref (G.1 161)), (1, .int x1)]) hX hN dX11_tellsWay_8 (by decide) rfl (pq := 9) rfl ?_
  refine wb_iload_n 1 hX dX11_tellsWay_9 rfl (pq := 10) rfl ?_
  refine wb_iconst (v := iI (1)) hX dX11_tellsWay_10 rfl (pq := 11) rfl ?_
  refine wb_isub hX dX11_tellsWay_11 (pq := 12) rfl ?_
  refine wb_istore (loc' := [(4, .int ((s.1 182 x1.toNatClampNeg) - (iI (1)))), (3, .int x1), (2, .int (s.1 182 x1.toNatClampNeg)), (0, .ref (G.1 161)), (1, .int x1)]) hX hN dX11_tellsWay_12 (by decide) rfl (pq := 14) rfl ?_
  refine wb_sub [3, 2, 1, 0] (loc' := [(0, .ref (G.1 161)), (2, .int (s.1 182 x1.toNatClampNeg)), (3, .int x1), (4, .int ((s.1 182 x1.toNatClampNeg) - (iI (1))))]) rfl ?_
  exact tM_tellsWay_L14 hX hQ hN 100000 _ _ _ h
set_option maxHeartbeats 4000000 in
set_option maxRecDepth 100000 in
theorem tM_reach_J79 {G : wG} {X : wX} {k43 : Int32 → Int32 → Int32 → wM → Option (Int32 × wM)} {x3 : Int32} {x4 : Int32} {x5 : Int32} {v0 : Int32} {v1 : Int32} {s : wM} {r0 : Int32} {s1 : wM} (hX : wOK G X cX11_reach RX11 (some .int) 4) (hQ : wRt G X (wQi G r0 s1)) (hN : wNl X = 6) (hk43 : ∀ (x2 : Int32) (x3 : Int32) (x4 : Int32) (s : wM), k43 x2 x3 x4 s = some (r0, s1) → WB G X 43 [(0, .ref (G.1 161)), (2, .int x2), (3, .int x3), (4, .int x4)] [] s) (h : fM_reach_J79 k43 x3 x4 x5 v0 v1 s = some (r0, s1)) : WB G X 79 [(0, .ref (G.1 161)), (3, .int x3), (4, .int x4), (5, .int x5)] [.int v0, .int v1] s := by
  unfold fM_reach_J79 at h
  obtain ⟨q_2, hc_1, h⟩ := bind_s h
  refine wb_callSi (r0 := q_2) (s1 := s) [.int v0] hX ml_1151 (tM_flag hc_1) (by decide) rfl rfl (Nat.le_of_ble_eq_true rfl) dX11_reach_79 (pq := 82) rfl ?_
  refine wb_iadd hX dX11_reach_82 (pq := 83) rfl ?_
  refine wb_istore_n (loc' := [(2, .int (v1 + q_2)), (0, .ref (G.1 161)), (3, .int x3), (4, .int x4), (5, .int x5)]) hX hN dX11_reach_83 (by decide) rfl (pq := 84) rfl ?_
  refine wb_iload_n 2 hX dX11_reach_84 rfl (pq := 85) rfl ?_
  refine wb_iload 4 hX dX11_reach_85 rfl (pq := 87) rfl ?_
  refine wb_mmin hX k_1136 k_394 k_14 k_395 (Nat.le_of_ble_eq_true rfl) dX11_reach_87 (pq := 90) rfl ?_
  refine wb_istore_n (loc' := [(3, .int (iMin x3 x5)), (2, .int (v1 + q_2)), (0, .ref (G.1 161)), (4, .int x4), (5, .int x5)]) hX hN dX11_reach_90 (by decide) rfl (pq := 91) rfl ?_
  refine wb_iinc (v := (x4 + iI (1))) (loc' := [(4, .int (x4 + iI (1))), (3, .int (iMin x3 x5)), (2, .int (v1 + q_2)), (0, .ref (G.1 161)), (5, .int x5)]) 3 hX hN dX11_reach_91 rfl rfl (by decide) rfl (pq := 94) rfl ?_
  refine wb_goto (tgt := 43) hX dX11_reach_94 (by decide) ?_
  refine wb_sub [3, 2, 1, 0] (loc' := [(0, .ref (G.1 161)), (2, .int (v1 + q_2)), (3, .int (iMin x3 x5)), (4, .int (x4 + iI (1)))]) rfl ?_
  exact hk43 _ _ _ _ h
set_option maxHeartbeats 4000000 in
set_option maxRecDepth 100000 in
theorem tM_reach_L43 {G : wG} {X : wX} {r0 : Int32} {s1 : wM} (hX : wOK G X cX11_reach RX11 (some .int) 4) (hQ : wRt G X (wQi G r0 s1)) (hN : wNl X = 6) : ∀ (n : Nat) (x2 : Int32) (x3 : Int32) (x4 : Int32) (s : wM), wh4 (fM_reach_L43) n x2 x3 x4 s = some (r0, s1) → WB G X 43 [(0, .ref (G.1 161)), (2, .int x2), (3, .int x3), (4, .int x4)] [] s := by
  intro n
  induction n with
  | zero => intro x2 x3 x4 s h; cases h
  | succ n hk43 =>
    intro x2 x3 x4 s h
    have h : fM_reach_L43 x2 x3 x4 s (wh4 (fM_reach_L43) n) = some (r0, s1) := h
    unfold fM_reach_L43 at h
    refine wb_iload 3 hX dX11_reach_43 rfl (pq := 45) rfl ?_
    refine wb_aload_n 0 hX dX11_reach_45 rfl (pq := 46) rfl ?_
    refine wb_getI hX fl_1552 sh_161 rfl dX11_reach_46 (pq := 49) rfl ?_
    refine wb_icmp_ge (tgt := 97) hX dX11_reach_49 (by decide) (fun c_1 => ?_) (pq := 52) rfl (fun c_1 => ?_)
    · have h := ite_t c_1 h
      refine wb_aload_n 0 hX dX11_reach_97 rfl (pq := 98) rfl ?_
      refine wb_iconst (v := iI (0)) hX dX11_reach_98 rfl (pq := 99) rfl ?_
      refine wb_putI hX fp_1519 sh_161 rfl dX11_reach_99 rfl rfl (pq := 102) rfl ?_
      refine wb_mem (fun s_2 es_2 => ?_)
      have h := nmM_s h s_2 es_2
      refine wb_aload_n 0 hX dX11_reach_102 rfl (pq := 103) rfl ?_
      refine wb_iload_n 1 hX dX11_reach_103 rfl (pq := 104) rfl ?_
      obtain ⟨q_4, hc_3, h⟩ := bind_s h
      refine wb_callVv (s1 := q_4) [.int x2] hX sh_161 ml_1263 (tM_enters hc_3) (by decide) rfl rfl (Nat.le_of_ble_eq_true rfl) dX11_reach_104 (pq := 107) rfl ?_
      refine wb_aload_n 0 hX dX11_reach_107 rfl (pq := 108) rfl ?_
      refine wb_iload_n 2 hX dX11_reach_108 rfl (pq := 109) rfl ?_
      obtain ⟨q_6, hc_5, h⟩ := bind_s h
      refine wb_callVv (s1 := q_6) [.int x3] hX sh_161 ml_1263 (tM_enters hc_5) (by decide) rfl rfl (Nat.le_of_ble_eq_true rfl) dX11_reach_109 (pq := 112) rfl ?_
      refine wb_aload_n 0 hX dX11_reach_112 rfl (pq := 113) rfl ?_
      refine wb_getI hX fl_1552 sh_161 rfl dX11_reach_113 (pq := 116) rfl ?_
      exact wb_iret hX hQ h dX11_reach_116
    · have h := ite_f c_1 h
      refine wb_aload_n 0 hX dX11_reach_52 rfl (pq := 53) rfl ?_
      refine wb_iload 3 hX dX11_reach_53 rfl (pq := 55) rfl ?_
      obtain ⟨q_8, hc_7, h⟩ := bind_s h
      refine wb_callVv (s1 := q_8) [.int x4] hX sh_161 ml_1333 (tM_unpacks hc_7) (by decide) rfl rfl (Nat.le_of_ble_eq_true rfl) dX11_reach_55 (pq := 58) rfl ?_
      refine wb_aload_n 0 hX dX11_reach_58 rfl (pq := 59) rfl ?_
      refine wb_aload_n 0 hX dX11_reach_59 rfl (pq := 60) rfl ?_
      refine wb_getR hX fl_1551 sh_161 rfl dX11_reach_60 (pq := 63) rfl ?_
      obtain ⟨q_10, hc_9, h⟩ := bind_s h
      refine wb_callVi (r0 := q_10) (s1 := q_8) [.ref (G.1 184)] hX sh_161 ml_1289 (tM_evenPairs sh_184 hc_9) (by decide) rfl rfl (Nat.le_of_ble_eq_true rfl) dX11_reach_63 (pq := 66) rfl ?_
      refine wb_istore (loc' := [(5, .int q_10), (0, .ref (G.1 161)), (2, .int x2), (3, .int x3), (4, .int x4)]) hX hN dX11_reach_66 (by decide) rfl (pq := 68) rfl ?_
      refine wb_iload_n 2 hX dX11_reach_68 rfl (pq := 69) rfl ?_
      refine wb_iload 0 hX dX11_reach_69 rfl (pq := 71) rfl ?_
      refine wb_if_ne (tgt := 78) hX dX11_reach_71 (by decide) (pq := 74) rfl (fun c_11 => ?_) (fun c_11 => ?_)
      · have h := ite_t c_11 h
        refine wb_iconst (v := iI (1)) hX dX11_reach_74 rfl (pq := 75) rfl ?_
        refine wb_goto (tgt := 79) hX dX11_reach_75 (by decide) ?_
        refine wb_sub [1, 3, 4, 0] (loc' := [(0, .ref (G.1 161)), (3, .int x3), (4, .int x4), (5, .int q_10)]) rfl ?_
        exact tM_reach_J79 hX hQ hN hk43 h
      · have h := ite_f c_11 h
        refine wb_iconst (v := iI (0)) hX dX11_reach_78 rfl (pq := 79) rfl ?_
        refine wb_sub [1, 3, 4, 0] (loc' := [(0, .ref (G.1 161)), (3, .int x3), (4, .int x4), (5, .int q_10)]) rfl ?_
        exact tM_reach_J79 hX hQ hN hk43 h
set_option maxHeartbeats 4000000 in
set_option maxRecDepth 100000 in
theorem tM_reach {l : Launch} {G : wG} {s : wM} {x1 : Int32} {r0 : Int32} {s1 : wM} (h : fM_reach s x1 = some (r0, s1)) : wMet l G yX11_reach cX11_reach 6 (some .int) 4 [.ref (G.1 161), .int x1] s (wQi G r0 s1) := by
  refine wMet_of (own := RX11) (by decide +kernel) rfl (Nat.le_of_ble_eq_true rfl) ?_
  intro X hX hQ hN hl
  show WB G X 0 [(0, .ref (G.1 161)), (1, .int x1)] [] s
  unfold fM_reach at h
  refine wb_aload_n 0 hX dX11_reach_0 rfl (pq := 1) rfl ?_
  refine wb_iconst (v := iI (0)) hX dX11_reach_1 rfl (pq := 2) rfl ?_
  refine wb_putI hX fp_1518 sh_161 rfl dX11_reach_2 rfl rfl (pq := 5) rfl ?_
  refine wb_mem (fun s_1 es_1 => ?_)
  have h := nmM_s h s_1 es_1
  refine wb_iload_n 1 hX dX11_reach_5 rfl (pq := 6) rfl ?_
  refine wb_i2l hX dX11_reach_6 (pq := 7) rfl ?_
  refine wb_lconst (v := (0 : Int64)) hX dX11_reach_7 rfl (pq := 8) rfl ?_
  refine wb_ldc2 (v := (4 : Int64)) hX k_1174 dX11_reach_8 (pq := 11) rfl ?_
  obtain ⟨q_3, hc_2, h⟩ := bind_s h
  refine wb_callSi (r0 := q_3) (s1 := s_1) [.long x1.toInt64, .long (0 : Int64), .long (4 : Int64)] hX ml_1124 (tM_in hc_2) (by decide) rfl rfl (Nat.le_of_ble_eq_true rfl) dX11_reach_11 (pq := 14) rfl ?_
  refine wb_if_ne (tgt := 19) hX dX11_reach_14 (by decide) (pq := 17) rfl (fun c_4 => ?_) (fun c_4 => ?_)
  · have h := ite_t c_4 h
    refine wb_iconst (v := iI (-1)) hX dX11_reach_17 rfl (pq := 18) rfl ?_
    exact wb_iret hX hQ h dX11_reach_18
  · have h := ite_f c_4 h
    refine wb_aload_n 0 hX dX11_reach_19 rfl (pq := 20) rfl ?_
    refine wb_aload_n 0 hX dX11_reach_20 rfl (pq := 21) rfl ?_
    refine wb_getR hX fl_1522 sh_161 rfl dX11_reach_21 (pq := 24) rfl ?_
    refine wb_iload_n 1 hX dX11_reach_24 rfl (pq := 25) rfl ?_
    obtain ⟨q_6, hc_5, h⟩ := bind_s h
    refine wb_callVi (r0 := q_6.1) (s1 := q_6.2) [.ref (G.1 163), .int x1] hX sh_161 ml_1306 (tM_findsAll sh_163 hc_5) (by decide) rfl rfl (Nat.le_of_ble_eq_true rfl) dX11_reach_25 (pq := 28) rfl ?_
    refine wb_if_ne (tgt := 34) hX dX11_reach_28 (by decide) (pq := 31) rfl (fun c_7 => ?_) (fun c_7 => ?_)
    · have h := ite_t c_7 h
      refine wb_bipush (v := iI (-3)) hX dX11_reach_31 (by decide) (pq := 33) rfl ?_
      exact wb_iret hX hQ h dX11_reach_33
    · have h := ite_f c_7 h
      refine wb_iconst (v := iI (0)) hX dX11_reach_34 rfl (pq := 35) rfl ?_
      refine wb_istore_n (loc' := [(2, .int (iI (0))), (0, .ref (G.1 161)), (1, .int x1)]) hX hN dX11_reach_35 (by decide) rfl (pq := 36) rfl ?_
      refine wb_ldcw (v := (2147483647 : Int32)) hX k_1338 dX11_reach_36 (pq := 39) rfl ?_
      refine wb_istore_n (loc' := [(3, .int (2147483647 : Int32)), (2, .int (iI (0))), (0, .ref (G.1 161)), (1, .int x1)]) hX hN dX11_reach_39 (by decide) rfl (pq := 40) rfl ?_
      refine wb_iconst (v := iI (0)) hX dX11_reach_40 rfl (pq := 41) rfl ?_
      refine wb_istore (loc' := [(4, .int (iI (0))), (3, .int (2147483647 : Int32)), (2, .int (iI (0))), (0, .ref (G.1 161)), (1, .int x1)]) hX hN dX11_reach_41 (by decide) rfl (pq := 43) rfl ?_
      refine wb_sub [3, 2, 1, 0] (loc' := [(0, .ref (G.1 161)), (2, .int (iI (0))), (3, .int (2147483647 : Int32)), (4, .int (iI (0)))]) rfl ?_
      exact tM_reach_L43 hX hQ hN 100000 _ _ _ _ h
set_option maxHeartbeats 4000000 in
set_option maxRecDepth 100000 in
theorem tM_fewestTo_J99 {G : wG} {X : wX} {k16 : Int32 → Int32 → Int32 → wM → Option (Int32 × wM)} {k29 : Int32 → Int32 → wM → Option (Int32 × wM)} {x1 : Int32} {x2 : Int32} {x4 : Int32} {x5 : Int32} {v0 : Int32} {s : wM} {r0 : Int32} {s1 : wM} (hX : wOK G X cX11_fewestTo RX11 (some .int) 4) (hQ : wRt G X (wQi G r0 s1)) (hN : wNl X = 7) (hk16 : ∀ (x3 : Int32) (x4 : Int32) (x5 : Int32) (s : wM), k16 x3 x4 x5 s = some (r0, s1) → WB G X 16 [(0, .ref (G.1 161)), (1, .int x1), (2, .int x2), (3, .int x3), (4, .int x4), (5, .int x5)] [] s) (hk29 : ∀ (x3 : Int32) (x4 : Int32) (s : wM), k29 x3 x4 s = some (r0, s1) → WB G X 29 [(0, .ref (G.1 161)), (1, .int x1), (2, .int x2), (3, .int x3), (4, .int x4), (5, .int x5)] [] s) (h : fM_fewestTo_J99 k16 k29 x1 x2 x4 x5 v0 s = some (r0, s1)) : WB G X 99 [(0, .ref (G.1 161)), (1, .int x1), (2, .int x2), (4, .int x4), (5, .int x5)] [.int v0] s := by
  unfold fM_fewestTo_J99 at h
  refine wb_istore_n (loc' := [(3, .int v0), (0, .ref (G.1 161)), (1, .int x1), (2, .int x2), (4, .int x4), (5, .int x5)]) hX hN dX11_fewestTo_99 (by decide) rfl (pq := 100) rfl ?_
  refine wb_iinc (v := (x4 + iI (1))) (loc' := [(4, .int (x4 + iI (1))), (3, .int v0), (0, .ref (G.1 161)), (1, .int x1), (2, .int x2), (5, .int x5)]) 4 hX hN dX11_fewestTo_100 rfl rfl (by decide) rfl (pq := 103) rfl ?_
  refine wb_goto (tgt := 29) hX dX11_fewestTo_103 (by decide) ?_
  refine wb_sub [2, 3, 4, 1, 0, 5] (loc' := [(0, .ref (G.1 161)), (1, .int x1), (2, .int x2), (3, .int v0), (4, .int (x4 + iI (1))), (5, .int x5)]) rfl ?_
  exact hk29 _ _ _ h
set_option maxHeartbeats 4000000 in
set_option maxRecDepth 100000 in
theorem tM_fewestTo_J86 {G : wG} {X : wX} {k16 : Int32 → Int32 → Int32 → wM → Option (Int32 × wM)} {k29 : Int32 → Int32 → wM → Option (Int32 × wM)} {x1 : Int32} {x2 : Int32} {x3 : Int32} {x4 : Int32} {x5 : Int32} {v0 : Int32} {s : wM} {r0 : Int32} {s1 : wM} (hX : wOK G X cX11_fewestTo RX11 (some .int) 4) (hQ : wRt G X (wQi G r0 s1)) (hN : wNl X = 7) (hk16 : ∀ (x3 : Int32) (x4 : Int32) (x5 : Int32) (s : wM), k16 x3 x4 x5 s = some (r0, s1) → WB G X 16 [(0, .ref (G.1 161)), (1, .int x1), (2, .int x2), (3, .int x3), (4, .int x4), (5, .int x5)] [] s) (hk29 : ∀ (x3 : Int32) (x4 : Int32) (s : wM), k29 x3 x4 s = some (r0, s1) → WB G X 29 [(0, .ref (G.1 161)), (1, .int x1), (2, .int x2), (3, .int x3), (4, .int x4), (5, .int x5)] [] s) (h : fM_fewestTo_J86 k16 k29 x1 x2 x3 x4 x5 v0 s = some (r0, s1)) : WB G X 86 [(0, .ref (G.1 161)), (1, .int x1), (2, .int x2), (3, .int x3), (4, .int x4), (5, .int x5)] [.int v0] s := by
  unfold fM_fewestTo_J86 at h
  refine wb_istore (loc' := [(6, .int v0), (0, .ref (G.1 161)), (1, .int x1), (2, .int x2), (3, .int x3), (4, .int x4), (5, .int x5)]) hX hN dX11_fewestTo_86 (by decide) rfl (pq := 88) rfl ?_
  refine wb_iload 0 hX dX11_fewestTo_88 rfl (pq := 90) rfl ?_
  refine wb_if_eq (tgt := 98) hX dX11_fewestTo_90 (by decide) (fun c_1 => ?_) (pq := 93) rfl (fun c_1 => ?_)
  · have h := ite_t c_1 h
    refine wb_iload_n 4 hX dX11_fewestTo_98 rfl (pq := 99) rfl ?_
    refine wb_sub [1, 2, 3, 5, 6] (loc' := [(0, .ref (G.1 161)), (1, .int x1), (2, .int x2), (4, .int x4), (5, .int x5)]) rfl ?_
    exact tM_fewestTo_J99 hX hQ hN hk16 hk29 h
  · have h := ite_f c_1 h
    refine wb_iload 5 hX dX11_fewestTo_93 rfl (pq := 95) rfl ?_
    refine wb_goto (tgt := 99) hX dX11_fewestTo_95 (by decide) ?_
    refine wb_sub [1, 2, 3, 5, 6] (loc' := [(0, .ref (G.1 161)), (1, .int x1), (2, .int x2), (4, .int x4), (5, .int x5)]) rfl ?_
    exact tM_fewestTo_J99 hX hQ hN hk16 hk29 h
set_option maxHeartbeats 4000000 in
set_option maxRecDepth 100000 in
theorem tM_fewestTo_J126 {G : wG} {X : wX} {k16 : Int32 → Int32 → Int32 → wM → Option (Int32 × wM)} {x1 : Int32} {x2 : Int32} {x3 : Int32} {x4 : Int32} {x5 : Int32} {s : wM} {r0 : Int32} {s1 : wM} (hX : wOK G X cX11_fewestTo RX11 (some .int) 4) (hQ : wRt G X (wQi G r0 s1)) (hN : wNl X = 7) (hk16 : ∀ (x3 : Int32) (x4 : Int32) (x5 : Int32) (s : wM), k16 x3 x4 x5 s = some (r0, s1) → WB G X 16 [(0, .ref (G.1 161)), (1, .int x1), (2, .int x2), (3, .int x3), (4, .int x4), (5, .int x5)] [] s) (h : fM_fewestTo_J126 k16 x1 x2 x3 x4 x5 s = some (r0, s1)) : WB G X 126 [(0, .ref (G.1 161)), (1, .int x1), (2, .int x2), (3, .int x3), (4, .int x4), (5, .int x5)] [] s := by
  unfold fM_fewestTo_J126 at h
  refine wb_iinc (v := (x5 + iI (1))) (loc' := [(5, .int (x5 + iI (1))), (0, .ref (G.1 161)), (1, .int x1), (2, .int x2), (3, .int x3), (4, .int x4)]) 5 hX hN dX11_fewestTo_126 rfl rfl (by decide) rfl (pq := 129) rfl ?_
  refine wb_goto (tgt := 16) hX dX11_fewestTo_129 (by decide) ?_
  refine wb_sub [1, 2, 3, 4, 5, 0] (loc' := [(0, .ref (G.1 161)), (1, .int x1), (2, .int x2), (3, .int x3), (4, .int x4), (5, .int (x5 + iI (1)))]) rfl ?_
  exact hk16 _ _ _ _ h
set_option maxHeartbeats 4000000 in
set_option maxRecDepth 100000 in
theorem tM_fewestTo_J106 {G : wG} {X : wX} {k16 : Int32 → Int32 → Int32 → wM → Option (Int32 × wM)} {x1 : Int32} {x2 : Int32} {x3 : Int32} {x4 : Int32} {x5 : Int32} {s : wM} {r0 : Int32} {s1 : wM} (hX : wOK G X cX11_fewestTo RX11 (some .int) 4) (hQ : wRt G X (wQi G r0 s1)) (hN : wNl X = 7) (hk16 : ∀ (x3 : Int32) (x4 : Int32) (x5 : Int32) (s : wM), k16 x3 x4 x5 s = some (r0, s1) → WB G X 16 [(0, .ref (G.1 161)), (1, .int x1), (2, .int x2), (3, .int x3), (4, .int x4), (5, .int x5)] [] s) (h : fM_fewestTo_J106 k16 x1 x2 x3 x4 x5 s = some (r0, s1)) : WB G X 106 [(0, .ref (G.1 161)), (1, .int x1), (2, .int x2), (3, .int x3), (4, .int x4), (5, .int x5)] [] s := by
  unfold fM_fewestTo_J106 at h
  refine wb_iload_n 3 hX dX11_fewestTo_106 rfl (pq := 107) rfl ?_
  refine wb_if_ge (tgt := 126) hX dX11_fewestTo_107 (by decide) (fun c_1 => ?_) (pq := 110) rfl (fun c_1 => ?_)
  · have h := ite_t c_1 h
    exact tM_fewestTo_J126 hX hQ hN hk16 h
  · have h := ite_f c_1 h
    refine wb_aload_n 0 hX dX11_fewestTo_110 rfl (pq := 111) rfl ?_
    refine wb_getI hX fl_1553 sh_161 rfl dX11_fewestTo_111 (pq := 114) rfl ?_
    refine wb_if_ne (tgt := 126) hX dX11_fewestTo_114 (by decide) (pq := 117) rfl (fun c_2 => ?_) (fun c_2 => ?_)
    · have h := ite_t c_2 h
      refine wb_aload_n 0 hX dX11_fewestTo_117 rfl (pq := 118) rfl ?_
      refine wb_iload 5 hX dX11_fewestTo_118 rfl (pq := 120) rfl ?_
      refine wb_sipush (v := iI (3000)) hX dX11_fewestTo_120 (by decide) (pq := 123) rfl ?_
      obtain ⟨q_4, hc_3, h⟩ := bind_s h
      refine wb_callVv (s1 := q_4) [.int x5, .int (iI (3000))] hX sh_161 ml_1329 (tM_findsFrom hc_3) (by decide) rfl rfl (Nat.le_of_ble_eq_true rfl) dX11_fewestTo_123 (pq := 126) rfl ?_
      exact tM_fewestTo_J126 hX hQ hN hk16 h
    · have h := ite_f c_2 h
      exact tM_fewestTo_J126 hX hQ hN hk16 h
set_option maxHeartbeats 4000000 in
set_option maxRecDepth 100000 in
theorem tM_fewestTo_L29 {G : wG} {X : wX} {k16 : Int32 → Int32 → Int32 → wM → Option (Int32 × wM)} {x1 : Int32} {x2 : Int32} {x5 : Int32} {r0 : Int32} {s1 : wM} (hX : wOK G X cX11_fewestTo RX11 (some .int) 4) (hQ : wRt G X (wQi G r0 s1)) (hN : wNl X = 7) (hk16 : ∀ (x3 : Int32) (x4 : Int32) (x5 : Int32) (s : wM), k16 x3 x4 x5 s = some (r0, s1) → WB G X 16 [(0, .ref (G.1 161)), (1, .int x1), (2, .int x2), (3, .int x3), (4, .int x4), (5, .int x5)] [] s) : ∀ (n : Nat) (x3 : Int32) (x4 : Int32) (s : wM), wh3 (fM_fewestTo_L29 k16 x1 x2 x5) n x3 x4 s = some (r0, s1) → WB G X 29 [(0, .ref (G.1 161)), (1, .int x1), (2, .int x2), (3, .int x3), (4, .int x4), (5, .int x5)] [] s := by
  intro n
  induction n with
  | zero => intro x3 x4 s h; cases h
  | succ n hk29 =>
    intro x3 x4 s h
    have h : fM_fewestTo_L29 k16 x1 x2 x5 x3 x4 s (wh3 (fM_fewestTo_L29 k16 x1 x2 x5) n) = some (r0, s1) := h
    unfold fM_fewestTo_L29 at h
    refine wb_iload 4 hX dX11_fewestTo_29 rfl (pq := 31) rfl ?_
    refine wb_aload_n 0 hX dX11_fewestTo_31 rfl (pq := 32) rfl ?_
    refine wb_getI hX fl_1552 sh_161 rfl dX11_fewestTo_32 (pq := 35) rfl ?_
    refine wb_icmp_ge (tgt := 106) hX dX11_fewestTo_35 (by decide) (fun c_1 => ?_) (pq := 38) rfl (fun c_1 => ?_)
    · have h := ite_t c_1 h
      exact tM_fewestTo_J106 hX hQ hN hk16 h
    · have h := ite_f c_1 h
      refine wb_iload_n 3 hX dX11_fewestTo_38 rfl (pq := 39) rfl ?_
      refine wb_if_ge (tgt := 106) hX dX11_fewestTo_39 (by decide) (fun c_2 => ?_) (pq := 42) rfl (fun c_2 => ?_)
      · have h := ite_t c_2 h
        exact tM_fewestTo_J106 hX hQ hN hk16 h
      · have h := ite_f c_2 h
        refine wb_aload_n 0 hX dX11_fewestTo_42 rfl (pq := 43) rfl ?_
        refine wb_iload 4 hX dX11_fewestTo_43 rfl (pq := 45) rfl ?_
        obtain ⟨q_4, hc_3, h⟩ := bind_s h
        refine wb_callVv (s1 := q_4) [.int x4] hX sh_161 ml_1333 (tM_unpacks hc_3) (by decide) rfl rfl (Nat.le_of_ble_eq_true rfl) dX11_fewestTo_45 (pq := 48) rfl ?_
        refine wb_iload_n 1 hX dX11_fewestTo_48 rfl (pq := 49) rfl ?_
        refine wb_if_ge (tgt := 71) hX dX11_fewestTo_49 (by decide) (fun c_5 => ?_) (pq := 52) rfl (fun c_5 => ?_)
        · have h := ite_t c_5 h
          refine wb_aload_n 0 hX dX11_fewestTo_71 rfl (pq := 72) rfl ?_
          refine wb_getR hX fl_1551 sh_161 rfl dX11_fewestTo_72 (pq := 75) rfl ?_
          refine wb_iload_n 1 hX dX11_fewestTo_75 rfl (pq := 76) rfl ?_
          obtain ⟨hi_6, h⟩ := chk_some h
          refine wb_iald hX sh_184 hi_6 dX11_fewestTo_76 (pq := 77) rfl ?_
          refine wb_iload_n 2 hX dX11_fewestTo_77 rfl (pq := 78) rfl ?_
          refine wb_icmp_lt (tgt := 85) hX dX11_fewestTo_78 (by decide) (fun c_7 => ?_) (pq := 81) rfl (fun c_7 => ?_)
          · have h := ite_t c_7 h
            refine wb_iconst (v := iI (0)) hX dX11_fewestTo_85 rfl (pq := 86) rfl ?_
            exact tM_fewestTo_J86 hX hQ hN hk16 hk29 h
          · have h := ite_f c_7 h
            refine wb_iconst (v := iI (1)) hX dX11_fewestTo_81 rfl (pq := 82) rfl ?_
            refine wb_goto (tgt := 86) hX dX11_fewestTo_82 (by decide) ?_
            exact tM_fewestTo_J86 hX hQ hN hk16 hk29 h
        · have h := ite_f c_5 h
          refine wb_aload_n 0 hX dX11_fewestTo_52 rfl (pq := 53) rfl ?_
          refine wb_aload_n 0 hX dX11_fewestTo_53 rfl (pq := 54) rfl ?_
          refine wb_getR hX fl_1551 sh_161 rfl dX11_fewestTo_54 (pq := 57) rfl ?_
          obtain ⟨q_9, hc_8, h⟩ := bind_s h
          refine wb_callVi (r0 := q_9) (s1 := q_4) [.ref (G.1 184)] hX sh_161 ml_1289 (tM_evenPairs sh_184 hc_8) (by decide) rfl rfl (Nat.le_of_ble_eq_true rfl) dX11_fewestTo_57 (pq := 60) rfl ?_
          refine wb_if_ne (tgt := 67) hX dX11_fewestTo_60 (by decide) (pq := 63) rfl (fun c_10 => ?_) (fun c_10 => ?_)
          · have h := ite_t c_10 h
            refine wb_iconst (v := iI (1)) hX dX11_fewestTo_63 rfl (pq := 64) rfl ?_
            refine wb_goto (tgt := 86) hX dX11_fewestTo_64 (by decide) ?_
            exact tM_fewestTo_J86 hX hQ hN hk16 hk29 h
          · have h := ite_f c_10 h
            refine wb_iconst (v := iI (0)) hX dX11_fewestTo_67 rfl (pq := 68) rfl ?_
            refine wb_goto (tgt := 86) hX dX11_fewestTo_68 (by decide) ?_
            exact tM_fewestTo_J86 hX hQ hN hk16 hk29 h
set_option maxHeartbeats 4000000 in
set_option maxRecDepth 100000 in
theorem tM_fewestTo_J150 {G : wG} {X : wX} {v0 : Int32} {s : wM} {r0 : Int32} {s1 : wM} (hX : wOK G X cX11_fewestTo RX11 (some .int) 4) (hQ : wRt G X (wQi G r0 s1)) (hN : wNl X = 7) (h : fM_fewestTo_J150 v0 s = some (r0, s1)) : WB G X 150 [] [.int v0] s := by
  unfold fM_fewestTo_J150 at h
  exact wb_iret hX hQ h dX11_fewestTo_150
set_option maxHeartbeats 4000000 in
set_option maxRecDepth 100000 in
theorem tM_fewestTo_J132 {G : wG} {X : wX} {x3 : Int32} {s : wM} {r0 : Int32} {s1 : wM} (hX : wOK G X cX11_fewestTo RX11 (some .int) 4) (hQ : wRt G X (wQi G r0 s1)) (hN : wNl X = 7) (h : fM_fewestTo_J132 x3 s = some (r0, s1)) : WB G X 132 [(0, .ref (G.1 161)), (3, .int x3)] [] s := by
  unfold fM_fewestTo_J132 at h
  refine wb_iload_n 1 hX dX11_fewestTo_132 rfl (pq := 133) rfl ?_
  refine wb_if_ge (tgt := 151) hX dX11_fewestTo_133 (by decide) (fun c_1 => ?_) (pq := 136) rfl (fun c_1 => ?_)
  · have h := ite_t c_1 h
    refine wb_aload_n 0 hX dX11_fewestTo_151 rfl (pq := 152) rfl ?_
    refine wb_iload_n 1 hX dX11_fewestTo_152 rfl (pq := 153) rfl ?_
    obtain ⟨q_3, hc_2, h⟩ := bind_s h
    refine wb_callVi (r0 := q_3.1) (s1 := q_3.2) [.int x3] hX sh_161 ml_1347 (tM_tellsWay hc_2) (by decide) rfl rfl (Nat.le_of_ble_eq_true rfl) dX11_fewestTo_153 (pq := 156) rfl ?_
    exact wb_iret hX hQ h dX11_fewestTo_156
  · have h := ite_f c_1 h
    refine wb_aload_n 0 hX dX11_fewestTo_136 rfl (pq := 137) rfl ?_
    refine wb_getI hX fl_1553 sh_161 rfl dX11_fewestTo_137 (pq := 140) rfl ?_
    refine wb_if_eq (tgt := 148) hX dX11_fewestTo_140 (by decide) (fun c_4 => ?_) (pq := 143) rfl (fun c_4 => ?_)
    · have h := ite_t c_4 h
      refine wb_bipush (v := iI (-2)) hX dX11_fewestTo_148 (by decide) (pq := 150) rfl ?_
      refine wb_sub [] (loc' := []) rfl ?_
      exact tM_fewestTo_J150 hX hQ hN h
    · have h := ite_f c_4 h
      refine wb_bipush (v := iI (-3)) hX dX11_fewestTo_143 (by decide) (pq := 145) rfl ?_
      refine wb_goto (tgt := 150) hX dX11_fewestTo_145 (by decide) ?_
      refine wb_sub [] (loc' := []) rfl ?_
      exact tM_fewestTo_J150 hX hQ hN h
set_option maxHeartbeats 4000000 in
set_option maxRecDepth 100000 in
theorem tM_fewestTo_L16 {G : wG} {X : wX} {x1 : Int32} {x2 : Int32} {r0 : Int32} {s1 : wM} (hX : wOK G X cX11_fewestTo RX11 (some .int) 4) (hQ : wRt G X (wQi G r0 s1)) (hN : wNl X = 7) : ∀ (n : Nat) (x3 : Int32) (x4 : Int32) (x5 : Int32) (s : wM), wh4 (fM_fewestTo_L16 x1 x2) n x3 x4 x5 s = some (r0, s1) → WB G X 16 [(0, .ref (G.1 161)), (1, .int x1), (2, .int x2), (3, .int x3), (4, .int x4), (5, .int x5)] [] s := by
  intro n
  induction n with
  | zero => intro x3 x4 x5 s h; cases h
  | succ n hk16 =>
    intro x3 x4 x5 s h
    have h : fM_fewestTo_L16 x1 x2 x3 x4 x5 s (wh4 (fM_fewestTo_L16 x1 x2) n) = some (r0, s1) := h
    unfold fM_fewestTo_L16 at h
    refine wb_iload_n 3 hX dX11_fewestTo_16 rfl (pq := 17) rfl ?_
    refine wb_if_ge (tgt := 132) hX dX11_fewestTo_17 (by decide) (fun c_1 => ?_) (pq := 20) rfl (fun c_1 => ?_)
    · have h := ite_t c_1 h
      refine wb_sub [0, 3] (loc' := [(0, .ref (G.1 161)), (3, .int x3)]) rfl ?_
      exact tM_fewestTo_J132 hX hQ hN h
    · have h := ite_f c_1 h
      refine wb_iload 5 hX dX11_fewestTo_20 rfl (pq := 22) rfl ?_
      refine wb_aload_n 0 hX dX11_fewestTo_22 rfl (pq := 23) rfl ?_
      refine wb_getI hX fl_1552 sh_161 rfl dX11_fewestTo_23 (pq := 26) rfl ?_
      refine wb_icmp_ge (tgt := 132) hX dX11_fewestTo_26 (by decide) (fun c_2 => ?_) (pq := 29) rfl (fun c_2 => ?_)
      · have h := ite_t c_2 h
        refine wb_sub [0, 3] (loc' := [(0, .ref (G.1 161)), (3, .int x3)]) rfl ?_
        exact tM_fewestTo_J132 hX hQ hN h
      · have h := ite_f c_2 h
        exact tM_fewestTo_L29 hX hQ hN hk16 100000 _ _ _ h
set_option maxHeartbeats 4000000 in
set_option maxRecDepth 100000 in
theorem tM_fewestTo {l : Launch} {G : wG} {s : wM} {x1 : Int32} {x2 : Int32} {r0 : Int32} {s1 : wM} (h : fM_fewestTo s x1 x2 = some (r0, s1)) : wMet l G yX11_fewestTo cX11_fewestTo 7 (some .int) 4 [.ref (G.1 161), .int x1, .int x2] s (wQi G r0 s1) := by
  refine wMet_of (own := RX11) (by decide +kernel) rfl (Nat.le_of_ble_eq_true rfl) ?_
  intro X hX hQ hN hl
  show WB G X 0 [(0, .ref (G.1 161)), (1, .int x1), (2, .int x2)] [] s
  unfold fM_fewestTo at h
  refine wb_aload_n 0 hX dX11_fewestTo_0 rfl (pq := 1) rfl ?_
  refine wb_aload_n 0 hX dX11_fewestTo_1 rfl (pq := 2) rfl ?_
  refine wb_getR hX fl_1522 sh_161 rfl dX11_fewestTo_2 (pq := 5) rfl ?_
  obtain ⟨q_2, hc_1, h⟩ := bind_s h
  refine wb_callVv (s1 := q_2) [.ref (G.1 163)] hX sh_161 ml_1310 (tM_findsFirst sh_163 hc_1) (by decide) rfl rfl (Nat.le_of_ble_eq_true rfl) dX11_fewestTo_5 (pq := 8) rfl ?_
  refine wb_iconst (v := iI (-1)) hX dX11_fewestTo_8 rfl (pq := 9) rfl ?_
  refine wb_istore_n (loc' := [(3, .int (iI (-1))), (0, .ref (G.1 161)), (1, .int x1), (2, .int x2)]) hX hN dX11_fewestTo_9 (by decide) rfl (pq := 10) rfl ?_
  refine wb_iconst (v := iI (0)) hX dX11_fewestTo_10 rfl (pq := 11) rfl ?_
  refine wb_istore (loc' := [(4, .int (iI (0))), (3, .int (iI (-1))), (0, .ref (G.1 161)), (1, .int x1), (2, .int x2)]) hX hN dX11_fewestTo_11 (by decide) rfl (pq := 13) rfl ?_
  refine wb_iconst (v := iI (0)) hX dX11_fewestTo_13 rfl (pq := 14) rfl ?_
  refine wb_istore (loc' := [(5, .int (iI (0))), (4, .int (iI (0))), (3, .int (iI (-1))), (0, .ref (G.1 161)), (1, .int x1), (2, .int x2)]) hX hN dX11_fewestTo_14 (by decide) rfl (pq := 16) rfl ?_
  refine wb_sub [3, 4, 5, 2, 1, 0] (loc' := [(0, .ref (G.1 161)), (1, .int x1), (2, .int x2), (3, .int (iI (-1))), (4, .int (iI (0))), (5, .int (iI (0)))]) rfl ?_
  exact tM_fewestTo_L16 hX hQ hN 100000 _ _ _ _ h
set_option maxHeartbeats 4000000 in
set_option maxRecDepth 100000 in
theorem tM_fewest {l : Launch} {G : wG} {s : wM} {r0 : Int32} {s1 : wM} (h : fM_fewest s = some (r0, s1)) : wMet l G yX11_fewest cX11_fewest 1 (some .int) 5 [.ref (G.1 161)] s (wQi G r0 s1) := by
  refine wMet_of (own := RX11) (by decide +kernel) rfl (Nat.le_of_ble_eq_true rfl) ?_
  intro X hX hQ hN hl
  show WB G X 0 [(0, .ref (G.1 161))] [] s
  unfold fM_fewest at h
  refine wb_aload_n 0 hX dX11_fewest_0 rfl (pq := 1) rfl ?_
  refine wb_iconst (v := iI (0)) hX dX11_fewest_1 rfl (pq := 2) rfl ?_
  refine wb_putI hX fp_1518 sh_161 rfl dX11_fewest_2 rfl rfl (pq := 5) rfl ?_
  refine wb_mem (fun s_1 es_1 => ?_)
  have h := nmM_s h s_1 es_1
  refine wb_aload_n 0 hX dX11_fewest_5 rfl (pq := 6) rfl ?_
  refine wb_iconst (v := iI (-1)) hX dX11_fewest_6 rfl (pq := 7) rfl ?_
  refine wb_iconst (v := iI (0)) hX dX11_fewest_7 rfl (pq := 8) rfl ?_
  obtain ⟨q_3, hc_2, h⟩ := bind_s h
  refine wb_callVi (r0 := q_3.1) (s1 := q_3.2) [.int (iI (-1)), .int (iI (0))] hX sh_161 ml_1343 (tM_fewestTo hc_2) (by decide) rfl rfl (Nat.le_of_ble_eq_true rfl) dX11_fewest_8 (pq := 11) rfl ?_
  exact wb_iret hX hQ h dX11_fewest_11
set_option maxHeartbeats 4000000 in
set_option maxRecDepth 100000 in
theorem tM_fill_J35 {G : wG} {X : wX} {v0 : Int32} {s : wM} {r0 : Int32} {s1 : wM} (hX : wOK G X cX11_fill RX11 (some .int) 5) (hQ : wRt G X (wQi G r0 s1)) (hN : wNl X = 3) (h : fM_fill_J35 v0 s = some (r0, s1)) : WB G X 35 [] [.int v0] s := by
  unfold fM_fill_J35 at h
  exact wb_iret hX hQ h dX11_fill_35
set_option maxHeartbeats 4000000 in
set_option maxRecDepth 100000 in
theorem tM_fill_J34 {G : wG} {X : wX} {s : wM} {r0 : Int32} {s1 : wM} (hX : wOK G X cX11_fill RX11 (some .int) 5) (hQ : wRt G X (wQi G r0 s1)) (hN : wNl X = 3) (h : fM_fill_J34 s = some (r0, s1)) : WB G X 34 [] [] s := by
  unfold fM_fill_J34 at h
  refine wb_iconst (v := iI (-1)) hX dX11_fill_34 rfl (pq := 35) rfl ?_
  exact tM_fill_J35 hX hQ hN h
set_option maxHeartbeats 4000000 in
set_option maxRecDepth 100000 in
theorem tM_fill {l : Launch} {G : wG} {s : wM} {x1 : Int32} {x2 : Int32} {r0 : Int32} {s1 : wM} (h : fM_fill s x1 x2 = some (r0, s1)) : wMet l G yX11_fill cX11_fill 3 (some .int) 5 [.ref (G.1 161), .int x1, .int x2] s (wQi G r0 s1) := by
  refine wMet_of (own := RX11) (by decide +kernel) rfl (Nat.le_of_ble_eq_true rfl) ?_
  intro X hX hQ hN hl
  show WB G X 0 [(0, .ref (G.1 161)), (1, .int x1), (2, .int x2)] [] s
  unfold fM_fill at h
  refine wb_aload_n 0 hX dX11_fill_0 rfl (pq := 1) rfl ?_
  refine wb_iconst (v := iI (0)) hX dX11_fill_1 rfl (pq := 2) rfl ?_
  refine wb_putI hX fp_1518 sh_161 rfl dX11_fill_2 rfl rfl (pq := 5) rfl ?_
  refine wb_mem (fun s_1 es_1 => ?_)
  have h := nmM_s h s_1 es_1
  refine wb_aload_n 0 hX dX11_fill_5 rfl (pq := 6) rfl ?_
  refine wb_iload_n 1 hX dX11_fill_6 rfl (pq := 7) rfl ?_
  obtain ⟨q_3, hc_2, h⟩ := bind_s h
  refine wb_callVi (r0 := q_3) (s1 := s_1) [.int x1] hX sh_161 ml_1170 (tM_isFarm hc_2) (by decide) rfl rfl (Nat.le_of_ble_eq_true rfl) dX11_fill_7 (pq := 10) rfl ?_
  refine wb_if_eq (tgt := 34) hX dX11_fill_10 (by decide) (fun c_4 => ?_) (pq := 13) rfl (fun c_4 => ?_)
  · have h := ite_t c_4 h
    refine wb_sub [] (loc' := []) rfl ?_
    exact tM_fill_J34 hX hQ hN h
  · have h := ite_f c_4 h
    refine wb_iload_n 2 hX dX11_fill_13 rfl (pq := 14) rfl ?_
    refine wb_i2l hX dX11_fill_14 (pq := 15) rfl ?_
    refine wb_lconst (v := (0 : Int64)) hX dX11_fill_15 rfl (pq := 16) rfl ?_
    refine wb_ldc2 (v := (99 : Int64)) hX k_1219 dX11_fill_16 (pq := 19) rfl ?_
    obtain ⟨q_6, hc_5, h⟩ := bind_s h
    refine wb_callSi (r0 := q_6) (s1 := s_1) [.long x2.toInt64, .long (0 : Int64), .long (99 : Int64)] hX ml_1124 (tM_in hc_5) (by decide) rfl rfl (Nat.le_of_ble_eq_true rfl) dX11_fill_19 (pq := 22) rfl ?_
    refine wb_if_eq (tgt := 34) hX dX11_fill_22 (by decide) (fun c_7 => ?_) (pq := 25) rfl (fun c_7 => ?_)
    · have h := ite_t c_7 h
      refine wb_sub [] (loc' := []) rfl ?_
      exact tM_fill_J34 hX hQ hN h
    · have h := ite_f c_7 h
      refine wb_aload_n 0 hX dX11_fill_25 rfl (pq := 26) rfl ?_
      refine wb_iload_n 1 hX dX11_fill_26 rfl (pq := 27) rfl ?_
      refine wb_iload_n 2 hX dX11_fill_27 rfl (pq := 28) rfl ?_
      obtain ⟨q_9, hc_8, h⟩ := bind_s h
      refine wb_callVi (r0 := q_9.1) (s1 := q_9.2) [.int x1, .int x2] hX sh_161 ml_1343 (tM_fewestTo hc_8) (by decide) rfl rfl (Nat.le_of_ble_eq_true rfl) dX11_fill_28 (pq := 31) rfl ?_
      refine wb_goto (tgt := 35) hX dX11_fill_31 (by decide) ?_
      refine wb_sub [] (loc' := []) rfl ?_
      exact tM_fill_J35 hX hQ hN h
set_option maxHeartbeats 4000000 in
set_option maxRecDepth 100000 in
theorem tM_bestFor_J128 {G : wG} {X : wX} {k20 : Int32 → Int32 → wM → Option (Int32 × wM)} {x1 : Int32} {x2 : Int32} {x3 : Int32} {s : wM} {r0 : Int32} {s1 : wM} (hX : wOK G X cX11_bestFor RX11 (some .int) 3) (hQ : wRt G X (wQi G r0 s1)) (hN : wNl X = 5) (hk20 : ∀ (x2 : Int32) (x3 : Int32) (s : wM), k20 x2 x3 s = some (r0, s1) → WB G X 20 [(0, .ref (G.1 161)), (1, .int x1), (2, .int x2), (3, .int x3)] [] s) (h : fM_bestFor_J128 k20 x1 x2 x3 s = some (r0, s1)) : WB G X 128 [(0, .ref (G.1 161)), (1, .int x1), (2, .int x2), (3, .int x3)] [] s := by
  unfold fM_bestFor_J128 at h
  refine wb_iinc (v := (x3 + iI (1))) (loc' := [(3, .int (x3 + iI (1))), (0, .ref (G.1 161)), (1, .int x1), (2, .int x2)]) 3 hX hN dX11_bestFor_128 rfl rfl (by decide) rfl (pq := 131) rfl ?_
  refine wb_goto (tgt := 20) hX dX11_bestFor_131 (by decide) ?_
  refine wb_sub [1, 2, 3, 0] (loc' := [(0, .ref (G.1 161)), (1, .int x1), (2, .int x2), (3, .int (x3 + iI (1)))]) rfl ?_
  exact hk20 _ _ _ h
set_option maxHeartbeats 4000000 in
set_option maxRecDepth 100000 in
theorem tM_bestFor_J114 {G : wG} {X : wX} {k20 : Int32 → Int32 → wM → Option (Int32 × wM)} {x1 : Int32} {x3 : Int32} {x4 : Int32} {v0 : Int32} {s : wM} {r0 : Int32} {s1 : wM} (hX : wOK G X cX11_bestFor RX11 (some .int) 3) (hQ : wRt G X (wQi G r0 s1)) (hN : wNl X = 5) (hk20 : ∀ (x2 : Int32) (x3 : Int32) (s : wM), k20 x2 x3 s = some (r0, s1) → WB G X 20 [(0, .ref (G.1 161)), (1, .int x1), (2, .int x2), (3, .int x3)] [] s) (h : fM_bestFor_J114 k20 x1 x3 x4 v0 s = some (r0, s1)) : WB G X 114 [(0, .ref (G.1 161)), (1, .int x1), (3, .int x3), (4, .int x4)] [.int v0] s := by
  unfold fM_bestFor_J114 at h
  refine wb_istore_n (loc' := [(2, .int v0), (0, .ref (G.1 161)), (1, .int x1), (3, .int x3), (4, .int x4)]) hX hN dX11_bestFor_114 (by decide) rfl (pq := 115) rfl ?_
  refine wb_aload_n 1 hX dX11_bestFor_115 rfl (pq := 116) rfl ?_
  refine wb_aload_n 1 hX dX11_bestFor_116 rfl (pq := 117) rfl ?_
  refine wb_getI hX fl_1555 sh_161 rfl dX11_bestFor_117 (pq := 120) rfl ?_
  refine wb_iload 4 hX dX11_bestFor_120 rfl (pq := 122) rfl ?_
  refine wb_mmin hX k_1136 k_394 k_14 k_395 (Nat.le_of_ble_eq_true rfl) dX11_bestFor_122 (pq := 125) rfl ?_
  refine wb_putI hX fp_1555 sh_161 rfl dX11_bestFor_125 rfl rfl (pq := 128) rfl ?_
  refine wb_mem (fun s_1 es_1 => ?_)
  have h := nmM_s h s_1 es_1
  refine wb_sub [1, 2, 0, 3] (loc' := [(0, .ref (G.1 161)), (1, .int x1), (2, .int v0), (3, .int x3)]) rfl ?_
  exact tM_bestFor_J128 hX hQ hN hk20 h
set_option maxHeartbeats 4000000 in
set_option maxRecDepth 100000 in
theorem tM_bestFor_L20 {G : wG} {X : wX} {x1 : Int32} {r0 : Int32} {s1 : wM} (hX : wOK G X cX11_bestFor RX11 (some .int) 3) (hQ : wRt G X (wQi G r0 s1)) (hN : wNl X = 5) : ∀ (n : Nat) (x2 : Int32) (x3 : Int32) (s : wM), wh3 (fM_bestFor_L20 x1) n x2 x3 s = some (r0, s1) → WB G X 20 [(0, .ref (G.1 161)), (1, .int x1), (2, .int x2), (3, .int x3)] [] s := by
  intro n
  induction n with
  | zero => intro x2 x3 s h; cases h
  | succ n hk20 =>
    intro x2 x3 s h
    have h : fM_bestFor_L20 x1 x2 x3 s (wh3 (fM_bestFor_L20 x1) n) = some (r0, s1) := h
    unfold fM_bestFor_L20 at h
    refine wb_iload_n 3 hX dX11_bestFor_20 rfl (pq := 21) rfl ?_
    refine wb_aload_n 0 hX dX11_bestFor_21 rfl (pq := 22) rfl ?_
    refine wb_getI hX fl_1521 sh_161 rfl dX11_bestFor_22 (pq := 25) rfl ?_
    refine wb_icmp_ge (tgt := 134) hX dX11_bestFor_25 (by decide) (fun c_1 => ?_) (pq := 28) rfl (fun c_1 => ?_)
    · have h := ite_t c_1 h
      refine wb_iload_n 2 hX dX11_bestFor_134 rfl (pq := 135) rfl ?_
      exact wb_iret hX hQ h dX11_bestFor_135
    · have h := ite_f c_1 h
      refine wb_iload_n 3 hX dX11_bestFor_28 rfl (pq := 29) rfl ?_
      refine wb_iload_n 1 hX dX11_bestFor_29 rfl (pq := 30) rfl ?_
      refine wb_icmp_eq (tgt := 128) hX dX11_bestFor_30 (by decide) (fun c_2 => ?_) (pq := 33) rfl (fun c_2 => ?_)
      · have h := ite_t c_2 h
        exact tM_bestFor_J128 hX hQ hN hk20 h
      · have h := ite_f c_2 h
        refine wb_aload_n 0 hX dX11_bestFor_33 rfl (pq := 34) rfl ?_
        refine wb_aload_n 0 hX dX11_bestFor_34 rfl (pq := 35) rfl ?_
        refine wb_getR hX fl_1522 sh_161 rfl dX11_bestFor_35 (pq := 38) rfl ?_
        refine wb_iload_n 1 hX dX11_bestFor_38 rfl (pq := 39) rfl ?_
        refine wb_iload_n 3 hX dX11_bestFor_39 rfl (pq := 40) rfl ?_
        obtain ⟨q_4, hc_3, h⟩ := bind_s h
        refine wb_callVi (r0 := q_4) (s1 := s) [.ref (G.1 163), .int x1, .int x3] hX sh_161 ml_1233 (tM_canCarry sh_163 hc_3) (by decide) rfl rfl (Nat.le_of_ble_eq_true rfl) dX11_bestFor_40 (pq := 43) rfl ?_
        refine wb_if_eq (tgt := 128) hX dX11_bestFor_43 (by decide) (fun c_5 => ?_) (pq := 46) rfl (fun c_5 => ?_)
        · have h := ite_t c_5 h
          exact tM_bestFor_J128 hX hQ hN hk20 h
        · have h := ite_f c_5 h
          refine wb_aload_n 0 hX dX11_bestFor_46 rfl (pq := 47) rfl ?_
          refine wb_aload_n 0 hX dX11_bestFor_47 rfl (pq := 48) rfl ?_
          refine wb_getR hX fl_1522 sh_161 rfl dX11_bestFor_48 (pq := 51) rfl ?_
          refine wb_iload_n 1 hX dX11_bestFor_51 rfl (pq := 52) rfl ?_
          refine wb_iload_n 3 hX dX11_bestFor_52 rfl (pq := 53) rfl ?_
          obtain ⟨q_7, hc_6, h⟩ := bind_s h
          refine wb_callVv (s1 := q_7) [.ref (G.1 163), .int x1, .int x3] hX sh_161 ml_1245 (tM_carries sh_163 hc_6) (by decide) rfl rfl (Nat.le_of_ble_eq_true rfl) dX11_bestFor_53 (pq := 56) rfl ?_
          refine wb_aload_n 0 hX dX11_bestFor_56 rfl (pq := 57) rfl ?_
          refine wb_aload_n 0 hX dX11_bestFor_57 rfl (pq := 58) rfl ?_
          refine wb_getR hX fl_1522 sh_161 rfl dX11_bestFor_58 (pq := 61) rfl ?_
          refine wb_iload_n 1 hX dX11_bestFor_61 rfl (pq := 62) rfl ?_
          obtain ⟨q_9, hc_8, h⟩ := bind_s h
          refine wb_callVi (r0 := q_9) (s1 := q_7) [.ref (G.1 163), .int x1] hX sh_161 ml_1179 (tM_evenWith sh_163 hc_8) (by decide) rfl rfl (Nat.le_of_ble_eq_true rfl) dX11_bestFor_62 (pq := 65) rfl ?_
          obtain ⟨q_11, hc_10, h⟩ := bind_s h
          refine wb_callSi (r0 := q_11) (s1 := q_7) [.int q_9] hX ml_1288 (tJ_bitCount hc_10) (by decide) rfl rfl (Nat.le_of_ble_eq_true rfl) dX11_bestFor_65 (pq := 68) rfl ?_
          refine wb_istore (loc' := [(4, .int q_11), (0, .ref (G.1 161)), (1, .int x1), (2, .int x2), (3, .int x3)]) hX hN dX11_bestFor_68 (by decide) rfl (pq := 70) rfl ?_
          refine wb_aload_n 1 hX dX11_bestFor_70 rfl (pq := 71) rfl ?_
          refine wb_getR hX fl_1522 sh_161 rfl dX11_bestFor_71 (pq := 74) rfl ?_
          refine wb_iload_n 2 hX dX11_bestFor_74 rfl (pq := 75) rfl ?_
          refine wb_dup2 hX dX11_bestFor_75 rfl rfl (pq := 76) rfl ?_
          obtain ⟨hi_12, h⟩ := chk_some h
          refine wb_iald hX sh_163 hi_12 dX11_bestFor_76 (pq := 77) rfl ?_
          refine wb_aload_n 1 hX dX11_bestFor_77 rfl (pq := 78) rfl ?_
          refine wb_getR hX fl_1527 sh_161 rfl dX11_bestFor_78 (pq := 81) rfl ?_
          refine wb_iconst (v := iI (2)) hX dX11_bestFor_81 rfl (pq := 82) rfl ?_
          refine wb_iald hX sh_168 (by unfold vp_in; decide) dX11_bestFor_82 (pq := 83) rfl ?_
          refine wb_iadd hX dX11_bestFor_83 (pq := 84) rfl ?_
          refine wb_iast hX sh_163 hi_12 dX11_bestFor_84 (pq := 85) rfl ?_
          refine wb_mem (fun s_13 es_13 => ?_)
          have h := nmM_s h s_13 es_13
          refine wb_aload_n 1 hX dX11_bestFor_85 rfl (pq := 86) rfl ?_
          refine wb_getR hX fl_1522 sh_161 rfl dX11_bestFor_86 (pq := 89) rfl ?_
          refine wb_iload_n 4 hX dX11_bestFor_89 rfl (pq := 90) rfl ?_
          refine wb_dup2 hX dX11_bestFor_90 rfl rfl (pq := 91) rfl ?_
          obtain ⟨hi_14, h⟩ := chk_some h
          refine wb_iald hX sh_163 hi_14 dX11_bestFor_91 (pq := 92) rfl ?_
          refine wb_aload_n 1 hX dX11_bestFor_92 rfl (pq := 93) rfl ?_
          refine wb_getR hX fl_1527 sh_161 rfl dX11_bestFor_93 (pq := 96) rfl ?_
          refine wb_iconst (v := iI (2)) hX dX11_bestFor_96 rfl (pq := 97) rfl ?_
          refine wb_iald hX sh_168 (by unfold vp_in; decide) dX11_bestFor_97 (pq := 98) rfl ?_
          refine wb_isub hX dX11_bestFor_98 (pq := 99) rfl ?_
          refine wb_iast hX sh_163 hi_14 dX11_bestFor_99 (pq := 100) rfl ?_
          refine wb_mem (fun s_15 es_15 => ?_)
          have h := nmM_s h s_15 es_15
          refine wb_iload 0 hX dX11_bestFor_100 rfl (pq := 102) rfl ?_
          refine wb_aload_n 1 hX dX11_bestFor_102 rfl (pq := 103) rfl ?_
          refine wb_getI hX fl_1555 sh_161 rfl dX11_bestFor_103 (pq := 106) rfl ?_
          refine wb_icmp_ge (tgt := 113) hX dX11_bestFor_106 (by decide) (fun c_16 => ?_) (pq := 109) rfl (fun c_16 => ?_)
          · have h := ite_t c_16 h
            refine wb_iload_n 3 hX dX11_bestFor_113 rfl (pq := 114) rfl ?_
            refine wb_sub [1, 2, 4, 0] (loc' := [(0, .ref (G.1 161)), (1, .int x1), (3, .int x3), (4, .int q_11)]) rfl ?_
            exact tM_bestFor_J114 hX hQ hN hk20 h
          · have h := ite_f c_16 h
            refine wb_iload_n 4 hX dX11_bestFor_109 rfl (pq := 110) rfl ?_
            refine wb_goto (tgt := 114) hX dX11_bestFor_110 (by decide) ?_
            refine wb_sub [1, 2, 4, 0] (loc' := [(0, .ref (G.1 161)), (1, .int x1), (3, .int x3), (4, .int q_11)]) rfl ?_
            exact tM_bestFor_J114 hX hQ hN hk20 h
set_option maxHeartbeats 4000000 in
set_option maxRecDepth 100000 in
theorem tM_bestFor {l : Launch} {G : wG} {s : wM} {x1 : Int32} {r0 : Int32} {s1 : wM} (h : fM_bestFor s x1 = some (r0, s1)) : wMet l G yX11_bestFor cX11_bestFor 5 (some .int) 3 [.ref (G.1 161), .int x1] s (wQi G r0 s1) := by
  refine wMet_of (own := RX11) (by decide +kernel) rfl (Nat.le_of_ble_eq_true rfl) ?_
  intro X hX hQ hN hl
  show WB G X 0 [(0, .ref (G.1 161)), (1, .int x1)] [] s
  unfold fM_bestFor at h
  refine wb_iconst (v := iI (-1)) hX dX11_bestFor_0 rfl (pq := 1) rfl ?_
  refine wb_istore_n (loc' := [(2, .int (iI (-1))), (0, .ref (G.1 161)), (1, .int x1)]) hX hN dX11_bestFor_1 (by decide) rfl (pq := 2) rfl ?_
  refine wb_aload_n 1 hX dX11_bestFor_2 rfl (pq := 3) rfl ?_
  refine wb_aload_n 1 hX dX11_bestFor_3 rfl (pq := 4) rfl ?_
  refine wb_aload_n 1 hX dX11_bestFor_4 rfl (pq := 5) rfl ?_
  refine wb_getR hX fl_1522 sh_161 rfl dX11_bestFor_5 (pq := 8) rfl ?_
  refine wb_iload_n 2 hX dX11_bestFor_8 rfl (pq := 9) rfl ?_
  obtain ⟨q_2, hc_1, h⟩ := bind_s h
  refine wb_callVi (r0 := q_2) (s1 := s) [.ref (G.1 163), .int x1] hX sh_161 ml_1179 (tM_evenWith sh_163 hc_1) (by decide) rfl rfl (Nat.le_of_ble_eq_true rfl) dX11_bestFor_9 (pq := 12) rfl ?_
  obtain ⟨q_4, hc_3, h⟩ := bind_s h
  refine wb_callSi (r0 := q_4) (s1 := s) [.int q_2] hX ml_1288 (tJ_bitCount hc_3) (by decide) rfl rfl (Nat.le_of_ble_eq_true rfl) dX11_bestFor_12 (pq := 15) rfl ?_
  refine wb_putI hX fp_1555 sh_161 rfl dX11_bestFor_15 rfl rfl (pq := 18) rfl ?_
  refine wb_mem (fun s_5 es_5 => ?_)
  have h := nmM_s h s_5 es_5
  refine wb_iconst (v := iI (0)) hX dX11_bestFor_18 rfl (pq := 19) rfl ?_
  refine wb_istore_n (loc' := [(3, .int (iI (0))), (2, .int (iI (-1))), (0, .ref (G.1 161)), (1, .int x1)]) hX hN dX11_bestFor_19 (by decide) rfl (pq := 20) rfl ?_
  refine wb_sub [2, 3, 1, 0] (loc' := [(0, .ref (G.1 161)), (1, .int x1), (2, .int (iI (-1))), (3, .int (iI (0)))]) rfl ?_
  exact tM_bestFor_L20 hX hQ hN 100000 _ _ _ h
set_option maxHeartbeats 4000000 in
set_option maxRecDepth 100000 in
theorem tM_selfish {l : Launch} {G : wG} {s : wM} {x1 : Int32} {r0 : Int32} {s1 : wM} (h : fM_selfish s x1 = some (r0, s1)) : wMet l G yX11_selfish cX11_selfish 3 (some .int) 4 [.ref (G.1 161), .int x1] s (wQi G r0 s1) := by
  refine wMet_of (own := RX11) (by decide +kernel) rfl (Nat.le_of_ble_eq_true rfl) ?_
  intro X hX hQ hN hl
  show WB G X 0 [(0, .ref (G.1 161)), (1, .int x1)] [] s
  unfold fM_selfish at h
  refine wb_aload_n 0 hX dX11_selfish_0 rfl (pq := 1) rfl ?_
  refine wb_iconst (v := iI (0)) hX dX11_selfish_1 rfl (pq := 2) rfl ?_
  refine wb_putI hX fp_1518 sh_161 rfl dX11_selfish_2 rfl rfl (pq := 5) rfl ?_
  refine wb_mem (fun s_1 es_1 => ?_)
  have h := nmM_s h s_1 es_1
  refine wb_aload_n 0 hX dX11_selfish_5 rfl (pq := 6) rfl ?_
  refine wb_iload_n 1 hX dX11_selfish_6 rfl (pq := 7) rfl ?_
  obtain ⟨q_3, hc_2, h⟩ := bind_s h
  refine wb_callVi (r0 := q_3) (s1 := s_1) [.int x1] hX sh_161 ml_1170 (tM_isFarm hc_2) (by decide) rfl rfl (Nat.le_of_ble_eq_true rfl) dX11_selfish_7 (pq := 10) rfl ?_
  refine wb_if_ne (tgt := 16) hX dX11_selfish_10 (by decide) (pq := 13) rfl (fun c_4 => ?_) (fun c_4 => ?_)
  · have h := ite_t c_4 h
    refine wb_bipush (v := iI (-2)) hX dX11_selfish_13 (by decide) (pq := 15) rfl ?_
    exact wb_iret hX hQ h dX11_selfish_15
  · have h := ite_f c_4 h
    refine wb_aload_n 0 hX dX11_selfish_16 rfl (pq := 17) rfl ?_
    refine wb_iload_n 1 hX dX11_selfish_17 rfl (pq := 18) rfl ?_
    obtain ⟨q_6, hc_5, h⟩ := bind_s h
    refine wb_callVi (r0 := q_6.1) (s1 := q_6.2) [.int x1] hX sh_161 ml_1359 (tM_bestFor hc_5) (by decide) rfl rfl (Nat.le_of_ble_eq_true rfl) dX11_selfish_18 (pq := 21) rfl ?_
    refine wb_istore_n (loc' := [(2, .int q_6.1), (0, .ref (G.1 161)), (1, .int x1)]) hX hN dX11_selfish_21 (by decide) rfl (pq := 22) rfl ?_
    refine wb_aload_n 1 hX dX11_selfish_22 rfl (pq := 23) rfl ?_
    refine wb_iconst (v := iI (0)) hX dX11_selfish_23 rfl (pq := 24) rfl ?_
    refine wb_putI hX fp_1519 sh_161 rfl dX11_selfish_24 rfl rfl (pq := 27) rfl ?_
    refine wb_mem (fun s_7 es_7 => ?_)
    have h := nmM_s h s_7 es_7
    refine wb_aload_n 1 hX dX11_selfish_27 rfl (pq := 28) rfl ?_
    refine wb_aload_n 1 hX dX11_selfish_28 rfl (pq := 29) rfl ?_
    refine wb_getI hX fl_1555 sh_161 rfl dX11_selfish_29 (pq := 32) rfl ?_
    obtain ⟨q_9, hc_8, h⟩ := bind_s h
    refine wb_callVv (s1 := q_9) [.int (s_7.1 161 37)] hX sh_161 ml_1263 (tM_enters hc_8) (by decide) rfl rfl (Nat.le_of_ble_eq_true rfl) dX11_selfish_32 (pq := 35) rfl ?_
    refine wb_iload_n 0 hX dX11_selfish_35 rfl (pq := 36) rfl ?_
    exact wb_iret hX hQ h dX11_selfish_36
set_option maxHeartbeats 4000000 in
set_option maxRecDepth 100000 in
theorem tM_rests_J86 {G : wG} {X : wX} {k30 : Int32 → Int32 → Int32 → wM → Option (Int32 × wM)} {k46 : Int32 → Int32 → Int32 → wM → Option (Int32 × wM)} {x1 : Int32} {x2 : Int32} {x3 : Int32} {x4 : Int32} {x5 : Int32} {s : wM} {r0 : Int32} {s1 : wM} (hX : wOK G X cX11_rests RX11 (some .int) 4) (hQ : wRt G X (wQi G r0 s1)) (hN : wNl X = 7) (hk30 : ∀ (x2 : Int32) (x3 : Int32) (x4 : Int32) (s : wM), k30 x2 x3 x4 s = some (r0, s1) → WB G X 30 [(0, .ref (G.1 161)), (1, .int x1), (2, .int x2), (3, .int x3), (4, .int x4)] [] s) (hk46 : ∀ (x3 : Int32) (x4 : Int32) (x5 : Int32) (s : wM), k46 x3 x4 x5 s = some (r0, s1) → WB G X 46 [(0, .ref (G.1 161)), (1, .int x1), (2, .int x2), (3, .int x3), (4, .int x4), (5, .int x5)] [] s) (h : fM_rests_J86 k30 k46 x1 x2 x3 x4 x5 s = some (r0, s1)) : WB G X 86 [(0, .ref (G.1 161)), (1, .int x1), (2, .int x2), (3, .int x3), (4, .int x4), (5, .int x5)] [] s := by
  unfold fM_rests_J86 at h
  refine wb_iinc (v := (x5 + iI (1))) (loc' := [(5, .int (x5 + iI (1))), (0, .ref (G.1 161)), (1, .int x1), (2, .int x2), (3, .int x3), (4, .int x4)]) 5 hX hN dX11_rests_86 rfl rfl (by decide) rfl (pq := 89) rfl ?_
  refine wb_goto (tgt := 46) hX dX11_rests_89 (by decide) ?_
  refine wb_sub [1, 2, 3, 4, 5, 0] (loc' := [(0, .ref (G.1 161)), (1, .int x1), (2, .int x2), (3, .int x3), (4, .int x4), (5, .int (x5 + iI (1)))]) rfl ?_
  exact hk46 _ _ _ _ h
set_option maxHeartbeats 4000000 in
set_option maxRecDepth 100000 in
theorem tM_rests_L46 {G : wG} {X : wX} {k30 : Int32 → Int32 → Int32 → wM → Option (Int32 × wM)} {x1 : Int32} {x2 : Int32} {r0 : Int32} {s1 : wM} (hX : wOK G X cX11_rests RX11 (some .int) 4) (hQ : wRt G X (wQi G r0 s1)) (hN : wNl X = 7) (hk30 : ∀ (x2 : Int32) (x3 : Int32) (x4 : Int32) (s : wM), k30 x2 x3 x4 s = some (r0, s1) → WB G X 30 [(0, .ref (G.1 161)), (1, .int x1), (2, .int x2), (3, .int x3), (4, .int x4)] [] s) : ∀ (n : Nat) (x3 : Int32) (x4 : Int32) (x5 : Int32) (s : wM), wh4 (fM_rests_L46 k30 x1 x2) n x3 x4 x5 s = some (r0, s1) → WB G X 46 [(0, .ref (G.1 161)), (1, .int x1), (2, .int x2), (3, .int x3), (4, .int x4), (5, .int x5)] [] s := by
  intro n
  induction n with
  | zero => intro x3 x4 x5 s h; cases h
  | succ n hk46 =>
    intro x3 x4 x5 s h
    have h : fM_rests_L46 k30 x1 x2 x3 x4 x5 s (wh4 (fM_rests_L46 k30 x1 x2) n) = some (r0, s1) := h
    unfold fM_rests_L46 at h
    refine wb_iload 5 hX dX11_rests_46 rfl (pq := 48) rfl ?_
    refine wb_aload_n 0 hX dX11_rests_48 rfl (pq := 49) rfl ?_
    refine wb_getI hX fl_1521 sh_161 rfl dX11_rests_49 (pq := 52) rfl ?_
    refine wb_icmp_ge (tgt := 92) hX dX11_rests_52 (by decide) (fun c_1 => ?_) (pq := 55) rfl (fun c_1 => ?_)
    · have h := ite_t c_1 h
      refine wb_iinc (v := (x2 + iI (1))) (loc' := [(2, .int (x2 + iI (1))), (0, .ref (G.1 161)), (1, .int x1), (3, .int x3), (4, .int x4), (5, .int x5)]) 2 hX hN dX11_rests_92 rfl rfl (by decide) rfl (pq := 95) rfl ?_
      refine wb_goto (tgt := 30) hX dX11_rests_95 (by decide) ?_
      refine wb_sub [1, 2, 0, 3, 4] (loc' := [(0, .ref (G.1 161)), (1, .int x1), (2, .int (x2 + iI (1))), (3, .int x3), (4, .int x4)]) rfl ?_
      exact hk30 _ _ _ _ h
    · have h := ite_f c_1 h
      refine wb_aload_n 0 hX dX11_rests_55 rfl (pq := 56) rfl ?_
      refine wb_iload 5 hX dX11_rests_56 rfl (pq := 58) rfl ?_
      obtain ⟨q_3, hc_2, h⟩ := bind_s h
      refine wb_callVi (r0 := q_3.1) (s1 := q_3.2) [.int x5] hX sh_161 ml_1359 (tM_bestFor hc_2) (by decide) rfl rfl (Nat.le_of_ble_eq_true rfl) dX11_rests_58 (pq := 61) rfl ?_
      refine wb_istore (loc' := [(6, .int q_3.1), (0, .ref (G.1 161)), (1, .int x1), (2, .int x2), (3, .int x3), (4, .int x4), (5, .int x5)]) hX hN dX11_rests_61 (by decide) rfl (pq := 63) rfl ?_
      refine wb_iload 0 hX dX11_rests_63 rfl (pq := 65) rfl ?_
      refine wb_if_lt (tgt := 86) hX dX11_rests_65 (by decide) (fun c_4 => ?_) (pq := 68) rfl (fun c_4 => ?_)
      · have h := ite_t c_4 h
        refine wb_sub [1, 2, 3, 4, 5, 6] (loc' := [(0, .ref (G.1 161)), (1, .int x1), (2, .int x2), (3, .int x3), (4, .int x4), (5, .int x5)]) rfl ?_
        exact tM_rests_J86 hX hQ hN hk30 hk46 h
      · have h := ite_f c_4 h
        refine wb_aload_n 1 hX dX11_rests_68 rfl (pq := 69) rfl ?_
        refine wb_aload_n 1 hX dX11_rests_69 rfl (pq := 70) rfl ?_
        refine wb_getR hX fl_1522 sh_161 rfl dX11_rests_70 (pq := 73) rfl ?_
        refine wb_iload 6 hX dX11_rests_73 rfl (pq := 75) rfl ?_
        refine wb_iload 0 hX dX11_rests_75 rfl (pq := 77) rfl ?_
        obtain ⟨q_6, hc_5, h⟩ := bind_s h
        refine wb_callVv (s1 := q_6) [.ref (G.1 163), .int x5, .int q_3.1] hX sh_161 ml_1245 (tM_carries sh_163 hc_5) (by decide) rfl rfl (Nat.le_of_ble_eq_true rfl) dX11_rests_77 (pq := 80) rfl ?_
        refine wb_iinc (v := (x3 + iI (1))) (loc' := [(3, .int (x3 + iI (1))), (6, .int q_3.1), (0, .ref (G.1 161)), (1, .int x1), (2, .int x2), (4, .int x4), (5, .int x5)]) 4 hX hN dX11_rests_80 rfl rfl (by decide) rfl (pq := 83) rfl ?_
        refine wb_iconst (v := iI (0)) hX dX11_rests_83 rfl (pq := 84) rfl ?_
        refine wb_istore (loc' := [(4, .int (iI (0))), (3, .int (x3 + iI (1))), (6, .int q_3.1), (0, .ref (G.1 161)), (1, .int x1), (2, .int x2), (5, .int x5)]) hX hN dX11_rests_84 (by decide) rfl (pq := 86) rfl ?_
        refine wb_sub [3, 4, 5, 1, 0, 6] (loc' := [(0, .ref (G.1 161)), (1, .int x1), (2, .int x2), (3, .int (x3 + iI (1))), (4, .int (iI (0))), (5, .int x5)]) rfl ?_
        exact tM_rests_J86 hX hQ hN hk30 hk46 h
set_option maxHeartbeats 4000000 in
set_option maxRecDepth 100000 in
theorem tM_rests_J106 {G : wG} {X : wX} {x2 : Int32} {x4 : Int32} {s : wM} {r0 : Int32} {s1 : wM} (hX : wOK G X cX11_rests RX11 (some .int) 4) (hQ : wRt G X (wQi G r0 s1)) (hN : wNl X = 7) (h : fM_rests_J106 x2 x4 s = some (r0, s1)) : WB G X 106 [(0, .ref (G.1 161)), (2, .int x2), (4, .int x4)] [] s := by
  unfold fM_rests_J106 at h
  refine wb_aload_n 0 hX dX11_rests_106 rfl (pq := 107) rfl ?_
  refine wb_iconst (v := iI (0)) hX dX11_rests_107 rfl (pq := 108) rfl ?_
  refine wb_putI hX fp_1519 sh_161 rfl dX11_rests_108 rfl rfl (pq := 111) rfl ?_
  refine wb_mem (fun s_1 es_1 => ?_)
  have h := nmM_s h s_1 es_1
  refine wb_aload_n 0 hX dX11_rests_111 rfl (pq := 112) rfl ?_
  refine wb_iload 2 hX dX11_rests_112 rfl (pq := 114) rfl ?_
  obtain ⟨q_3, hc_2, h⟩ := bind_s h
  refine wb_callSi (r0 := q_3) (s1 := s_1) [.int x4] hX ml_1151 (tM_flag hc_2) (by decide) rfl rfl (Nat.le_of_ble_eq_true rfl) dX11_rests_114 (pq := 117) rfl ?_
  obtain ⟨q_5, hc_4, h⟩ := bind_s h
  refine wb_callVv (s1 := q_5) [.int q_3] hX sh_161 ml_1263 (tM_enters hc_4) (by decide) rfl rfl (Nat.le_of_ble_eq_true rfl) dX11_rests_117 (pq := 120) rfl ?_
  refine wb_aload_n 0 hX dX11_rests_120 rfl (pq := 121) rfl ?_
  refine wb_aload_n 0 hX dX11_rests_121 rfl (pq := 122) rfl ?_
  refine wb_aload_n 0 hX dX11_rests_122 rfl (pq := 123) rfl ?_
  refine wb_getR hX fl_1522 sh_161 rfl dX11_rests_123 (pq := 126) rfl ?_
  obtain ⟨q_7, hc_6, h⟩ := bind_s h
  refine wb_callVi (r0 := q_7) (s1 := q_5) [.ref (G.1 163)] hX sh_161 ml_1289 (tM_evenPairs sh_163 hc_6) (by decide) rfl rfl (Nat.le_of_ble_eq_true rfl) dX11_rests_126 (pq := 129) rfl ?_
  obtain ⟨q_9, hc_8, h⟩ := bind_s h
  refine wb_callVv (s1 := q_9) [.int q_7] hX sh_161 ml_1263 (tM_enters hc_8) (by decide) rfl rfl (Nat.le_of_ble_eq_true rfl) dX11_rests_129 (pq := 132) rfl ?_
  refine wb_iload_n 1 hX dX11_rests_132 rfl (pq := 133) rfl ?_
  exact wb_iret hX hQ h dX11_rests_133
set_option maxHeartbeats 4000000 in
set_option maxRecDepth 100000 in
theorem tM_rests_J98 {G : wG} {X : wX} {x2 : Int32} {x3 : Int32} {x4 : Int32} {s : wM} {r0 : Int32} {s1 : wM} (hX : wOK G X cX11_rests RX11 (some .int) 4) (hQ : wRt G X (wQi G r0 s1)) (hN : wNl X = 7) (h : fM_rests_J98 x2 x3 x4 s = some (r0, s1)) : WB G X 98 [(0, .ref (G.1 161)), (2, .int x2), (3, .int x3), (4, .int x4)] [] s := by
  unfold fM_rests_J98 at h
  refine wb_iload_n 2 hX dX11_rests_98 rfl (pq := 99) rfl ?_
  refine wb_if_le (tgt := 106) hX dX11_rests_99 (by decide) (fun c_1 => ?_) (pq := 102) rfl (fun c_1 => ?_)
  · have h := ite_t c_1 h
    refine wb_sub [0, 1, 3] (loc' := [(0, .ref (G.1 161)), (2, .int x2), (4, .int x4)]) rfl ?_
    exact tM_rests_J106 hX hQ hN h
  · have h := ite_f c_1 h
    refine wb_aload_n 0 hX dX11_rests_102 rfl (pq := 103) rfl ?_
    obtain ⟨q_3, hc_2, h⟩ := bind_s h
    refine wb_callVv (s1 := q_3) [] hX sh_161 ml_1249 (tM_adds hc_2) (by decide) rfl rfl (Nat.le_of_ble_eq_true rfl) dX11_rests_103 (pq := 106) rfl ?_
    refine wb_sub [0, 1, 3] (loc' := [(0, .ref (G.1 161)), (2, .int x2), (4, .int x4)]) rfl ?_
    exact tM_rests_J106 hX hQ hN h
set_option maxHeartbeats 4000000 in
set_option maxRecDepth 100000 in
theorem tM_rests_L30 {G : wG} {X : wX} {x1 : Int32} {r0 : Int32} {s1 : wM} (hX : wOK G X cX11_rests RX11 (some .int) 4) (hQ : wRt G X (wQi G r0 s1)) (hN : wNl X = 7) : ∀ (n : Nat) (x2 : Int32) (x3 : Int32) (x4 : Int32) (s : wM), wh4 (fM_rests_L30 x1) n x2 x3 x4 s = some (r0, s1) → WB G X 30 [(0, .ref (G.1 161)), (1, .int x1), (2, .int x2), (3, .int x3), (4, .int x4)] [] s := by
  intro n
  induction n with
  | zero => intro x2 x3 x4 s h; cases h
  | succ n hk30 =>
    intro x2 x3 x4 s h
    have h : fM_rests_L30 x1 x2 x3 x4 s (wh4 (fM_rests_L30 x1) n) = some (r0, s1) := h
    unfold fM_rests_L30 at h
    refine wb_iload_n 2 hX dX11_rests_30 rfl (pq := 31) rfl ?_
    refine wb_iload_n 1 hX dX11_rests_31 rfl (pq := 32) rfl ?_
    refine wb_icmp_ge (tgt := 98) hX dX11_rests_32 (by decide) (fun c_1 => ?_) (pq := 35) rfl (fun c_1 => ?_)
    · have h := ite_t c_1 h
      refine wb_sub [0, 2, 3, 4] (loc' := [(0, .ref (G.1 161)), (2, .int x2), (3, .int x3), (4, .int x4)]) rfl ?_
      exact tM_rests_J98 hX hQ hN h
    · have h := ite_f c_1 h
      refine wb_iload 4 hX dX11_rests_35 rfl (pq := 37) rfl ?_
      refine wb_if_ne (tgt := 98) hX dX11_rests_37 (by decide) (pq := 40) rfl (fun c_2 => ?_) (fun c_2 => ?_)
      · have h := ite_t c_2 h
        refine wb_iconst (v := iI (1)) hX dX11_rests_40 rfl (pq := 41) rfl ?_
        refine wb_istore (loc' := [(4, .int (iI (1))), (0, .ref (G.1 161)), (1, .int x1), (2, .int x2), (3, .int x3)]) hX hN dX11_rests_41 (by decide) rfl (pq := 43) rfl ?_
        refine wb_iconst (v := iI (0)) hX dX11_rests_43 rfl (pq := 44) rfl ?_
        refine wb_istore (loc' := [(5, .int (iI (0))), (4, .int (iI (1))), (0, .ref (G.1 161)), (1, .int x1), (2, .int x2), (3, .int x3)]) hX hN dX11_rests_44 (by decide) rfl (pq := 46) rfl ?_
        refine wb_sub [2, 3, 4, 5, 1, 0] (loc' := [(0, .ref (G.1 161)), (1, .int x1), (2, .int x2), (3, .int x3), (4, .int (iI (1))), (5, .int (iI (0)))]) rfl ?_
        exact tM_rests_L46 hX hQ hN hk30 100000 _ _ _ _ h
      · have h := ite_f c_2 h
        refine wb_sub [0, 2, 3, 4] (loc' := [(0, .ref (G.1 161)), (2, .int x2), (3, .int x3), (4, .int x4)]) rfl ?_
        exact tM_rests_J98 hX hQ hN h
set_option maxHeartbeats 4000000 in
set_option maxRecDepth 100000 in
theorem tM_rests {l : Launch} {G : wG} {s : wM} {x1 : Int32} {r0 : Int32} {s1 : wM} (h : fM_rests s x1 = some (r0, s1)) : wMet l G yX11_rests cX11_rests 7 (some .int) 4 [.ref (G.1 161), .int x1] s (wQi G r0 s1) := by
  refine wMet_of (own := RX11) (by decide +kernel) rfl (Nat.le_of_ble_eq_true rfl) ?_
  intro X hX hQ hN hl
  show WB G X 0 [(0, .ref (G.1 161)), (1, .int x1)] [] s
  unfold fM_rests at h
  refine wb_aload_n 0 hX dX11_rests_0 rfl (pq := 1) rfl ?_
  refine wb_iconst (v := iI (0)) hX dX11_rests_1 rfl (pq := 2) rfl ?_
  refine wb_putI hX fp_1518 sh_161 rfl dX11_rests_2 rfl rfl (pq := 5) rfl ?_
  refine wb_mem (fun s_1 es_1 => ?_)
  have h := nmM_s h s_1 es_1
  refine wb_iload_n 1 hX dX11_rests_5 rfl (pq := 6) rfl ?_
  refine wb_i2l hX dX11_rests_6 (pq := 7) rfl ?_
  refine wb_lconst (v := (0 : Int64)) hX dX11_rests_7 rfl (pq := 8) rfl ?_
  refine wb_ldc2 (v := (40 : Int64)) hX k_1367 dX11_rests_8 (pq := 11) rfl ?_
  obtain ⟨q_3, hc_2, h⟩ := bind_s h
  refine wb_callSi (r0 := q_3) (s1 := s_1) [.long x1.toInt64, .long (0 : Int64), .long (40 : Int64)] hX ml_1124 (tM_in hc_2) (by decide) rfl rfl (Nat.le_of_ble_eq_true rfl) dX11_rests_11 (pq := 14) rfl ?_
  refine wb_if_ne (tgt := 19) hX dX11_rests_14 (by decide) (pq := 17) rfl (fun c_4 => ?_) (fun c_4 => ?_)
  · have h := ite_t c_4 h
    refine wb_iconst (v := iI (-1)) hX dX11_rests_17 rfl (pq := 18) rfl ?_
    exact wb_iret hX hQ h dX11_rests_18
  · have h := ite_f c_4 h
    refine wb_aload_n 0 hX dX11_rests_19 rfl (pq := 20) rfl ?_
    obtain ⟨q_6, hc_5, h⟩ := bind_s h
    refine wb_callVv (s1 := q_6) [] hX sh_161 ml_1237 (tM_putsBy hc_5) (by decide) rfl rfl (Nat.le_of_ble_eq_true rfl) dX11_rests_20 (pq := 23) rfl ?_
    refine wb_iconst (v := iI (0)) hX dX11_rests_23 rfl (pq := 24) rfl ?_
    refine wb_istore_n (loc' := [(2, .int (iI (0))), (0, .ref (G.1 161)), (1, .int x1)]) hX hN dX11_rests_24 (by decide) rfl (pq := 25) rfl ?_
    refine wb_iconst (v := iI (0)) hX dX11_rests_25 rfl (pq := 26) rfl ?_
    refine wb_istore_n (loc' := [(3, .int (iI (0))), (2, .int (iI (0))), (0, .ref (G.1 161)), (1, .int x1)]) hX hN dX11_rests_26 (by decide) rfl (pq := 27) rfl ?_
    refine wb_iconst (v := iI (0)) hX dX11_rests_27 rfl (pq := 28) rfl ?_
    refine wb_istore (loc' := [(4, .int (iI (0))), (3, .int (iI (0))), (2, .int (iI (0))), (0, .ref (G.1 161)), (1, .int x1)]) hX hN dX11_rests_28 (by decide) rfl (pq := 30) rfl ?_
    refine wb_sub [3, 4, 2, 1, 0] (loc' := [(0, .ref (G.1 161)), (1, .int x1), (2, .int (iI (0))), (3, .int (iI (0))), (4, .int (iI (0)))]) rfl ?_
    exact tM_rests_L30 hX hQ hN 100000 _ _ _ _ h
set_option maxHeartbeats 4000000 in
set_option maxRecDepth 100000 in
theorem tM_alter_J92 {G : wG} {X : wX} {k27 : Int32 → Int32 → wM → Option (Int32 × wM)} {x1 : Int32} {x2 : Int32} {x4 : Int32} {v0 : Int32} {s : wM} {r0 : Int32} {s1 : wM} (hX : wOK G X cX11_alter RX11 (some .int) 3) (hQ : wRt G X (wQi G r0 s1)) (hN : wNl X = 6) (hk27 : ∀ (x3 : Int32) (x4 : Int32) (s : wM), k27 x3 x4 s = some (r0, s1) → WB G X 27 [(0, .ref (G.1 161)), (1, .int x1), (2, .int x2), (3, .int x3), (4, .int x4)] [] s) (h : fM_alter_J92 k27 x1 x2 x4 v0 s = some (r0, s1)) : WB G X 92 [(0, .ref (G.1 161)), (1, .int x1), (2, .int x2), (4, .int x4)] [.int v0] s := by
  unfold fM_alter_J92 at h
  refine wb_istore_n (loc' := [(3, .int v0), (0, .ref (G.1 161)), (1, .int x1), (2, .int x2), (4, .int x4)]) hX hN dX11_alter_92 (by decide) rfl (pq := 93) rfl ?_
  refine wb_iinc (v := (x4 + iI (1))) (loc' := [(4, .int (x4 + iI (1))), (3, .int v0), (0, .ref (G.1 161)), (1, .int x1), (2, .int x2)]) 4 hX hN dX11_alter_93 rfl rfl (by decide) rfl (pq := 96) rfl ?_
  refine wb_goto (tgt := 27) hX dX11_alter_96 (by decide) ?_
  refine wb_sub [2, 3, 4, 1, 0] (loc' := [(0, .ref (G.1 161)), (1, .int x1), (2, .int x2), (3, .int v0), (4, .int (x4 + iI (1)))]) rfl ?_
  exact hk27 _ _ _ h
set_option maxHeartbeats 4000000 in
set_option maxRecDepth 100000 in
theorem tM_alter_J79 {G : wG} {X : wX} {k27 : Int32 → Int32 → wM → Option (Int32 × wM)} {x1 : Int32} {x2 : Int32} {x3 : Int32} {x4 : Int32} {v0 : Int32} {s : wM} {r0 : Int32} {s1 : wM} (hX : wOK G X cX11_alter RX11 (some .int) 3) (hQ : wRt G X (wQi G r0 s1)) (hN : wNl X = 6) (hk27 : ∀ (x3 : Int32) (x4 : Int32) (s : wM), k27 x3 x4 s = some (r0, s1) → WB G X 27 [(0, .ref (G.1 161)), (1, .int x1), (2, .int x2), (3, .int x3), (4, .int x4)] [] s) (h : fM_alter_J79 k27 x1 x2 x3 x4 v0 s = some (r0, s1)) : WB G X 79 [(0, .ref (G.1 161)), (1, .int x1), (2, .int x2), (3, .int x3), (4, .int x4)] [.int v0] s := by
  unfold fM_alter_J79 at h
  refine wb_istore (loc' := [(5, .int v0), (0, .ref (G.1 161)), (1, .int x1), (2, .int x2), (3, .int x3), (4, .int x4)]) hX hN dX11_alter_79 (by decide) rfl (pq := 81) rfl ?_
  refine wb_iload 0 hX dX11_alter_81 rfl (pq := 83) rfl ?_
  refine wb_if_eq (tgt := 91) hX dX11_alter_83 (by decide) (fun c_1 => ?_) (pq := 86) rfl (fun c_1 => ?_)
  · have h := ite_t c_1 h
    refine wb_iload_n 4 hX dX11_alter_91 rfl (pq := 92) rfl ?_
    refine wb_sub [1, 2, 3, 5] (loc' := [(0, .ref (G.1 161)), (1, .int x1), (2, .int x2), (4, .int x4)]) rfl ?_
    exact tM_alter_J92 hX hQ hN hk27 h
  · have h := ite_f c_1 h
    refine wb_iload 5 hX dX11_alter_86 rfl (pq := 88) rfl ?_
    refine wb_goto (tgt := 92) hX dX11_alter_88 (by decide) ?_
    refine wb_sub [1, 2, 3, 5] (loc' := [(0, .ref (G.1 161)), (1, .int x1), (2, .int x2), (4, .int x4)]) rfl ?_
    exact tM_alter_J92 hX hQ hN hk27 h
set_option maxHeartbeats 4000000 in
set_option maxRecDepth 100000 in
theorem tM_alter_J74 {G : wG} {X : wX} {k27 : Int32 → Int32 → wM → Option (Int32 × wM)} {x1 : Int32} {x2 : Int32} {x3 : Int32} {x4 : Int32} {s : wM} {r0 : Int32} {s1 : wM} (hX : wOK G X cX11_alter RX11 (some .int) 3) (hQ : wRt G X (wQi G r0 s1)) (hN : wNl X = 6) (hk27 : ∀ (x3 : Int32) (x4 : Int32) (s : wM), k27 x3 x4 s = some (r0, s1) → WB G X 27 [(0, .ref (G.1 161)), (1, .int x1), (2, .int x2), (3, .int x3), (4, .int x4)] [] s) (h : fM_alter_J74 k27 x1 x2 x3 x4 s = some (r0, s1)) : WB G X 74 [(0, .ref (G.1 161)), (1, .int x1), (2, .int x2), (3, .int x3), (4, .int x4)] [] s := by
  unfold fM_alter_J74 at h
  refine wb_iconst (v := iI (1)) hX dX11_alter_74 rfl (pq := 75) rfl ?_
  refine wb_goto (tgt := 79) hX dX11_alter_75 (by decide) ?_
  exact tM_alter_J79 hX hQ hN hk27 h
set_option maxHeartbeats 4000000 in
set_option maxRecDepth 100000 in
theorem tM_alter_J78 {G : wG} {X : wX} {k27 : Int32 → Int32 → wM → Option (Int32 × wM)} {x1 : Int32} {x2 : Int32} {x3 : Int32} {x4 : Int32} {s : wM} {r0 : Int32} {s1 : wM} (hX : wOK G X cX11_alter RX11 (some .int) 3) (hQ : wRt G X (wQi G r0 s1)) (hN : wNl X = 6) (hk27 : ∀ (x3 : Int32) (x4 : Int32) (s : wM), k27 x3 x4 s = some (r0, s1) → WB G X 27 [(0, .ref (G.1 161)), (1, .int x1), (2, .int x2), (3, .int x3), (4, .int x4)] [] s) (h : fM_alter_J78 k27 x1 x2 x3 x4 s = some (r0, s1)) : WB G X 78 [(0, .ref (G.1 161)), (1, .int x1), (2, .int x2), (3, .int x3), (4, .int x4)] [] s := by
  unfold fM_alter_J78 at h
  refine wb_iconst (v := iI (0)) hX dX11_alter_78 rfl (pq := 79) rfl ?_
  exact tM_alter_J79 hX hQ hN hk27 h
set_option maxHeartbeats 4000000 in
set_option maxRecDepth 100000 in
theorem tM_alter_L27 {G : wG} {X : wX} {x1 : Int32} {x2 : Int32} {r0 : Int32} {s1 : wM} (hX : wOK G X cX11_alter RX11 (some .int) 3) (hQ : wRt G X (wQi G r0 s1)) (hN : wNl X = 6) : ∀ (n : Nat) (x3 : Int32) (x4 : Int32) (s : wM), wh3 (fM_alter_L27 x1 x2) n x3 x4 s = some (r0, s1) → WB G X 27 [(0, .ref (G.1 161)), (1, .int x1), (2, .int x2), (3, .int x3), (4, .int x4)] [] s := by
  intro n
  induction n with
  | zero => intro x3 x4 s h; cases h
  | succ n hk27 =>
    intro x3 x4 s h
    have h : fM_alter_L27 x1 x2 x3 x4 s (wh3 (fM_alter_L27 x1 x2) n) = some (r0, s1) := h
    unfold fM_alter_L27 at h
    refine wb_iload 4 hX dX11_alter_27 rfl (pq := 29) rfl ?_
    refine wb_bipush (v := iI (99)) hX dX11_alter_29 (by decide) (pq := 31) rfl ?_
    refine wb_icmp_gt (tgt := 99) hX dX11_alter_31 (by decide) (fun c_1 => ?_) (pq := 34) rfl (fun c_1 => ?_)
    · have h := ite_t c_1 h
      refine wb_aload_n 0 hX dX11_alter_99 rfl (pq := 100) rfl ?_
      refine wb_getR hX fl_1522 sh_161 rfl dX11_alter_100 (pq := 103) rfl ?_
      refine wb_iload_n 1 hX dX11_alter_103 rfl (pq := 104) rfl ?_
      refine wb_iload_n 2 hX dX11_alter_104 rfl (pq := 105) rfl ?_
      obtain ⟨hi_2, h⟩ := chk_some h
      refine wb_iast hX sh_163 hi_2 dX11_alter_105 (pq := 106) rfl ?_
      refine wb_mem (fun s_3 es_3 => ?_)
      have h := nmM_s h s_3 es_3
      refine wb_iload_n 3 hX dX11_alter_106 rfl (pq := 107) rfl ?_
      refine wb_if_ge (tgt := 113) hX dX11_alter_107 (by decide) (fun c_4 => ?_) (pq := 110) rfl (fun c_4 => ?_)
      · have h := ite_t c_4 h
        refine wb_aload_n 0 hX dX11_alter_113 rfl (pq := 114) rfl ?_
        refine wb_iconst (v := iI (0)) hX dX11_alter_114 rfl (pq := 115) rfl ?_
        refine wb_putI hX fp_1519 sh_161 rfl dX11_alter_115 rfl rfl (pq := 118) rfl ?_
        refine wb_mem (fun s_5 es_5 => ?_)
        have h := nmM_s h s_5 es_5
        refine wb_aload_n 0 hX dX11_alter_118 rfl (pq := 119) rfl ?_
        refine wb_iload_n 3 hX dX11_alter_119 rfl (pq := 120) rfl ?_
        obtain ⟨q_7, hc_6, h⟩ := bind_s h
        refine wb_callVv (s1 := q_7) [.int x3] hX sh_161 ml_1263 (tM_enters hc_6) (by decide) rfl rfl (Nat.le_of_ble_eq_true rfl) dX11_alter_120 (pq := 123) rfl ?_
        refine wb_iload_n 3 hX dX11_alter_123 rfl (pq := 124) rfl ?_
        refine wb_iload_n 2 hX dX11_alter_124 rfl (pq := 125) rfl ?_
        refine wb_isub hX dX11_alter_125 (pq := 126) rfl ?_
        refine wb_mabs hX k_1190 k_587 k_14 k_588 (Nat.le_of_ble_eq_true rfl) dX11_alter_126 (pq := 129) rfl ?_
        exact wb_iret hX hQ h dX11_alter_129
      · have h := ite_f c_4 h
        refine wb_bipush (v := iI (-2)) hX dX11_alter_110 (by decide) (pq := 112) rfl ?_
        exact wb_iret hX hQ h dX11_alter_112
    · have h := ite_f c_1 h
      refine wb_aload_n 0 hX dX11_alter_34 rfl (pq := 35) rfl ?_
      refine wb_getR hX fl_1522 sh_161 rfl dX11_alter_35 (pq := 38) rfl ?_
      refine wb_iload_n 1 hX dX11_alter_38 rfl (pq := 39) rfl ?_
      refine wb_iload 4 hX dX11_alter_39 rfl (pq := 41) rfl ?_
      obtain ⟨hi_8, h⟩ := chk_some h
      refine wb_iast hX sh_163 hi_8 dX11_alter_41 (pq := 42) rfl ?_
      refine wb_mem (fun s_9 es_9 => ?_)
      have h := nmM_s h s_9 es_9
      refine wb_aload_n 0 hX dX11_alter_42 rfl (pq := 43) rfl ?_
      refine wb_aload_n 0 hX dX11_alter_43 rfl (pq := 44) rfl ?_
      refine wb_getR hX fl_1522 sh_161 rfl dX11_alter_44 (pq := 47) rfl ?_
      refine wb_iload_n 1 hX dX11_alter_47 rfl (pq := 48) rfl ?_
      obtain ⟨q_11, hc_10, h⟩ := bind_s h
      refine wb_callVi (r0 := q_11) (s1 := s_9) [.ref (G.1 163), .int x1] hX sh_161 ml_1179 (tM_evenWith sh_163 hc_10) (by decide) rfl rfl (Nat.le_of_ble_eq_true rfl) dX11_alter_48 (pq := 51) rfl ?_
      refine wb_if_ne (tgt := 78) hX dX11_alter_51 (by decide) (pq := 54) rfl (fun c_12 => ?_) (fun c_12 => ?_)
      · have h := ite_t c_12 h
        refine wb_iload_n 3 hX dX11_alter_54 rfl (pq := 55) rfl ?_
        refine wb_if_lt (tgt := 74) hX dX11_alter_55 (by decide) (fun c_13 => ?_) (pq := 58) rfl (fun c_13 => ?_)
        · have h := ite_t c_13 h
          exact tM_alter_J74 hX hQ hN hk27 h
        · have h := ite_f c_13 h
          refine wb_iload 4 hX dX11_alter_58 rfl (pq := 60) rfl ?_
          refine wb_iload_n 2 hX dX11_alter_60 rfl (pq := 61) rfl ?_
          refine wb_isub hX dX11_alter_61 (pq := 62) rfl ?_
          refine wb_mabs hX k_1190 k_587 k_14 k_588 (Nat.le_of_ble_eq_true rfl) dX11_alter_62 (pq := 65) rfl ?_
          refine wb_iload_n 3 hX dX11_alter_65 rfl (pq := 66) rfl ?_
          refine wb_iload_n 2 hX dX11_alter_66 rfl (pq := 67) rfl ?_
          refine wb_isub hX dX11_alter_67 (pq := 68) rfl ?_
          refine wb_mabs hX k_1190 k_587 k_14 k_588 (Nat.le_of_ble_eq_true rfl) dX11_alter_68 (pq := 71) rfl ?_
          refine wb_icmp_ge (tgt := 78) hX dX11_alter_71 (by decide) (fun c_14 => ?_) (pq := 74) rfl (fun c_14 => ?_)
          · have h := ite_t c_14 h
            exact tM_alter_J78 hX hQ hN hk27 h
          · have h := ite_f c_14 h
            exact tM_alter_J74 hX hQ hN hk27 h
      · have h := ite_f c_12 h
        exact tM_alter_J78 hX hQ hN hk27 h
set_option maxHeartbeats 4000000 in
set_option maxRecDepth 100000 in
theorem tM_alter {l : Launch} {G : wG} {s : wM} {x1 : Int32} {r0 : Int32} {s1 : wM} (h : fM_alter s x1 = some (r0, s1)) : wMet l G yX11_alter cX11_alter 6 (some .int) 3 [.ref (G.1 161), .int x1] s (wQi G r0 s1) := by
  refine wMet_of (own := RX11) (by decide +kernel) rfl (Nat.le_of_ble_eq_true rfl) ?_
  intro X hX hQ hN hl
  show WB G X 0 [(0, .ref (G.1 161)), (1, .int x1)] [] s
  unfold fM_alter at h
  refine wb_aload_n 0 hX dX11_alter_0 rfl (pq := 1) rfl ?_
  refine wb_iconst (v := iI (0)) hX dX11_alter_1 rfl (pq := 2) rfl ?_
  refine wb_putI hX fp_1518 sh_161 rfl dX11_alter_2 rfl rfl (pq := 5) rfl ?_
  refine wb_mem (fun s_1 es_1 => ?_)
  have h := nmM_s h s_1 es_1
  refine wb_aload_n 0 hX dX11_alter_5 rfl (pq := 6) rfl ?_
  refine wb_iload_n 1 hX dX11_alter_6 rfl (pq := 7) rfl ?_
  obtain ⟨q_3, hc_2, h⟩ := bind_s h
  refine wb_callVi (r0 := q_3) (s1 := s_1) [.int x1] hX sh_161 ml_1170 (tM_isFarm hc_2) (by decide) rfl rfl (Nat.le_of_ble_eq_true rfl) dX11_alter_7 (pq := 10) rfl ?_
  refine wb_if_ne (tgt := 15) hX dX11_alter_10 (by decide) (pq := 13) rfl (fun c_4 => ?_) (fun c_4 => ?_)
  · have h := ite_t c_4 h
    refine wb_iconst (v := iI (-1)) hX dX11_alter_13 rfl (pq := 14) rfl ?_
    exact wb_iret hX hQ h dX11_alter_14
  · have h := ite_f c_4 h
    refine wb_aload_n 0 hX dX11_alter_15 rfl (pq := 16) rfl ?_
    refine wb_getR hX fl_1522 sh_161 rfl dX11_alter_16 (pq := 19) rfl ?_
    refine wb_iload_n 1 hX dX11_alter_19 rfl (pq := 20) rfl ?_
    obtain ⟨hi_5, h⟩ := chk_some h
    refine wb_iald hX sh_163 hi_5 dX11_alter_20 (pq := 21) rfl ?_
    refine wb_istore_n (loc' := [(2, .int (s_1.1 163 x1.toNatClampNeg)), (0, .ref (G.1 161)), (1, .int x1)]) hX hN dX11_alter_21 (by decide) rfl (pq := 22) rfl ?_
    refine wb_iconst (v := iI (-1)) hX dX11_alter_22 rfl (pq := 23) rfl ?_
    refine wb_istore_n (loc' := [(3, .int (iI (-1))), (2, .int (s_1.1 163 x1.toNatClampNeg)), (0, .ref (G.1 161)), (1, .int x1)]) hX hN dX11_alter_23 (by decide) rfl (pq := 24) rfl ?_
    refine wb_iconst (v := iI (0)) hX dX11_alter_24 rfl (pq := 25) rfl ?_
    refine wb_istore (loc' := [(4, .int (iI (0))), (3, .int (iI (-1))), (2, .int (s_1.1 163 x1.toNatClampNeg)), (0, .ref (G.1 161)), (1, .int x1)]) hX hN dX11_alter_25 (by decide) rfl (pq := 27) rfl ?_
    refine wb_sub [3, 4, 2, 1, 0] (loc' := [(0, .ref (G.1 161)), (1, .int x1), (2, .int (s_1.1 163 x1.toNatClampNeg)), (3, .int (iI (-1))), (4, .int (iI (0)))]) rfl ?_
    exact tM_alter_L27 hX hQ hN 100000 _ _ _ h
set_option maxHeartbeats 4000000 in
set_option maxRecDepth 100000 in
theorem tM_paints_J73 {G : wG} {X : wX} {rec : wM → Int32 → Int32 → Int32 → Option (Int32 × wM)} {k13 : Int32 → wM → Option (Int32 × wM)} {k31 : Int32 → Int32 → Option (Int32 × wM)} {x1 : Int32} {x2 : Int32} {x3 : Int32} {x4 : Int32} {x6 : Int32} {v0 : Int32} {s : wM} {r0 : Int32} {s1 : wM} {nr : Nat} (hrec : ∀ (s s1 : wM) (a b c r0 : Int32), rec s a b c = some (r0, s1) → ∀ l : Launch, 0 < nr ∧ wMet l G yX11_paints cX11_paints 7 (some .boolean) (1 + nr - 1) [.ref (G.1 161), .int a, .int b, .int c] s (wQi G r0 s1)) (hX : wOK G X cX11_paints RX11 (some .boolean) (1 + nr)) (hQ : wRt G X (wQi G r0 s1)) (hN : wNl X = 7) (hk13 : ∀ (x4 : Int32) (s : wM), k13 x4 s = some (r0, s1) → WB G X 13 [(0, .ref (G.1 161)), (1, .int x1), (2, .int x2), (3, .int x3), (4, .int x4)] [] s) (hk31 : ∀ (x5 : Int32) (x6 : Int32), k31 x5 x6 = some (r0, s1) → WB G X 31 [(0, .ref (G.1 161)), (1, .int x1), (2, .int x2), (3, .int x3), (4, .int x4), (5, .int x5), (6, .int x6)] [] s) (h : fM_paints_J73 rec k13 k31 x1 x2 x3 x4 x6 v0 s = some (r0, s1)) : WB G X 73 [(0, .ref (G.1 161)), (1, .int x1), (2, .int x2), (3, .int x3), (4, .int x4), (6, .int x6)] [.int v0] s := by
  unfold fM_paints_J73 at h
  refine wb_istore (loc' := [(5, .int v0), (0, .ref (G.1 161)), (1, .int x1), (2, .int x2), (3, .int x3), (4, .int x4), (6, .int x6)]) hX hN dX11_paints_73 (by decide) rfl (pq := 75) rfl ?_
  refine wb_iinc (v := (x6 + iI (1))) (loc' := [(6, .int (x6 + iI (1))), (5, .int v0), (0, .ref (G.1 161)), (1, .int x1), (2, .int x2), (3, .int x3), (4, .int x4)]) 6 hX hN dX11_paints_75 rfl rfl (by decide) rfl (pq := 78) rfl ?_
  refine wb_goto (tgt := 31) hX dX11_paints_78 (by decide) ?_
  refine wb_sub [2, 3, 4, 5, 6, 1, 0] (loc' := [(0, .ref (G.1 161)), (1, .int x1), (2, .int x2), (3, .int x3), (4, .int x4), (5, .int v0), (6, .int (x6 + iI (1)))]) rfl ?_
  exact hk31 _ _ h
set_option maxHeartbeats 4000000 in
set_option maxRecDepth 100000 in
theorem tM_paints_J68 {G : wG} {X : wX} {rec : wM → Int32 → Int32 → Int32 → Option (Int32 × wM)} {k13 : Int32 → wM → Option (Int32 × wM)} {k31 : Int32 → Int32 → Option (Int32 × wM)} {x1 : Int32} {x2 : Int32} {x3 : Int32} {x4 : Int32} {x6 : Int32} {s : wM} {r0 : Int32} {s1 : wM} {nr : Nat} (hrec : ∀ (s s1 : wM) (a b c r0 : Int32), rec s a b c = some (r0, s1) → ∀ l : Launch, 0 < nr ∧ wMet l G yX11_paints cX11_paints 7 (some .boolean) (1 + nr - 1) [.ref (G.1 161), .int a, .int b, .int c] s (wQi G r0 s1)) (hX : wOK G X cX11_paints RX11 (some .boolean) (1 + nr)) (hQ : wRt G X (wQi G r0 s1)) (hN : wNl X = 7) (hk13 : ∀ (x4 : Int32) (s : wM), k13 x4 s = some (r0, s1) → WB G X 13 [(0, .ref (G.1 161)), (1, .int x1), (2, .int x2), (3, .int x3), (4, .int x4)] [] s) (hk31 : ∀ (x5 : Int32) (x6 : Int32), k31 x5 x6 = some (r0, s1) → WB G X 31 [(0, .ref (G.1 161)), (1, .int x1), (2, .int x2), (3, .int x3), (4, .int x4), (5, .int x5), (6, .int x6)] [] s) (h : fM_paints_J68 rec k13 k31 x1 x2 x3 x4 x6 s = some (r0, s1)) : WB G X 68 [(0, .ref (G.1 161)), (1, .int x1), (2, .int x2), (3, .int x3), (4, .int x4), (6, .int x6)] [] s := by
  unfold fM_paints_J68 at h
  refine wb_iconst (v := iI (1)) hX dX11_paints_68 rfl (pq := 69) rfl ?_
  refine wb_goto (tgt := 73) hX dX11_paints_69 (by decide) ?_
  exact tM_paints_J73 hrec hX hQ hN hk13 hk31 h
set_option maxHeartbeats 4000000 in
set_option maxRecDepth 100000 in
theorem tM_paints_J72 {G : wG} {X : wX} {rec : wM → Int32 → Int32 → Int32 → Option (Int32 × wM)} {k13 : Int32 → wM → Option (Int32 × wM)} {k31 : Int32 → Int32 → Option (Int32 × wM)} {x1 : Int32} {x2 : Int32} {x3 : Int32} {x4 : Int32} {x6 : Int32} {s : wM} {r0 : Int32} {s1 : wM} {nr : Nat} (hrec : ∀ (s s1 : wM) (a b c r0 : Int32), rec s a b c = some (r0, s1) → ∀ l : Launch, 0 < nr ∧ wMet l G yX11_paints cX11_paints 7 (some .boolean) (1 + nr - 1) [.ref (G.1 161), .int a, .int b, .int c] s (wQi G r0 s1)) (hX : wOK G X cX11_paints RX11 (some .boolean) (1 + nr)) (hQ : wRt G X (wQi G r0 s1)) (hN : wNl X = 7) (hk13 : ∀ (x4 : Int32) (s : wM), k13 x4 s = some (r0, s1) → WB G X 13 [(0, .ref (G.1 161)), (1, .int x1), (2, .int x2), (3, .int x3), (4, .int x4)] [] s) (hk31 : ∀ (x5 : Int32) (x6 : Int32), k31 x5 x6 = some (r0, s1) → WB G X 31 [(0, .ref (G.1 161)), (1, .int x1), (2, .int x2), (3, .int x3), (4, .int x4), (5, .int x5), (6, .int x6)] [] s) (h : fM_paints_J72 rec k13 k31 x1 x2 x3 x4 x6 s = some (r0, s1)) : WB G X 72 [(0, .ref (G.1 161)), (1, .int x1), (2, .int x2), (3, .int x3), (4, .int x4), (6, .int x6)] [] s := by
  unfold fM_paints_J72 at h
  refine wb_iconst (v := iI (0)) hX dX11_paints_72 rfl (pq := 73) rfl ?_
  exact tM_paints_J73 hrec hX hQ hN hk13 hk31 h
set_option maxHeartbeats 4000000 in
set_option maxRecDepth 100000 in
theorem tM_paints_J115 {G : wG} {X : wX} {rec : wM → Int32 → Int32 → Int32 → Option (Int32 × wM)} {k13 : Int32 → wM → Option (Int32 × wM)} {x1 : Int32} {x2 : Int32} {x3 : Int32} {x4 : Int32} {s : wM} {r0 : Int32} {s1 : wM} {nr : Nat} (hrec : ∀ (s s1 : wM) (a b c r0 : Int32), rec s a b c = some (r0, s1) → ∀ l : Launch, 0 < nr ∧ wMet l G yX11_paints cX11_paints 7 (some .boolean) (1 + nr - 1) [.ref (G.1 161), .int a, .int b, .int c] s (wQi G r0 s1)) (hX : wOK G X cX11_paints RX11 (some .boolean) (1 + nr)) (hQ : wRt G X (wQi G r0 s1)) (hN : wNl X = 7) (hk13 : ∀ (x4 : Int32) (s : wM), k13 x4 s = some (r0, s1) → WB G X 13 [(0, .ref (G.1 161)), (1, .int x1), (2, .int x2), (3, .int x3), (4, .int x4)] [] s) (h : fM_paints_J115 rec k13 x1 x2 x3 x4 s = some (r0, s1)) : WB G X 115 [(0, .ref (G.1 161)), (1, .int x1), (2, .int x2), (3, .int x3), (4, .int x4)] [] s := by
  unfold fM_paints_J115 at h
  refine wb_iinc (v := (x4 + iI (1))) (loc' := [(4, .int (x4 + iI (1))), (0, .ref (G.1 161)), (1, .int x1), (2, .int x2), (3, .int x3)]) 4 hX hN dX11_paints_115 rfl rfl (by decide) rfl (pq := 118) rfl ?_
  refine wb_goto (tgt := 13) hX dX11_paints_118 (by decide) ?_
  refine wb_sub [1, 2, 3, 4, 0] (loc' := [(0, .ref (G.1 161)), (1, .int x1), (2, .int x2), (3, .int x3), (4, .int (x4 + iI (1)))]) rfl ?_
  exact hk13 _ _ h
set_option maxHeartbeats 4000000 in
set_option maxRecDepth 100000 in
theorem tM_paints_L31 {G : wG} {X : wX} {rec : wM → Int32 → Int32 → Int32 → Option (Int32 × wM)} {k13 : Int32 → wM → Option (Int32 × wM)} {x1 : Int32} {x2 : Int32} {x3 : Int32} {x4 : Int32} {s : wM} {r0 : Int32} {s1 : wM} {nr : Nat} (hrec : ∀ (s s1 : wM) (a b c r0 : Int32), rec s a b c = some (r0, s1) → ∀ l : Launch, 0 < nr ∧ wMet l G yX11_paints cX11_paints 7 (some .boolean) (1 + nr - 1) [.ref (G.1 161), .int a, .int b, .int c] s (wQi G r0 s1)) (hX : wOK G X cX11_paints RX11 (some .boolean) (1 + nr)) (hQ : wRt G X (wQi G r0 s1)) (hN : wNl X = 7) (hk13 : ∀ (x4 : Int32) (s : wM), k13 x4 s = some (r0, s1) → WB G X 13 [(0, .ref (G.1 161)), (1, .int x1), (2, .int x2), (3, .int x3), (4, .int x4)] [] s) : ∀ (n : Nat) (x5 : Int32) (x6 : Int32), wh2 (fM_paints_L31 rec k13 x1 x2 x3 x4 s) n x5 x6 = some (r0, s1) → WB G X 31 [(0, .ref (G.1 161)), (1, .int x1), (2, .int x2), (3, .int x3), (4, .int x4), (5, .int x5), (6, .int x6)] [] s := by
  intro n
  induction n with
  | zero => intro x5 x6 h; cases h
  | succ n hk31 =>
    intro x5 x6 h
    have h : fM_paints_L31 rec k13 x1 x2 x3 x4 s x5 x6 (wh2 (fM_paints_L31 rec k13 x1 x2 x3 x4 s) n) = some (r0, s1) := h
    unfold fM_paints_L31 at h
    refine wb_iload 6 hX dX11_paints_31 rfl (pq := 33) rfl ?_
    refine wb_iload_n 1 hX dX11_paints_33 rfl (pq := 34) rfl ?_
    refine wb_icmp_ge (tgt := 81) hX dX11_paints_34 (by decide) (fun c_1 => ?_) (pq := 37) rfl (fun c_1 => ?_)
    · have h := ite_t c_1 h
      refine wb_iload 5 hX dX11_paints_81 rfl (pq := 83) rfl ?_
      refine wb_if_eq (tgt := 115) hX dX11_paints_83 (by decide) (fun c_2 => ?_) (pq := 86) rfl (fun c_2 => ?_)
      · have h := ite_t c_2 h
        refine wb_sub [0, 1, 2, 3, 4] (loc' := [(0, .ref (G.1 161)), (1, .int x1), (2, .int x2), (3, .int x3), (4, .int x4)]) rfl ?_
        exact tM_paints_J115 hrec hX hQ hN hk13 h
      · have h := ite_f c_2 h
        refine wb_aload_n 0 hX dX11_paints_86 rfl (pq := 87) rfl ?_
        refine wb_getR hX fl_1556 sh_161 rfl dX11_paints_87 (pq := 90) rfl ?_
        refine wb_iload_n 1 hX dX11_paints_90 rfl (pq := 91) rfl ?_
        refine wb_iload 4 hX dX11_paints_91 rfl (pq := 93) rfl ?_
        obtain ⟨hi_3, h⟩ := chk_some h
        refine wb_iast hX sh_186 hi_3 dX11_paints_93 (pq := 94) rfl ?_
        refine wb_mem (fun s_4 es_4 => ?_)
        have h := nmM_s h s_4 es_4
        refine wb_aload_n 0 hX dX11_paints_94 rfl (pq := 95) rfl ?_
        refine wb_iload_n 1 hX dX11_paints_95 rfl (pq := 96) rfl ?_
        refine wb_iconst (v := iI (1)) hX dX11_paints_96 rfl (pq := 97) rfl ?_
        refine wb_iadd hX dX11_paints_97 (pq := 98) rfl ?_
        refine wb_iload_n 2 hX dX11_paints_98 rfl (pq := 99) rfl ?_
        refine wb_iload 4 hX dX11_paints_99 rfl (pq := 101) rfl ?_
        refine wb_iconst (v := iI (1)) hX dX11_paints_101 rfl (pq := 102) rfl ?_
        refine wb_iadd hX dX11_paints_102 (pq := 103) rfl ?_
        refine wb_mmax hX k_1209 k_491 k_14 k_492 (Nat.le_of_ble_eq_true rfl) dX11_paints_103 (pq := 106) rfl ?_
        refine wb_iload_n 3 hX dX11_paints_106 rfl (pq := 107) rfl ?_
        obtain ⟨q_6, hc_5, h⟩ := bind_s h
        refine wb_callVi (r0 := q_6.1) (s1 := q_6.2) [.int (x1 + (iI (1))), .int (iMax x2 (x4 + (iI (1)))), .int x3] hX sh_161 ml_1380 (hrec _ _ _ _ _ _ hc_5 _).2 ⟨by have := (hrec _ _ _ _ _ _ hc_5 X.2.1).1; omega, by decide⟩ rfl rfl (Nat.le_of_ble_eq_true rfl) dX11_paints_107 (pq := 110) rfl ?_
        refine wb_if_eq (tgt := 115) hX dX11_paints_110 (by decide) (fun c_7 => ?_) (pq := 113) rfl (fun c_7 => ?_)
        · have h := ite_t c_7 h
          refine wb_sub [0, 1, 2, 3, 4] (loc' := [(0, .ref (G.1 161)), (1, .int x1), (2, .int x2), (3, .int x3), (4, .int x4)]) rfl ?_
          exact tM_paints_J115 hrec hX hQ hN hk13 h
        · have h := ite_f c_7 h
          refine wb_iconst (v := iI (1)) hX dX11_paints_113 rfl (pq := 114) rfl ?_
          exact wb_zret hX hQ h nar01.2.1 dX11_paints_114
    · have h := ite_f c_1 h
      refine wb_iload 5 hX dX11_paints_37 rfl (pq := 39) rfl ?_
      refine wb_if_eq (tgt := 72) hX dX11_paints_39 (by decide) (fun c_8 => ?_) (pq := 42) rfl (fun c_8 => ?_)
      · have h := ite_t c_8 h
        refine wb_sub [0, 1, 2, 3, 4, 6] (loc' := [(0, .ref (G.1 161)), (1, .int x1), (2, .int x2), (3, .int x3), (4, .int x4), (6, .int x6)]) rfl ?_
        exact tM_paints_J72 hrec hX hQ hN hk13 hk31 h
      · have h := ite_f c_8 h
        refine wb_aload_n 0 hX dX11_paints_42 rfl (pq := 43) rfl ?_
        refine wb_getR hX fl_1524 sh_161 rfl dX11_paints_43 (pq := 46) rfl ?_
        refine wb_iload_n 1 hX dX11_paints_46 rfl (pq := 47) rfl ?_
        obtain ⟨hi_9, h⟩ := chk_some h
        refine wb_iald hX sh_165 hi_9 dX11_paints_47 (pq := 48) rfl ?_
        refine wb_iload 6 hX dX11_paints_48 rfl (pq := 50) rfl ?_
        obtain ⟨q_11, hc_10, h⟩ := bind_s h
        refine wb_callSi (r0 := q_11) (s1 := s) [.int (s.1 165 x1.toNatClampNeg), .int x6] hX ml_1187 (tM_has hc_10) (by omega) rfl rfl (Nat.le_of_ble_eq_true rfl) dX11_paints_50 (pq := 53) rfl ?_
        refine wb_if_eq (tgt := 68) hX dX11_paints_53 (by decide) (fun c_12 => ?_) (pq := 56) rfl (fun c_12 => ?_)
        · have h := ite_t c_12 h
          refine wb_sub [0, 1, 2, 3, 4, 6] (loc' := [(0, .ref (G.1 161)), (1, .int x1), (2, .int x2), (3, .int x3), (4, .int x4), (6, .int x6)]) rfl ?_
          exact tM_paints_J68 hrec hX hQ hN hk13 hk31 h
        · have h := ite_f c_12 h
          refine wb_aload_n 0 hX dX11_paints_56 rfl (pq := 57) rfl ?_
          refine wb_getR hX fl_1556 sh_161 rfl dX11_paints_57 (pq := 60) rfl ?_
          refine wb_iload 6 hX dX11_paints_60 rfl (pq := 62) rfl ?_
          obtain ⟨hi_13, h⟩ := chk_some h
          refine wb_iald hX sh_186 hi_13 dX11_paints_62 (pq := 63) rfl ?_
          refine wb_iload 4 hX dX11_paints_63 rfl (pq := 65) rfl ?_
          refine wb_icmp_eq (tgt := 72) hX dX11_paints_65 (by decide) (fun c_14 => ?_) (pq := 68) rfl (fun c_14 => ?_)
          · have h := ite_t c_14 h
            refine wb_sub [0, 1, 2, 3, 4, 6] (loc' := [(0, .ref (G.1 161)), (1, .int x1), (2, .int x2), (3, .int x3), (4, .int x4), (6, .int x6)]) rfl ?_
            exact tM_paints_J72 hrec hX hQ hN hk13 hk31 h
          · have h := ite_f c_14 h
            refine wb_sub [0, 1, 2, 3, 4, 6] (loc' := [(0, .ref (G.1 161)), (1, .int x1), (2, .int x2), (3, .int x3), (4, .int x4), (6, .int x6)]) rfl ?_
            exact tM_paints_J68 hrec hX hQ hN hk13 hk31 h
set_option maxHeartbeats 4000000 in
set_option maxRecDepth 100000 in
theorem tM_paints_J121 {G : wG} {X : wX} {rec : wM → Int32 → Int32 → Int32 → Option (Int32 × wM)} {s : wM} {r0 : Int32} {s1 : wM} {nr : Nat} (hrec : ∀ (s s1 : wM) (a b c r0 : Int32), rec s a b c = some (r0, s1) → ∀ l : Launch, 0 < nr ∧ wMet l G yX11_paints cX11_paints 7 (some .boolean) (1 + nr - 1) [.ref (G.1 161), .int a, .int b, .int c] s (wQi G r0 s1)) (hX : wOK G X cX11_paints RX11 (some .boolean) (1 + nr)) (hQ : wRt G X (wQi G r0 s1)) (hN : wNl X = 7) (h : fM_paints_J121 rec s = some (r0, s1)) : WB G X 121 [] [] s := by
  unfold fM_paints_J121 at h
  refine wb_iconst (v := iI (0)) hX dX11_paints_121 rfl (pq := 122) rfl ?_
  exact wb_zret hX hQ h nar01.1.1 dX11_paints_122
set_option maxHeartbeats 4000000 in
set_option maxRecDepth 100000 in
theorem tM_paints_L13 {G : wG} {X : wX} {rec : wM → Int32 → Int32 → Int32 → Option (Int32 × wM)} {x1 : Int32} {x2 : Int32} {x3 : Int32} {r0 : Int32} {s1 : wM} {nr : Nat} (hrec : ∀ (s s1 : wM) (a b c r0 : Int32), rec s a b c = some (r0, s1) → ∀ l : Launch, 0 < nr ∧ wMet l G yX11_paints cX11_paints 7 (some .boolean) (1 + nr - 1) [.ref (G.1 161), .int a, .int b, .int c] s (wQi G r0 s1)) (hX : wOK G X cX11_paints RX11 (some .boolean) (1 + nr)) (hQ : wRt G X (wQi G r0 s1)) (hN : wNl X = 7) : ∀ (n : Nat) (x4 : Int32) (s : wM), wh2 (fM_paints_L13 rec x1 x2 x3) n x4 s = some (r0, s1) → WB G X 13 [(0, .ref (G.1 161)), (1, .int x1), (2, .int x2), (3, .int x3), (4, .int x4)] [] s := by
  intro n
  induction n with
  | zero => intro x4 s h; cases h
  | succ n hk13 =>
    intro x4 s h
    have h : fM_paints_L13 rec x1 x2 x3 x4 s (wh2 (fM_paints_L13 rec x1 x2 x3) n) = some (r0, s1) := h
    unfold fM_paints_L13 at h
    refine wb_iload 4 hX dX11_paints_13 rfl (pq := 15) rfl ?_
    refine wb_iload_n 2 hX dX11_paints_15 rfl (pq := 16) rfl ?_
    refine wb_icmp_gt (tgt := 121) hX dX11_paints_16 (by decide) (fun c_1 => ?_) (pq := 19) rfl (fun c_1 => ?_)
    · have h := ite_t c_1 h
      refine wb_sub [] (loc' := []) rfl ?_
      exact tM_paints_J121 hrec hX hQ hN h
    · have h := ite_f c_1 h
      refine wb_iload 4 hX dX11_paints_19 rfl (pq := 21) rfl ?_
      refine wb_iload_n 3 hX dX11_paints_21 rfl (pq := 22) rfl ?_
      refine wb_icmp_ge (tgt := 121) hX dX11_paints_22 (by decide) (fun c_2 => ?_) (pq := 25) rfl (fun c_2 => ?_)
      · have h := ite_t c_2 h
        refine wb_sub [] (loc' := []) rfl ?_
        exact tM_paints_J121 hrec hX hQ hN h
      · have h := ite_f c_2 h
        refine wb_iconst (v := iI (1)) hX dX11_paints_25 rfl (pq := 26) rfl ?_
        refine wb_istore (loc' := [(5, .int (iI (1))), (0, .ref (G.1 161)), (1, .int x1), (2, .int x2), (3, .int x3), (4, .int x4)]) hX hN dX11_paints_26 (by decide) rfl (pq := 28) rfl ?_
        refine wb_iconst (v := iI (0)) hX dX11_paints_28 rfl (pq := 29) rfl ?_
        refine wb_istore (loc' := [(6, .int (iI (0))), (5, .int (iI (1))), (0, .ref (G.1 161)), (1, .int x1), (2, .int x2), (3, .int x3), (4, .int x4)]) hX hN dX11_paints_29 (by decide) rfl (pq := 31) rfl ?_
        refine wb_sub [2, 3, 4, 5, 6, 1, 0] (loc' := [(0, .ref (G.1 161)), (1, .int x1), (2, .int x2), (3, .int x3), (4, .int x4), (5, .int (iI (1))), (6, .int (iI (0)))]) rfl ?_
        exact tM_paints_L31 hrec hX hQ hN hk13 100000 _ _ h
set_option maxHeartbeats 4000000 in
set_option maxRecDepth 100000 in
theorem tM_paints_B {l : Launch} {G : wG} {rec : wM → Int32 → Int32 → Int32 → Option (Int32 × wM)} {s : wM} {x1 : Int32} {x2 : Int32} {x3 : Int32} {r0 : Int32} {s1 : wM} {nr : Nat} (hrec : ∀ (s s1 : wM) (a b c r0 : Int32), rec s a b c = some (r0, s1) → ∀ l : Launch, 0 < nr ∧ wMet l G yX11_paints cX11_paints 7 (some .boolean) (1 + nr - 1) [.ref (G.1 161), .int a, .int b, .int c] s (wQi G r0 s1)) (h : fM_paints_B rec s x1 x2 x3 = some (r0, s1)) : wMet l G yX11_paints cX11_paints 7 (some .boolean) (1 + nr) [.ref (G.1 161), .int x1, .int x2, .int x3] s (wQi G r0 s1) := by
  refine wMet_of (own := RX11) (by decide +kernel) rfl (Nat.le_of_ble_eq_true rfl) ?_
  intro X hX hQ hN hl
  show WB G X 0 [(0, .ref (G.1 161)), (1, .int x1), (2, .int x2), (3, .int x3)] [] s
  unfold fM_paints_B at h
  refine wb_iload_n 1 hX dX11_paints_0 rfl (pq := 1) rfl ?_
  refine wb_aload_n 0 hX dX11_paints_1 rfl (pq := 2) rfl ?_
  refine wb_getI hX fl_1521 sh_161 rfl dX11_paints_2 (pq := 5) rfl ?_
  refine wb_icmp_ne (tgt := 10) hX dX11_paints_5 (by decide) (pq := 8) rfl (fun c_1 => ?_) (fun c_1 => ?_)
  · have h := ite_t c_1 h
    refine wb_iconst (v := iI (1)) hX dX11_paints_8 rfl (pq := 9) rfl ?_
    exact wb_zret hX hQ h nar01.2.1 dX11_paints_9
  · have h := ite_f c_1 h
    refine wb_iconst (v := iI (0)) hX dX11_paints_10 rfl (pq := 11) rfl ?_
    refine wb_istore (loc' := [(4, .int (iI (0))), (0, .ref (G.1 161)), (1, .int x1), (2, .int x2), (3, .int x3)]) hX hN dX11_paints_11 (by decide) rfl (pq := 13) rfl ?_
    refine wb_sub [1, 2, 3, 4, 0] (loc' := [(0, .ref (G.1 161)), (1, .int x1), (2, .int x2), (3, .int x3), (4, .int (iI (0)))]) rfl ?_
    exact tM_paints_L13 hrec hX hQ hN 100000 _ _ h
theorem tM_paints {G : wG} : ∀ (n : Nat) {l : Launch} {s : wM} {x1 x2 x3 r0 : Int32} {s1 : wM}, fM_paints n s x1 x2 x3 = some (r0, s1) → wMet l G yX11_paints cX11_paints 7 (some .boolean) (1 + n) [.ref (G.1 161), .int x1, .int x2, .int x3] s (wQi G r0 s1)
  | 0, _, _, _, _, _, _, _, h => by cases h
  | n + 1, _, _, _, _, _, _, _, h => tM_paints_B (nr := n + 1) (fun s s1 a b c r0 h l => ⟨Nat.succ_pos n, tM_paints n h⟩) h
set_option maxHeartbeats 4000000 in
set_option maxRecDepth 100000 in
theorem tM_paintsAll_L16 {G : wG} {X : wX} {r0 : Int32} {s1 : wM} (hX : wOK G X cX11_paintsAll RX11 (some .int) 14) (hQ : wRt G X (wQi G r0 s1)) (hN : wNl X = 2) : ∀ (n : Nat) (x1 : Int32) (s : wM), wh2 (fM_paintsAll_L16) n x1 s = some (r0, s1) → WB G X 16 [(0, .ref (G.1 161)), (1, .int x1)] [] s := by
  intro n
  induction n with
  | zero => intro x1 s h; cases h
  | succ n hk16 =>
    intro x1 s h
    have h : fM_paintsAll_L16 x1 s (wh2 (fM_paintsAll_L16) n) = some (r0, s1) := h
    unfold fM_paintsAll_L16 at h
    refine wb_aload_n 0 hX dX11_paintsAll_16 rfl (pq := 17) rfl ?_
    refine wb_iconst (v := iI (0)) hX dX11_paintsAll_17 rfl (pq := 18) rfl ?_
    refine wb_iconst (v := iI (0)) hX dX11_paintsAll_18 rfl (pq := 19) rfl ?_
    refine wb_iload_n 1 hX dX11_paintsAll_19 rfl (pq := 20) rfl ?_
    obtain ⟨q_2, hc_1, h⟩ := bind_s h
    refine wb_callVi (r0 := q_2.1) (s1 := q_2.2) [.int (iI (0)), .int (iI (0)), .int x1] hX sh_161 ml_1380 (tM_paints 12 hc_1) (by decide) rfl rfl (Nat.le_of_ble_eq_true rfl) dX11_paintsAll_20 (pq := 23) rfl ?_
    refine wb_if_ne (tgt := 32) hX dX11_paintsAll_23 (by decide) (pq := 26) rfl (fun c_3 => ?_) (fun c_3 => ?_)
    · have h := ite_t c_3 h
      refine wb_iinc (v := (x1 + iI (1))) (loc' := [(1, .int (x1 + iI (1))), (0, .ref (G.1 161))]) 1 hX hN dX11_paintsAll_26 rfl rfl (by decide) rfl (pq := 29) rfl ?_
      refine wb_goto (tgt := 16) hX dX11_paintsAll_29 (by decide) ?_
      refine wb_sub [1, 0] (loc' := [(0, .ref (G.1 161)), (1, .int (x1 + iI (1)))]) rfl ?_
      exact hk16 _ _ h
    · have h := ite_f c_3 h
      refine wb_iload_n 1 hX dX11_paintsAll_32 rfl (pq := 33) rfl ?_
      exact wb_iret hX hQ h dX11_paintsAll_33
set_option maxHeartbeats 4000000 in
set_option maxRecDepth 100000 in
theorem tM_paintsAll_J12 {G : wG} {X : wX} {v0 : Int32} {s : wM} {r0 : Int32} {s1 : wM} (hX : wOK G X cX11_paintsAll RX11 (some .int) 14) (hQ : wRt G X (wQi G r0 s1)) (hN : wNl X = 2) (h : fM_paintsAll_J12 v0 s = some (r0, s1)) : WB G X 12 [(0, .ref (G.1 161))] [.int v0] s := by
  unfold fM_paintsAll_J12 at h
  obtain ⟨q_2, hc_1, h⟩ := bind_s h
  refine wb_callSi (r0 := q_2) (s1 := s) [.int v0] hX ml_1151 (tM_flag hc_1) (by decide) rfl rfl (Nat.le_of_ble_eq_true rfl) dX11_paintsAll_12 (pq := 15) rfl ?_
  refine wb_istore_n (loc' := [(1, .int q_2), (0, .ref (G.1 161))]) hX hN dX11_paintsAll_15 (by decide) rfl (pq := 16) rfl ?_
  refine wb_sub [1, 0] (loc' := [(0, .ref (G.1 161)), (1, .int q_2)]) rfl ?_
  exact tM_paintsAll_L16 hX hQ hN 100000 _ _ h
set_option maxHeartbeats 4000000 in
set_option maxRecDepth 100000 in
theorem tM_paintsAll {l : Launch} {G : wG} {s : wM} {r0 : Int32} {s1 : wM} (h : fM_paintsAll s = some (r0, s1)) : wMet l G yX11_paintsAll cX11_paintsAll 2 (some .int) 14 [.ref (G.1 161)] s (wQi G r0 s1) := by
  refine wMet_of (own := RX11) (by decide +kernel) rfl (Nat.le_of_ble_eq_true rfl) ?_
  intro X hX hQ hN hl
  show WB G X 0 [(0, .ref (G.1 161))] [] s
  unfold fM_paintsAll at h
  refine wb_aload_n 0 hX dX11_paintsAll_0 rfl (pq := 1) rfl ?_
  refine wb_getI hX fl_1521 sh_161 rfl dX11_paintsAll_1 (pq := 4) rfl ?_
  refine wb_if_le (tgt := 11) hX dX11_paintsAll_4 (by decide) (fun c_1 => ?_) (pq := 7) rfl (fun c_1 => ?_)
  · have h := ite_t c_1 h
    refine wb_iconst (v := iI (0)) hX dX11_paintsAll_11 rfl (pq := 12) rfl ?_
    exact tM_paintsAll_J12 hX hQ hN h
  · have h := ite_f c_1 h
    refine wb_iconst (v := iI (1)) hX dX11_paintsAll_7 rfl (pq := 8) rfl ?_
    refine wb_goto (tgt := 12) hX dX11_paintsAll_8 (by decide) ?_
    exact tM_paintsAll_J12 hX hQ hN h
set_option maxHeartbeats 4000000 in
set_option maxRecDepth 100000 in
theorem tM_colours_L17 {G : wG} {X : wX} {x1 : Int32} {r0 : Int32} {s1 : wM} (hX : wOK G X cX11_colours RX11 (some .int) 15) (hQ : wRt G X (wQi G r0 s1)) (hN : wNl X = 3) : ∀ (n : Nat) (x2 : Int32) (s : wM), wh2 (fM_colours_L17 x1) n x2 s = some (r0, s1) → WB G X 17 [(0, .ref (G.1 161)), (1, .int x1), (2, .int x2)] [] s := by
  intro n
  induction n with
  | zero => intro x2 s h; cases h
  | succ n hk17 =>
    intro x2 s h
    have h : fM_colours_L17 x1 x2 s (wh2 (fM_colours_L17 x1) n) = some (r0, s1) := h
    unfold fM_colours_L17 at h
    refine wb_iload_n 2 hX dX11_colours_17 rfl (pq := 18) rfl ?_
    refine wb_aload_n 0 hX dX11_colours_18 rfl (pq := 19) rfl ?_
    refine wb_getI hX fl_1521 sh_161 rfl dX11_colours_19 (pq := 22) rfl ?_
    refine wb_icmp_ge (tgt := 41) hX dX11_colours_22 (by decide) (fun c_1 => ?_) (pq := 25) rfl (fun c_1 => ?_)
    · have h := ite_t c_1 h
      refine wb_iload_n 1 hX dX11_colours_41 rfl (pq := 42) rfl ?_
      exact wb_iret hX hQ h dX11_colours_42
    · have h := ite_f c_1 h
      refine wb_aload_n 0 hX dX11_colours_25 rfl (pq := 26) rfl ?_
      refine wb_aload_n 0 hX dX11_colours_26 rfl (pq := 27) rfl ?_
      refine wb_getR hX fl_1556 sh_161 rfl dX11_colours_27 (pq := 30) rfl ?_
      refine wb_iload_n 2 hX dX11_colours_30 rfl (pq := 31) rfl ?_
      obtain ⟨hi_2, h⟩ := chk_some h
      refine wb_iald hX sh_186 hi_2 dX11_colours_31 (pq := 32) rfl ?_
      obtain ⟨q_4, hc_3, h⟩ := bind_s h
      refine wb_callVv (s1 := q_4) [.int (s.1 186 x2.toNatClampNeg)] hX sh_161 ml_1263 (tM_enters hc_3) (by decide) rfl rfl (Nat.le_of_ble_eq_true rfl) dX11_colours_32 (pq := 35) rfl ?_
      refine wb_iinc (v := (x2 + iI (1))) (loc' := [(2, .int (x2 + iI (1))), (0, .ref (G.1 161)), (1, .int x1)]) 2 hX hN dX11_colours_35 rfl rfl (by decide) rfl (pq := 38) rfl ?_
      refine wb_goto (tgt := 17) hX dX11_colours_38 (by decide) ?_
      refine wb_sub [1, 2, 0] (loc' := [(0, .ref (G.1 161)), (1, .int x1), (2, .int (x2 + iI (1)))]) rfl ?_
      exact hk17 _ _ h
set_option maxHeartbeats 4000000 in
set_option maxRecDepth 100000 in
theorem tM_colours {l : Launch} {G : wG} {s : wM} {r0 : Int32} {s1 : wM} (h : fM_colours s = some (r0, s1)) : wMet l G yX11_colours cX11_colours 3 (some .int) 15 [.ref (G.1 161)] s (wQi G r0 s1) := by
  refine wMet_of (own := RX11) (by decide +kernel) rfl (Nat.le_of_ble_eq_true rfl) ?_
  intro X hX hQ hN hl
  show WB G X 0 [(0, .ref (G.1 161))] [] s
  unfold fM_colours at h
  refine wb_aload_n 0 hX dX11_colours_0 rfl (pq := 1) rfl ?_
  refine wb_iconst (v := iI (0)) hX dX11_colours_1 rfl (pq := 2) rfl ?_
  refine wb_putI hX fp_1518 sh_161 rfl dX11_colours_2 rfl rfl (pq := 5) rfl ?_
  refine wb_mem (fun s_1 es_1 => ?_)
  have h := nmM_s h s_1 es_1
  refine wb_aload_n 0 hX dX11_colours_5 rfl (pq := 6) rfl ?_
  obtain ⟨q_3, hc_2, h⟩ := bind_s h
  refine wb_callVi (r0 := q_3.1) (s1 := q_3.2) [] hX sh_161 ml_1376 (tM_paintsAll hc_2) (by decide) rfl rfl (Nat.le_of_ble_eq_true rfl) dX11_colours_6 (pq := 9) rfl ?_
  refine wb_istore_n (loc' := [(1, .int q_3.1), (0, .ref (G.1 161))]) hX hN dX11_colours_9 (by decide) rfl (pq := 10) rfl ?_
  refine wb_aload_n 1 hX dX11_colours_10 rfl (pq := 11) rfl ?_
  refine wb_iconst (v := iI (0)) hX dX11_colours_11 rfl (pq := 12) rfl ?_
  refine wb_putI hX fp_1519 sh_161 rfl dX11_colours_12 rfl rfl (pq := 15) rfl ?_
  refine wb_mem (fun s_4 es_4 => ?_)
  have h := nmM_s h s_4 es_4
  refine wb_iconst (v := iI (0)) hX dX11_colours_15 rfl (pq := 16) rfl ?_
  refine wb_istore_n (loc' := [(2, .int (iI (0))), (1, .int q_3.1), (0, .ref (G.1 161))]) hX hN dX11_colours_16 (by decide) rfl (pq := 17) rfl ?_
  refine wb_sub [2, 1, 0] (loc' := [(0, .ref (G.1 161)), (1, .int q_3.1), (2, .int (iI (0)))]) rfl ?_
  exact tM_colours_L17 hX hQ hN 100000 _ _ h
set_option maxHeartbeats 4000000 in
set_option maxRecDepth 100000 in
theorem tM_clique_J84 {G : wG} {X : wX} {k9 : Int32 → Int32 → Option (Int32 × wM)} {k39 : Int32 → Int32 → Option (Int32 × wM)} {x1 : Int32} {x2 : Int32} {x4 : Int32} {v0 : Int32} {s : wM} {r0 : Int32} {s1 : wM} (hX : wOK G X cX11_clique RX11 (some .int) 1) (hQ : wRt G X (wQi G r0 s1)) (hN : wNl X = 5) (hk9 : ∀ (x1 : Int32) (x2 : Int32), k9 x1 x2 = some (r0, s1) → WB G X 9 [(0, .ref (G.1 161)), (1, .int x1), (2, .int x2)] [] s) (hk39 : ∀ (x3 : Int32) (x4 : Int32), k39 x3 x4 = some (r0, s1) → WB G X 39 [(0, .ref (G.1 161)), (1, .int x1), (2, .int x2), (3, .int x3), (4, .int x4)] [] s) (h : fM_clique_J84 k9 k39 x1 x2 x4 v0 s = some (r0, s1)) : WB G X 84 [(0, .ref (G.1 161)), (1, .int x1), (2, .int x2), (4, .int x4)] [.int v0] s := by
  unfold fM_clique_J84 at h
  refine wb_istore_n (loc' := [(3, .int v0), (0, .ref (G.1 161)), (1, .int x1), (2, .int x2), (4, .int x4)]) hX hN dX11_clique_84 (by decide) rfl (pq := 85) rfl ?_
  refine wb_iinc (v := (x4 + iI (1))) (loc' := [(4, .int (x4 + iI (1))), (3, .int v0), (0, .ref (G.1 161)), (1, .int x1), (2, .int x2)]) 4 hX hN dX11_clique_85 rfl rfl (by decide) rfl (pq := 88) rfl ?_
  refine wb_goto (tgt := 39) hX dX11_clique_88 (by decide) ?_
  refine wb_sub [2, 3, 4, 1, 0] (loc' := [(0, .ref (G.1 161)), (1, .int x1), (2, .int x2), (3, .int v0), (4, .int (x4 + iI (1)))]) rfl ?_
  exact hk39 _ _ h
set_option maxHeartbeats 4000000 in
set_option maxRecDepth 100000 in
theorem tM_clique_J79 {G : wG} {X : wX} {k9 : Int32 → Int32 → Option (Int32 × wM)} {k39 : Int32 → Int32 → Option (Int32 × wM)} {x1 : Int32} {x2 : Int32} {x4 : Int32} {s : wM} {r0 : Int32} {s1 : wM} (hX : wOK G X cX11_clique RX11 (some .int) 1) (hQ : wRt G X (wQi G r0 s1)) (hN : wNl X = 5) (hk9 : ∀ (x1 : Int32) (x2 : Int32), k9 x1 x2 = some (r0, s1) → WB G X 9 [(0, .ref (G.1 161)), (1, .int x1), (2, .int x2)] [] s) (hk39 : ∀ (x3 : Int32) (x4 : Int32), k39 x3 x4 = some (r0, s1) → WB G X 39 [(0, .ref (G.1 161)), (1, .int x1), (2, .int x2), (3, .int x3), (4, .int x4)] [] s) (h : fM_clique_J79 k9 k39 x1 x2 x4 s = some (r0, s1)) : WB G X 79 [(0, .ref (G.1 161)), (1, .int x1), (2, .int x2), (4, .int x4)] [] s := by
  unfold fM_clique_J79 at h
  refine wb_iconst (v := iI (1)) hX dX11_clique_79 rfl (pq := 80) rfl ?_
  refine wb_goto (tgt := 84) hX dX11_clique_80 (by decide) ?_
  exact tM_clique_J84 hX hQ hN hk9 hk39 h
set_option maxHeartbeats 4000000 in
set_option maxRecDepth 100000 in
theorem tM_clique_J100 {G : wG} {X : wX} {k9 : Int32 → Int32 → Option (Int32 × wM)} {x2 : Int32} {v0 : Int32} {s : wM} {r0 : Int32} {s1 : wM} (hX : wOK G X cX11_clique RX11 (some .int) 1) (hQ : wRt G X (wQi G r0 s1)) (hN : wNl X = 5) (hk9 : ∀ (x1 : Int32) (x2 : Int32), k9 x1 x2 = some (r0, s1) → WB G X 9 [(0, .ref (G.1 161)), (1, .int x1), (2, .int x2)] [] s) (h : fM_clique_J100 k9 x2 v0 s = some (r0, s1)) : WB G X 100 [(0, .ref (G.1 161)), (2, .int x2)] [.int v0] s := by
  unfold fM_clique_J100 at h
  refine wb_istore_n (loc' := [(1, .int v0), (0, .ref (G.1 161)), (2, .int x2)]) hX hN dX11_clique_100 (by decide) rfl (pq := 101) rfl ?_
  refine wb_iinc (v := (x2 + iI (1))) (loc' := [(2, .int (x2 + iI (1))), (1, .int v0), (0, .ref (G.1 161))]) 2 hX hN dX11_clique_101 rfl rfl (by decide) rfl (pq := 104) rfl ?_
  refine wb_goto (tgt := 9) hX dX11_clique_104 (by decide) ?_
  refine wb_sub [2, 1, 0] (loc' := [(0, .ref (G.1 161)), (1, .int v0), (2, .int (x2 + iI (1)))]) rfl ?_
  exact hk9 _ _ h
set_option maxHeartbeats 4000000 in
set_option maxRecDepth 100000 in
theorem tM_clique_J91 {G : wG} {X : wX} {k9 : Int32 → Int32 → Option (Int32 × wM)} {x1 : Int32} {x2 : Int32} {x3 : Int32} {s : wM} {r0 : Int32} {s1 : wM} (hX : wOK G X cX11_clique RX11 (some .int) 1) (hQ : wRt G X (wQi G r0 s1)) (hN : wNl X = 5) (hk9 : ∀ (x1 : Int32) (x2 : Int32), k9 x1 x2 = some (r0, s1) → WB G X 9 [(0, .ref (G.1 161)), (1, .int x1), (2, .int x2)] [] s) (h : fM_clique_J91 k9 x1 x2 x3 s = some (r0, s1)) : WB G X 91 [(0, .ref (G.1 161)), (1, .int x1), (2, .int x2), (3, .int x3)] [] s := by
  unfold fM_clique_J91 at h
  refine wb_iload_n 3 hX dX11_clique_91 rfl (pq := 92) rfl ?_
  refine wb_if_eq (tgt := 99) hX dX11_clique_92 (by decide) (fun c_1 => ?_) (pq := 95) rfl (fun c_1 => ?_)
  · have h := ite_t c_1 h
    refine wb_iload_n 1 hX dX11_clique_99 rfl (pq := 100) rfl ?_
    refine wb_sub [0, 2] (loc' := [(0, .ref (G.1 161)), (2, .int x2)]) rfl ?_
    exact tM_clique_J100 hX hQ hN hk9 h
  · have h := ite_f c_1 h
    refine wb_iload_n 2 hX dX11_clique_95 rfl (pq := 96) rfl ?_
    refine wb_goto (tgt := 100) hX dX11_clique_96 (by decide) ?_
    refine wb_sub [0, 2] (loc' := [(0, .ref (G.1 161)), (2, .int x2)]) rfl ?_
    exact tM_clique_J100 hX hQ hN hk9 h
set_option maxHeartbeats 4000000 in
set_option maxRecDepth 100000 in
theorem tM_clique_L39 {G : wG} {X : wX} {k9 : Int32 → Int32 → Option (Int32 × wM)} {x1 : Int32} {x2 : Int32} {s : wM} {r0 : Int32} {s1 : wM} (hX : wOK G X cX11_clique RX11 (some .int) 1) (hQ : wRt G X (wQi G r0 s1)) (hN : wNl X = 5) (hk9 : ∀ (x1 : Int32) (x2 : Int32), k9 x1 x2 = some (r0, s1) → WB G X 9 [(0, .ref (G.1 161)), (1, .int x1), (2, .int x2)] [] s) : ∀ (n : Nat) (x3 : Int32) (x4 : Int32), wh2 (fM_clique_L39 k9 x1 x2 s) n x3 x4 = some (r0, s1) → WB G X 39 [(0, .ref (G.1 161)), (1, .int x1), (2, .int x2), (3, .int x3), (4, .int x4)] [] s := by
  intro n
  induction n with
  | zero => intro x3 x4 h; cases h
  | succ n hk39 =>
    intro x3 x4 h
    have h : fM_clique_L39 k9 x1 x2 s x3 x4 (wh2 (fM_clique_L39 k9 x1 x2 s) n) = some (r0, s1) := h
    unfold fM_clique_L39 at h
    refine wb_iload 4 hX dX11_clique_39 rfl (pq := 41) rfl ?_
    refine wb_aload_n 0 hX dX11_clique_41 rfl (pq := 42) rfl ?_
    refine wb_getI hX fl_1521 sh_161 rfl dX11_clique_42 (pq := 45) rfl ?_
    refine wb_icmp_ge (tgt := 91) hX dX11_clique_45 (by decide) (fun c_1 => ?_) (pq := 48) rfl (fun c_1 => ?_)
    · have h := ite_t c_1 h
      refine wb_sub [0, 1, 2, 3] (loc' := [(0, .ref (G.1 161)), (1, .int x1), (2, .int x2), (3, .int x3)]) rfl ?_
      exact tM_clique_J91 hX hQ hN hk9 h
    · have h := ite_f c_1 h
      refine wb_iload_n 3 hX dX11_clique_48 rfl (pq := 49) rfl ?_
      refine wb_if_eq (tgt := 91) hX dX11_clique_49 (by decide) (fun c_2 => ?_) (pq := 52) rfl (fun c_2 => ?_)
      · have h := ite_t c_2 h
        refine wb_sub [0, 1, 2, 3] (loc' := [(0, .ref (G.1 161)), (1, .int x1), (2, .int x2), (3, .int x3)]) rfl ?_
        exact tM_clique_J91 hX hQ hN hk9 h
      · have h := ite_f c_2 h
        refine wb_iload_n 2 hX dX11_clique_52 rfl (pq := 53) rfl ?_
        refine wb_iload 4 hX dX11_clique_53 rfl (pq := 55) rfl ?_
        obtain ⟨q_4, hc_3, h⟩ := bind_s h
        refine wb_callSi (r0 := q_4) (s1 := s) [.int x2, .int x4] hX ml_1187 (tM_has hc_3) (by decide) rfl rfl (Nat.le_of_ble_eq_true rfl) dX11_clique_55 (pq := 58) rfl ?_
        refine wb_if_eq (tgt := 79) hX dX11_clique_58 (by decide) (fun c_5 => ?_) (pq := 61) rfl (fun c_5 => ?_)
        · have h := ite_t c_5 h
          refine wb_sub [0, 1, 2, 4] (loc' := [(0, .ref (G.1 161)), (1, .int x1), (2, .int x2), (4, .int x4)]) rfl ?_
          exact tM_clique_J79 hX hQ hN hk9 hk39 h
        · have h := ite_f c_5 h
          refine wb_iload_n 2 hX dX11_clique_61 rfl (pq := 62) rfl ?_
          refine wb_aload_n 0 hX dX11_clique_62 rfl (pq := 63) rfl ?_
          refine wb_getR hX fl_1524 sh_161 rfl dX11_clique_63 (pq := 66) rfl ?_
          refine wb_iload 4 hX dX11_clique_66 rfl (pq := 68) rfl ?_
          obtain ⟨hi_6, h⟩ := chk_some h
          refine wb_iald hX sh_165 hi_6 dX11_clique_68 (pq := 69) rfl ?_
          refine wb_iconst (v := iI (-1)) hX dX11_clique_69 rfl (pq := 70) rfl ?_
          refine wb_ixor hX dX11_clique_70 (pq := 71) rfl ?_
          refine wb_iand hX dX11_clique_71 (pq := 72) rfl ?_
          refine wb_iconst (v := iI (1)) hX dX11_clique_72 rfl (pq := 73) rfl ?_
          refine wb_iload 4 hX dX11_clique_73 rfl (pq := 75) rfl ?_
          refine wb_ishl hX dX11_clique_75 (pq := 76) rfl ?_
          refine wb_icmp_ne (tgt := 83) hX dX11_clique_76 (by decide) (pq := 79) rfl (fun c_7 => ?_) (fun c_7 => ?_)
          · have h := ite_t c_7 h
            refine wb_sub [0, 1, 2, 4] (loc' := [(0, .ref (G.1 161)), (1, .int x1), (2, .int x2), (4, .int x4)]) rfl ?_
            exact tM_clique_J79 hX hQ hN hk9 hk39 h
          · have h := ite_f c_7 h
            refine wb_iconst (v := iI (0)) hX dX11_clique_83 rfl (pq := 84) rfl ?_
            refine wb_sub [0, 1, 2, 4] (loc' := [(0, .ref (G.1 161)), (1, .int x1), (2, .int x2), (4, .int x4)]) rfl ?_
            exact tM_clique_J84 hX hQ hN hk9 hk39 h
set_option maxHeartbeats 4000000 in
set_option maxRecDepth 100000 in
theorem tM_clique_J35 {G : wG} {X : wX} {k9 : Int32 → Int32 → Option (Int32 × wM)} {x1 : Int32} {x2 : Int32} {v0 : Int32} {s : wM} {r0 : Int32} {s1 : wM} (hX : wOK G X cX11_clique RX11 (some .int) 1) (hQ : wRt G X (wQi G r0 s1)) (hN : wNl X = 5) (hk9 : ∀ (x1 : Int32) (x2 : Int32), k9 x1 x2 = some (r0, s1) → WB G X 9 [(0, .ref (G.1 161)), (1, .int x1), (2, .int x2)] [] s) (h : fM_clique_J35 k9 x1 x2 v0 s = some (r0, s1)) : WB G X 35 [(0, .ref (G.1 161)), (1, .int x1), (2, .int x2)] [.int v0] s := by
  unfold fM_clique_J35 at h
  refine wb_istore_n (loc' := [(3, .int v0), (0, .ref (G.1 161)), (1, .int x1), (2, .int x2)]) hX hN dX11_clique_35 (by decide) rfl (pq := 36) rfl ?_
  refine wb_iconst (v := iI (0)) hX dX11_clique_36 rfl (pq := 37) rfl ?_
  refine wb_istore (loc' := [(4, .int (iI (0))), (3, .int v0), (0, .ref (G.1 161)), (1, .int x1), (2, .int x2)]) hX hN dX11_clique_37 (by decide) rfl (pq := 39) rfl ?_
  refine wb_sub [2, 3, 4, 1, 0] (loc' := [(0, .ref (G.1 161)), (1, .int x1), (2, .int x2), (3, .int v0), (4, .int (iI (0)))]) rfl ?_
  exact tM_clique_L39 hX hQ hN hk9 100000 _ _ h
set_option maxHeartbeats 4000000 in
set_option maxRecDepth 100000 in
theorem tM_clique_L9 {G : wG} {X : wX} {s : wM} {r0 : Int32} {s1 : wM} (hX : wOK G X cX11_clique RX11 (some .int) 1) (hQ : wRt G X (wQi G r0 s1)) (hN : wNl X = 5) : ∀ (n : Nat) (x1 : Int32) (x2 : Int32), wh2 (fM_clique_L9 s) n x1 x2 = some (r0, s1) → WB G X 9 [(0, .ref (G.1 161)), (1, .int x1), (2, .int x2)] [] s := by
  intro n
  induction n with
  | zero => intro x1 x2 h; cases h
  | succ n hk9 =>
    intro x1 x2 h
    have h : fM_clique_L9 s x1 x2 (wh2 (fM_clique_L9 s) n) = some (r0, s1) := h
    unfold fM_clique_L9 at h
    refine wb_iload_n 2 hX dX11_clique_9 rfl (pq := 10) rfl ?_
    refine wb_iconst (v := iI (1)) hX dX11_clique_10 rfl (pq := 11) rfl ?_
    refine wb_aload_n 0 hX dX11_clique_11 rfl (pq := 12) rfl ?_
    refine wb_getI hX fl_1521 sh_161 rfl dX11_clique_12 (pq := 15) rfl ?_
    refine wb_ishl hX dX11_clique_15 (pq := 16) rfl ?_
    refine wb_icmp_ge (tgt := 107) hX dX11_clique_16 (by decide) (fun c_1 => ?_) (pq := 19) rfl (fun c_1 => ?_)
    · have h := ite_t c_1 h
      refine wb_aload_n 0 hX dX11_clique_107 rfl (pq := 108) rfl ?_
      refine wb_iconst (v := iI (0)) hX dX11_clique_108 rfl (pq := 109) rfl ?_
      refine wb_putI hX fp_1519 sh_161 rfl dX11_clique_109 rfl rfl (pq := 112) rfl ?_
      refine wb_mem (fun s_2 es_2 => ?_)
      have h := nmM_s h s_2 es_2
      refine wb_aload_n 0 hX dX11_clique_112 rfl (pq := 113) rfl ?_
      refine wb_iload_n 1 hX dX11_clique_113 rfl (pq := 114) rfl ?_
      obtain ⟨q_4, hc_3, h⟩ := bind_s h
      refine wb_callVv (s1 := q_4) [.int x1] hX sh_161 ml_1263 (tM_enters hc_3) (by decide) rfl rfl (Nat.le_of_ble_eq_true rfl) dX11_clique_114 (pq := 117) rfl ?_
      refine wb_iload_n 1 hX dX11_clique_117 rfl (pq := 118) rfl ?_
      obtain ⟨q_6, hc_5, h⟩ := bind_s h
      refine wb_callSi (r0 := q_6) (s1 := q_4) [.int x1] hX ml_1288 (tJ_bitCount hc_5) (by decide) rfl rfl (Nat.le_of_ble_eq_true rfl) dX11_clique_118 (pq := 121) rfl ?_
      exact wb_iret hX hQ h dX11_clique_121
    · have h := ite_f c_1 h
      refine wb_iload_n 2 hX dX11_clique_19 rfl (pq := 20) rfl ?_
      obtain ⟨q_8, hc_7, h⟩ := bind_s h
      refine wb_callSi (r0 := q_8) (s1 := s) [.int x2] hX ml_1288 (tJ_bitCount hc_7) (by decide) rfl rfl (Nat.le_of_ble_eq_true rfl) dX11_clique_20 (pq := 23) rfl ?_
      refine wb_iload_n 1 hX dX11_clique_23 rfl (pq := 24) rfl ?_
      obtain ⟨q_10, hc_9, h⟩ := bind_s h
      refine wb_callSi (r0 := q_10) (s1 := s) [.int x1] hX ml_1288 (tJ_bitCount hc_9) (by decide) rfl rfl (Nat.le_of_ble_eq_true rfl) dX11_clique_24 (pq := 27) rfl ?_
      refine wb_icmp_le (tgt := 34) hX dX11_clique_27 (by decide) (fun c_11 => ?_) (pq := 30) rfl (fun c_11 => ?_)
      · have h := ite_t c_11 h
        refine wb_iconst (v := iI (0)) hX dX11_clique_34 rfl (pq := 35) rfl ?_
        exact tM_clique_J35 hX hQ hN hk9 h
      · have h := ite_f c_11 h
        refine wb_iconst (v := iI (1)) hX dX11_clique_30 rfl (pq := 31) rfl ?_
        refine wb_goto (tgt := 35) hX dX11_clique_31 (by decide) ?_
        exact tM_clique_J35 hX hQ hN hk9 h
set_option maxHeartbeats 4000000 in
set_option maxRecDepth 100000 in
theorem tM_clique {l : Launch} {G : wG} {s : wM} {r0 : Int32} {s1 : wM} (h : fM_clique s = some (r0, s1)) : wMet l G yX11_clique cX11_clique 5 (some .int) 1 [.ref (G.1 161)] s (wQi G r0 s1) := by
  refine wMet_of (own := RX11) (by decide +kernel) rfl (Nat.le_of_ble_eq_true rfl) ?_
  intro X hX hQ hN hl
  show WB G X 0 [(0, .ref (G.1 161))] [] s
  unfold fM_clique at h
  refine wb_aload_n 0 hX dX11_clique_0 rfl (pq := 1) rfl ?_
  refine wb_iconst (v := iI (0)) hX dX11_clique_1 rfl (pq := 2) rfl ?_
  refine wb_putI hX fp_1518 sh_161 rfl dX11_clique_2 rfl rfl (pq := 5) rfl ?_
  refine wb_mem (fun s_1 es_1 => ?_)
  have h := nmM_s h s_1 es_1
  refine wb_iconst (v := iI (0)) hX dX11_clique_5 rfl (pq := 6) rfl ?_
  refine wb_istore_n (loc' := [(1, .int (iI (0))), (0, .ref (G.1 161))]) hX hN dX11_clique_6 (by decide) rfl (pq := 7) rfl ?_
  refine wb_iconst (v := iI (1)) hX dX11_clique_7 rfl (pq := 8) rfl ?_
  refine wb_istore_n (loc' := [(2, .int (iI (1))), (1, .int (iI (0))), (0, .ref (G.1 161))]) hX hN dX11_clique_8 (by decide) rfl (pq := 9) rfl ?_
  refine wb_sub [2, 1, 0] (loc' := [(0, .ref (G.1 161)), (1, .int (iI (0))), (2, .int (iI (1)))]) rfl ?_
  exact tM_clique_L9 hX hQ hN 100000 _ _ h
set_option maxHeartbeats 4000000 in
set_option maxRecDepth 100000 in
theorem tM_lowest_J69 {G : wG} {X : wX} {v0 : Int32} {s : wM} {r0 : Int32} {s1 : wM} (hX : wOK G X cX11_lowest RX11 (some .int) 15) (hQ : wRt G X (wQi G r0 s1)) (hN : wNl X = 3) (h : fM_lowest_J69 v0 s = some (r0, s1)) : WB G X 69 [] [.int v0] s := by
  unfold fM_lowest_J69 at h
  exact wb_iret hX hQ h dX11_lowest_69
set_option maxHeartbeats 4000000 in
set_option maxRecDepth 100000 in
theorem tM_lowest_L17 {G : wG} {X : wX} {x1 : Int32} {r0 : Int32} {s1 : wM} (hX : wOK G X cX11_lowest RX11 (some .int) 15) (hQ : wRt G X (wQi G r0 s1)) (hN : wNl X = 3) : ∀ (n : Nat) (x2 : Int32) (s : wM), wh2 (fM_lowest_L17 x1) n x2 s = some (r0, s1) → WB G X 17 [(0, .ref (G.1 161)), (1, .int x1), (2, .int x2)] [] s := by
  intro n
  induction n with
  | zero => intro x2 s h; cases h
  | succ n hk17 =>
    intro x2 s h
    have h : fM_lowest_L17 x1 x2 s (wh2 (fM_lowest_L17 x1) n) = some (r0, s1) := h
    unfold fM_lowest_L17 at h
    refine wb_iload_n 2 hX dX11_lowest_17 rfl (pq := 18) rfl ?_
    refine wb_aload_n 0 hX dX11_lowest_18 rfl (pq := 19) rfl ?_
    refine wb_getI hX fl_1521 sh_161 rfl dX11_lowest_19 (pq := 22) rfl ?_
    refine wb_icmp_ge (tgt := 48) hX dX11_lowest_22 (by decide) (fun c_1 => ?_) (pq := 25) rfl (fun c_1 => ?_)
    · have h := ite_t c_1 h
      refine wb_aload_n 0 hX dX11_lowest_48 rfl (pq := 49) rfl ?_
      refine wb_getI hX fl_1521 sh_161 rfl dX11_lowest_49 (pq := 52) rfl ?_
      refine wb_if_ne (tgt := 59) hX dX11_lowest_52 (by decide) (pq := 55) rfl (fun c_2 => ?_) (fun c_2 => ?_)
      · have h := ite_t c_2 h
        refine wb_iconst (v := iI (0)) hX dX11_lowest_55 rfl (pq := 56) rfl ?_
        refine wb_goto (tgt := 69) hX dX11_lowest_56 (by decide) ?_
        refine wb_sub [] (loc' := []) rfl ?_
        exact tM_lowest_J69 hX hQ hN h
      · have h := ite_f c_2 h
        refine wb_aload_n 0 hX dX11_lowest_59 rfl (pq := 60) rfl ?_
        refine wb_getR hX fl_1527 sh_161 rfl dX11_lowest_60 (pq := 63) rfl ?_
        refine wb_iconst (v := iI (0)) hX dX11_lowest_63 rfl (pq := 64) rfl ?_
        refine wb_iald hX sh_168 (by unfold vp_in; decide) dX11_lowest_64 (pq := 65) rfl ?_
        refine wb_iload_n 1 hX dX11_lowest_65 rfl (pq := 66) rfl ?_
        refine wb_iconst (v := iI (1)) hX dX11_lowest_66 rfl (pq := 67) rfl ?_
        refine wb_isub hX dX11_lowest_67 (pq := 68) rfl ?_
        refine wb_imul hX dX11_lowest_68 (pq := 69) rfl ?_
        refine wb_sub [] (loc' := []) rfl ?_
        exact tM_lowest_J69 hX hQ hN h
    · have h := ite_f c_1 h
      refine wb_aload_n 0 hX dX11_lowest_25 rfl (pq := 26) rfl ?_
      refine wb_aload_n 0 hX dX11_lowest_26 rfl (pq := 27) rfl ?_
      refine wb_getR hX fl_1527 sh_161 rfl dX11_lowest_27 (pq := 30) rfl ?_
      refine wb_iconst (v := iI (0)) hX dX11_lowest_30 rfl (pq := 31) rfl ?_
      refine wb_iald hX sh_168 (by unfold vp_in; decide) dX11_lowest_31 (pq := 32) rfl ?_
      refine wb_aload_n 0 hX dX11_lowest_32 rfl (pq := 33) rfl ?_
      refine wb_getR hX fl_1556 sh_161 rfl dX11_lowest_33 (pq := 36) rfl ?_
      refine wb_iload_n 2 hX dX11_lowest_36 rfl (pq := 37) rfl ?_
      obtain ⟨hi_3, h⟩ := chk_some h
      refine wb_iald hX sh_186 hi_3 dX11_lowest_37 (pq := 38) rfl ?_
      refine wb_imul hX dX11_lowest_38 (pq := 39) rfl ?_
      obtain ⟨q_5, hc_4, h⟩ := bind_s h
      refine wb_callVv (s1 := q_5) [.int ((s.1 168 (iI (0)).toNatClampNeg) * (s.1 186 x2.toNatClampNeg))] hX sh_161 ml_1263 (tM_enters hc_4) (by decide) rfl rfl (Nat.le_of_ble_eq_true rfl) dX11_lowest_39 (pq := 42) rfl ?_
      refine wb_iinc (v := (x2 + iI (1))) (loc' := [(2, .int (x2 + iI (1))), (0, .ref (G.1 161)), (1, .int x1)]) 2 hX hN dX11_lowest_42 rfl rfl (by decide) rfl (pq := 45) rfl ?_
      refine wb_goto (tgt := 17) hX dX11_lowest_45 (by decide) ?_
      refine wb_sub [1, 2, 0] (loc' := [(0, .ref (G.1 161)), (1, .int x1), (2, .int (x2 + iI (1)))]) rfl ?_
      exact hk17 _ _ h
set_option maxHeartbeats 4000000 in
set_option maxRecDepth 100000 in
theorem tM_lowest {l : Launch} {G : wG} {s : wM} {r0 : Int32} {s1 : wM} (h : fM_lowest s = some (r0, s1)) : wMet l G yX11_lowest cX11_lowest 3 (some .int) 15 [.ref (G.1 161)] s (wQi G r0 s1) := by
  refine wMet_of (own := RX11) (by decide +kernel) rfl (Nat.le_of_ble_eq_true rfl) ?_
  intro X hX hQ hN hl
  show WB G X 0 [(0, .ref (G.1 161))] [] s
  unfold fM_lowest at h
  refine wb_aload_n 0 hX dX11_lowest_0 rfl (pq := 1) rfl ?_
  refine wb_iconst (v := iI (0)) hX dX11_lowest_1 rfl (pq := 2) rfl ?_
  refine wb_putI hX fp_1518 sh_161 rfl dX11_lowest_2 rfl rfl (pq := 5) rfl ?_
  refine wb_mem (fun s_1 es_1 => ?_)
  have h := nmM_s h s_1 es_1
  refine wb_aload_n 0 hX dX11_lowest_5 rfl (pq := 6) rfl ?_
  obtain ⟨q_3, hc_2, h⟩ := bind_s h
  refine wb_callVi (r0 := q_3.1) (s1 := q_3.2) [] hX sh_161 ml_1376 (tM_paintsAll hc_2) (by decide) rfl rfl (Nat.le_of_ble_eq_true rfl) dX11_lowest_6 (pq := 9) rfl ?_
  refine wb_istore_n (loc' := [(1, .int q_3.1), (0, .ref (G.1 161))]) hX hN dX11_lowest_9 (by decide) rfl (pq := 10) rfl ?_
  refine wb_aload_n 1 hX dX11_lowest_10 rfl (pq := 11) rfl ?_
  refine wb_iconst (v := iI (0)) hX dX11_lowest_11 rfl (pq := 12) rfl ?_
  refine wb_putI hX fp_1519 sh_161 rfl dX11_lowest_12 rfl rfl (pq := 15) rfl ?_
  refine wb_mem (fun s_4 es_4 => ?_)
  have h := nmM_s h s_4 es_4
  refine wb_iconst (v := iI (0)) hX dX11_lowest_15 rfl (pq := 16) rfl ?_
  refine wb_istore_n (loc' := [(2, .int (iI (0))), (1, .int q_3.1), (0, .ref (G.1 161))]) hX hN dX11_lowest_16 (by decide) rfl (pq := 17) rfl ?_
  refine wb_sub [2, 1, 0] (loc' := [(0, .ref (G.1 161)), (1, .int q_3.1), (2, .int (iI (0)))]) rfl ?_
  exact tM_lowest_L17 hX hQ hN 100000 _ _ h
set_option maxHeartbeats 4000000 in
set_option maxRecDepth 100000 in
theorem tM_place_J88 {G : wG} {X : wX} {k25 : Int32 → Int32 → Int32 → Int32 → Option (Int32 × wM)} {k38 : Int32 → Int32 → Option (Int32 × wM)} {x1 : Int32} {x2 : Int32} {x3 : Int32} {x4 : Int32} {x5 : Int32} {x7 : Int32} {v0 : Int32} {s : wM} {r0 : Int32} {s1 : wM} (hX : wOK G X cX11_place RX11 (some .int) 2) (hQ : wRt G X (wQi G r0 s1)) (hN : wNl X = 8) (hk25 : ∀ (x2 : Int32) (x3 : Int32) (x4 : Int32) (x5 : Int32), k25 x2 x3 x4 x5 = some (r0, s1) → WB G X 25 [(0, .ref (G.1 161)), (1, .int x1), (2, .int x2), (3, .int x3), (4, .int x4), (5, .int x5)] [] s) (hk38 : ∀ (x6 : Int32) (x7 : Int32), k38 x6 x7 = some (r0, s1) → WB G X 38 [(0, .ref (G.1 161)), (1, .int x1), (2, .int x2), (3, .int x3), (4, .int x4), (5, .int x5), (6, .int x6), (7, .int x7)] [] s) (h : fM_place_J88 k25 k38 x1 x2 x3 x4 x5 x7 v0 s = some (r0, s1)) : WB G X 88 [(0, .ref (G.1 161)), (1, .int x1), (2, .int x2), (3, .int x3), (4, .int x4), (5, .int x5), (7, .int x7)] [.int v0] s := by
  unfold fM_place_J88 at h
  refine wb_istore (loc' := [(6, .int v0), (0, .ref (G.1 161)), (1, .int x1), (2, .int x2), (3, .int x3), (4, .int x4), (5, .int x5), (7, .int x7)]) hX hN dX11_place_88 (by decide) rfl (pq := 90) rfl ?_
  refine wb_iinc (v := (x7 + iI (1))) (loc' := [(7, .int (x7 + iI (1))), (6, .int v0), (0, .ref (G.1 161)), (1, .int x1), (2, .int x2), (3, .int x3), (4, .int x4), (5, .int x5)]) 7 hX hN dX11_place_90 rfl rfl (by decide) rfl (pq := 93) rfl ?_
  refine wb_goto (tgt := 38) hX dX11_place_93 (by decide) ?_
  refine wb_sub [2, 3, 4, 5, 6, 7, 1, 0] (loc' := [(0, .ref (G.1 161)), (1, .int x1), (2, .int x2), (3, .int x3), (4, .int x4), (5, .int x5), (6, .int v0), (7, .int (x7 + iI (1)))]) rfl ?_
  exact hk38 _ _ h
set_option maxHeartbeats 4000000 in
set_option maxRecDepth 100000 in
theorem tM_place_J83 {G : wG} {X : wX} {k25 : Int32 → Int32 → Int32 → Int32 → Option (Int32 × wM)} {k38 : Int32 → Int32 → Option (Int32 × wM)} {x1 : Int32} {x2 : Int32} {x3 : Int32} {x4 : Int32} {x5 : Int32} {x7 : Int32} {s : wM} {r0 : Int32} {s1 : wM} (hX : wOK G X cX11_place RX11 (some .int) 2) (hQ : wRt G X (wQi G r0 s1)) (hN : wNl X = 8) (hk25 : ∀ (x2 : Int32) (x3 : Int32) (x4 : Int32) (x5 : Int32), k25 x2 x3 x4 x5 = some (r0, s1) → WB G X 25 [(0, .ref (G.1 161)), (1, .int x1), (2, .int x2), (3, .int x3), (4, .int x4), (5, .int x5)] [] s) (hk38 : ∀ (x6 : Int32) (x7 : Int32), k38 x6 x7 = some (r0, s1) → WB G X 38 [(0, .ref (G.1 161)), (1, .int x1), (2, .int x2), (3, .int x3), (4, .int x4), (5, .int x5), (6, .int x6), (7, .int x7)] [] s) (h : fM_place_J83 k25 k38 x1 x2 x3 x4 x5 x7 s = some (r0, s1)) : WB G X 83 [(0, .ref (G.1 161)), (1, .int x1), (2, .int x2), (3, .int x3), (4, .int x4), (5, .int x5), (7, .int x7)] [] s := by
  unfold fM_place_J83 at h
  refine wb_iconst (v := iI (1)) hX dX11_place_83 rfl (pq := 84) rfl ?_
  refine wb_goto (tgt := 88) hX dX11_place_84 (by decide) ?_
  exact tM_place_J88 hX hQ hN hk25 hk38 h
set_option maxHeartbeats 4000000 in
set_option maxRecDepth 100000 in
theorem tM_place_J87 {G : wG} {X : wX} {k25 : Int32 → Int32 → Int32 → Int32 → Option (Int32 × wM)} {k38 : Int32 → Int32 → Option (Int32 × wM)} {x1 : Int32} {x2 : Int32} {x3 : Int32} {x4 : Int32} {x5 : Int32} {x7 : Int32} {s : wM} {r0 : Int32} {s1 : wM} (hX : wOK G X cX11_place RX11 (some .int) 2) (hQ : wRt G X (wQi G r0 s1)) (hN : wNl X = 8) (hk25 : ∀ (x2 : Int32) (x3 : Int32) (x4 : Int32) (x5 : Int32), k25 x2 x3 x4 x5 = some (r0, s1) → WB G X 25 [(0, .ref (G.1 161)), (1, .int x1), (2, .int x2), (3, .int x3), (4, .int x4), (5, .int x5)] [] s) (hk38 : ∀ (x6 : Int32) (x7 : Int32), k38 x6 x7 = some (r0, s1) → WB G X 38 [(0, .ref (G.1 161)), (1, .int x1), (2, .int x2), (3, .int x3), (4, .int x4), (5, .int x5), (6, .int x6), (7, .int x7)] [] s) (h : fM_place_J87 k25 k38 x1 x2 x3 x4 x5 x7 s = some (r0, s1)) : WB G X 87 [(0, .ref (G.1 161)), (1, .int x1), (2, .int x2), (3, .int x3), (4, .int x4), (5, .int x5), (7, .int x7)] [] s := by
  unfold fM_place_J87 at h
  refine wb_iconst (v := iI (0)) hX dX11_place_87 rfl (pq := 88) rfl ?_
  exact tM_place_J88 hX hQ hN hk25 hk38 h
set_option maxHeartbeats 4000000 in
set_option maxRecDepth 100000 in
theorem tM_place_J119 {G : wG} {X : wX} {k25 : Int32 → Int32 → Int32 → Int32 → Option (Int32 × wM)} {x1 : Int32} {x2 : Int32} {x3 : Int32} {x4 : Int32} {x5 : Int32} {s : wM} {r0 : Int32} {s1 : wM} (hX : wOK G X cX11_place RX11 (some .int) 2) (hQ : wRt G X (wQi G r0 s1)) (hN : wNl X = 8) (hk25 : ∀ (x2 : Int32) (x3 : Int32) (x4 : Int32) (x5 : Int32), k25 x2 x3 x4 x5 = some (r0, s1) → WB G X 25 [(0, .ref (G.1 161)), (1, .int x1), (2, .int x2), (3, .int x3), (4, .int x4), (5, .int x5)] [] s) (h : fM_place_J119 k25 x1 x2 x3 x4 x5 s = some (r0, s1)) : WB G X 119 [(0, .ref (G.1 161)), (1, .int x1), (2, .int x2), (3, .int x3), (4, .int x4), (5, .int x5)] [] s := by
  unfold fM_place_J119 at h
  refine wb_iinc (v := (x5 + iI (1))) (loc' := [(5, .int (x5 + iI (1))), (0, .ref (G.1 161)), (1, .int x1), (2, .int x2), (3, .int x3), (4, .int x4)]) 5 hX hN dX11_place_119 rfl rfl (by decide) rfl (pq := 122) rfl ?_
  refine wb_goto (tgt := 25) hX dX11_place_122 (by decide) ?_
  refine wb_sub [1, 2, 3, 4, 5, 0] (loc' := [(0, .ref (G.1 161)), (1, .int x1), (2, .int x2), (3, .int x3), (4, .int x4), (5, .int (x5 + iI (1)))]) rfl ?_
  exact hk25 _ _ _ _ h
set_option maxHeartbeats 4000000 in
set_option maxRecDepth 100000 in
theorem tM_place_J111 {G : wG} {X : wX} {k25 : Int32 → Int32 → Int32 → Int32 → Option (Int32 × wM)} {x1 : Int32} {x2 : Int32} {x5 : Int32} {v0 : Int32} {s : wM} {r0 : Int32} {s1 : wM} (hX : wOK G X cX11_place RX11 (some .int) 2) (hQ : wRt G X (wQi G r0 s1)) (hN : wNl X = 8) (hk25 : ∀ (x2 : Int32) (x3 : Int32) (x4 : Int32) (x5 : Int32), k25 x2 x3 x4 x5 = some (r0, s1) → WB G X 25 [(0, .ref (G.1 161)), (1, .int x1), (2, .int x2), (3, .int x3), (4, .int x4), (5, .int x5)] [] s) (h : fM_place_J111 k25 x1 x2 x5 v0 s = some (r0, s1)) : WB G X 111 [(0, .ref (G.1 161)), (1, .int x1), (2, .int x2), (5, .int x5)] [.int v0] s := by
  unfold fM_place_J111 at h
  refine wb_istore_n (loc' := [(3, .int v0), (0, .ref (G.1 161)), (1, .int x1), (2, .int x2), (5, .int x5)]) hX hN dX11_place_111 (by decide) rfl (pq := 112) rfl ?_
  refine wb_iload 4 hX dX11_place_112 rfl (pq := 114) rfl ?_
  refine wb_istore (loc' := [(4, .int x5), (3, .int v0), (0, .ref (G.1 161)), (1, .int x1), (2, .int x2), (5, .int x5)]) hX hN dX11_place_114 (by decide) rfl (pq := 116) rfl ?_
  refine wb_iinc (v := (x2 + iI (1))) (loc' := [(2, .int (x2 + iI (1))), (4, .int x5), (3, .int v0), (0, .ref (G.1 161)), (1, .int x1), (5, .int x5)]) 4 hX hN dX11_place_116 rfl rfl (by decide) rfl (pq := 119) rfl ?_
  refine wb_sub [3, 4, 0, 2, 1, 5] (loc' := [(0, .ref (G.1 161)), (1, .int x1), (2, .int (x2 + iI (1))), (3, .int v0), (4, .int x5), (5, .int x5)]) rfl ?_
  exact tM_place_J119 hX hQ hN hk25 h
set_option maxHeartbeats 4000000 in
set_option maxRecDepth 100000 in
theorem tM_place_L38 {G : wG} {X : wX} {k25 : Int32 → Int32 → Int32 → Int32 → Option (Int32 × wM)} {x1 : Int32} {x2 : Int32} {x3 : Int32} {x4 : Int32} {x5 : Int32} {s : wM} {r0 : Int32} {s1 : wM} (hX : wOK G X cX11_place RX11 (some .int) 2) (hQ : wRt G X (wQi G r0 s1)) (hN : wNl X = 8) (hk25 : ∀ (x2 : Int32) (x3 : Int32) (x4 : Int32) (x5 : Int32), k25 x2 x3 x4 x5 = some (r0, s1) → WB G X 25 [(0, .ref (G.1 161)), (1, .int x1), (2, .int x2), (3, .int x3), (4, .int x4), (5, .int x5)] [] s) : ∀ (n : Nat) (x6 : Int32) (x7 : Int32), wh2 (fM_place_L38 k25 x1 x2 x3 x4 x5 s) n x6 x7 = some (r0, s1) → WB G X 38 [(0, .ref (G.1 161)), (1, .int x1), (2, .int x2), (3, .int x3), (4, .int x4), (5, .int x5), (6, .int x6), (7, .int x7)] [] s := by
  intro n
  induction n with
  | zero => intro x6 x7 h; cases h
  | succ n hk38 =>
    intro x6 x7 h
    have h : fM_place_L38 k25 x1 x2 x3 x4 x5 s x6 x7 (wh2 (fM_place_L38 k25 x1 x2 x3 x4 x5 s) n) = some (r0, s1) := h
    unfold fM_place_L38 at h
    refine wb_iload 7 hX dX11_place_38 rfl (pq := 40) rfl ?_
    refine wb_aload_n 0 hX dX11_place_40 rfl (pq := 41) rfl ?_
    refine wb_getI hX fl_1521 sh_161 rfl dX11_place_41 (pq := 44) rfl ?_
    refine wb_icmp_ge (tgt := 96) hX dX11_place_44 (by decide) (fun c_1 => ?_) (pq := 47) rfl (fun c_1 => ?_)
    · have h := ite_t c_1 h
      refine wb_iload 6 hX dX11_place_96 rfl (pq := 98) rfl ?_
      refine wb_if_eq (tgt := 119) hX dX11_place_98 (by decide) (fun c_2 => ?_) (pq := 101) rfl (fun c_2 => ?_)
      · have h := ite_t c_2 h
        refine wb_sub [0, 1, 2, 3, 4, 5] (loc' := [(0, .ref (G.1 161)), (1, .int x1), (2, .int x2), (3, .int x3), (4, .int x4), (5, .int x5)]) rfl ?_
        exact tM_place_J119 hX hQ hN hk25 h
      · have h := ite_f c_2 h
        refine wb_iload_n 2 hX dX11_place_101 rfl (pq := 102) rfl ?_
        refine wb_if_ne (tgt := 110) hX dX11_place_102 (by decide) (pq := 105) rfl (fun c_3 => ?_) (fun c_3 => ?_)
        · have h := ite_t c_3 h
          refine wb_iload 5 hX dX11_place_105 rfl (pq := 107) rfl ?_
          refine wb_goto (tgt := 111) hX dX11_place_107 (by decide) ?_
          refine wb_sub [0, 1, 2, 5] (loc' := [(0, .ref (G.1 161)), (1, .int x1), (2, .int x2), (5, .int x5)]) rfl ?_
          exact tM_place_J111 hX hQ hN hk25 h
        · have h := ite_f c_3 h
          refine wb_iload_n 3 hX dX11_place_110 rfl (pq := 111) rfl ?_
          refine wb_sub [0, 1, 2, 5] (loc' := [(0, .ref (G.1 161)), (1, .int x1), (2, .int x2), (5, .int x5)]) rfl ?_
          exact tM_place_J111 hX hQ hN hk25 h
    · have h := ite_f c_1 h
      refine wb_iload 6 hX dX11_place_47 rfl (pq := 49) rfl ?_
      refine wb_if_eq (tgt := 87) hX dX11_place_49 (by decide) (fun c_4 => ?_) (pq := 52) rfl (fun c_4 => ?_)
      · have h := ite_t c_4 h
        refine wb_sub [0, 1, 2, 3, 4, 5, 7] (loc' := [(0, .ref (G.1 161)), (1, .int x1), (2, .int x2), (3, .int x3), (4, .int x4), (5, .int x5), (7, .int x7)]) rfl ?_
        exact tM_place_J87 hX hQ hN hk25 hk38 h
      · have h := ite_f c_4 h
        refine wb_iload_n 1 hX dX11_place_52 rfl (pq := 53) rfl ?_
        refine wb_iload 7 hX dX11_place_53 rfl (pq := 55) rfl ?_
        obtain ⟨q_6, hc_5, h⟩ := bind_s h
        refine wb_callSi (r0 := q_6) (s1 := s) [.int x1, .int x7] hX ml_1187 (tM_has hc_5) (by decide) rfl rfl (Nat.le_of_ble_eq_true rfl) dX11_place_55 (pq := 58) rfl ?_
        refine wb_if_eq (tgt := 83) hX dX11_place_58 (by decide) (fun c_7 => ?_) (pq := 61) rfl (fun c_7 => ?_)
        · have h := ite_t c_7 h
          refine wb_sub [0, 1, 2, 3, 4, 5, 7] (loc' := [(0, .ref (G.1 161)), (1, .int x1), (2, .int x2), (3, .int x3), (4, .int x4), (5, .int x5), (7, .int x7)]) rfl ?_
          exact tM_place_J83 hX hQ hN hk25 hk38 h
        · have h := ite_f c_7 h
          refine wb_aload_n 0 hX dX11_place_61 rfl (pq := 62) rfl ?_
          refine wb_getR hX fl_1522 sh_161 rfl dX11_place_62 (pq := 65) rfl ?_
          refine wb_iload 7 hX dX11_place_65 rfl (pq := 67) rfl ?_
          obtain ⟨hi_8, h⟩ := chk_some h
          refine wb_iald hX sh_163 hi_8 dX11_place_67 (pq := 68) rfl ?_
          refine wb_iload 5 hX dX11_place_68 rfl (pq := 70) rfl ?_
          refine wb_isub hX dX11_place_70 (pq := 71) rfl ?_
          refine wb_mabs hX k_1190 k_587 k_14 k_588 (Nat.le_of_ble_eq_true rfl) dX11_place_71 (pq := 74) rfl ?_
          refine wb_aload_n 0 hX dX11_place_74 rfl (pq := 75) rfl ?_
          refine wb_getR hX fl_1527 sh_161 rfl dX11_place_75 (pq := 78) rfl ?_
          refine wb_iconst (v := iI (0)) hX dX11_place_78 rfl (pq := 79) rfl ?_
          refine wb_iald hX sh_168 (by unfold vp_in; decide) dX11_place_79 (pq := 80) rfl ?_
          refine wb_icmp_lt (tgt := 87) hX dX11_place_80 (by decide) (fun c_9 => ?_) (pq := 83) rfl (fun c_9 => ?_)
          · have h := ite_t c_9 h
            refine wb_sub [0, 1, 2, 3, 4, 5, 7] (loc' := [(0, .ref (G.1 161)), (1, .int x1), (2, .int x2), (3, .int x3), (4, .int x4), (5, .int x5), (7, .int x7)]) rfl ?_
            exact tM_place_J87 hX hQ hN hk25 hk38 h
          · have h := ite_f c_9 h
            refine wb_sub [0, 1, 2, 3, 4, 5, 7] (loc' := [(0, .ref (G.1 161)), (1, .int x1), (2, .int x2), (3, .int x3), (4, .int x4), (5, .int x5), (7, .int x7)]) rfl ?_
            exact tM_place_J83 hX hQ hN hk25 hk38 h
set_option maxHeartbeats 4000000 in
set_option maxRecDepth 100000 in
theorem tM_place_J145 {G : wG} {X : wX} {x2 : Int32} {s : wM} {r0 : Int32} {s1 : wM} (hX : wOK G X cX11_place RX11 (some .int) 2) (hQ : wRt G X (wQi G r0 s1)) (hN : wNl X = 8) (h : fM_place_J145 x2 s = some (r0, s1)) : WB G X 145 [(2, .int x2)] [] s := by
  unfold fM_place_J145 at h
  refine wb_iload_n 0 hX dX11_place_145 rfl (pq := 146) rfl ?_
  exact wb_iret hX hQ h dX11_place_146
set_option maxHeartbeats 4000000 in
set_option maxRecDepth 100000 in
theorem tM_place_L25 {G : wG} {X : wX} {x1 : Int32} {s : wM} {r0 : Int32} {s1 : wM} (hX : wOK G X cX11_place RX11 (some .int) 2) (hQ : wRt G X (wQi G r0 s1)) (hN : wNl X = 8) : ∀ (n : Nat) (x2 : Int32) (x3 : Int32) (x4 : Int32) (x5 : Int32), wh4 (fM_place_L25 x1 s) n x2 x3 x4 x5 = some (r0, s1) → WB G X 25 [(0, .ref (G.1 161)), (1, .int x1), (2, .int x2), (3, .int x3), (4, .int x4), (5, .int x5)] [] s := by
  intro n
  induction n with
  | zero => intro x2 x3 x4 x5 h; cases h
  | succ n hk25 =>
    intro x2 x3 x4 x5 h
    have h : fM_place_L25 x1 s x2 x3 x4 x5 (wh4 (fM_place_L25 x1 s) n) = some (r0, s1) := h
    unfold fM_place_L25 at h
    refine wb_iload 5 hX dX11_place_25 rfl (pq := 27) rfl ?_
    refine wb_bipush (v := iI (99)) hX dX11_place_27 (by decide) (pq := 29) rfl ?_
    refine wb_icmp_gt (tgt := 125) hX dX11_place_29 (by decide) (fun c_1 => ?_) (pq := 32) rfl (fun c_1 => ?_)
    · have h := ite_t c_1 h
      refine wb_aload_n 0 hX dX11_place_125 rfl (pq := 126) rfl ?_
      refine wb_iconst (v := iI (0)) hX dX11_place_126 rfl (pq := 127) rfl ?_
      refine wb_putI hX fp_1519 sh_161 rfl dX11_place_127 rfl rfl (pq := 130) rfl ?_
      refine wb_mem (fun s_2 es_2 => ?_)
      have h := nmM_s h s_2 es_2
      refine wb_iload_n 2 hX dX11_place_130 rfl (pq := 131) rfl ?_
      refine wb_if_le (tgt := 145) hX dX11_place_131 (by decide) (fun c_3 => ?_) (pq := 134) rfl (fun c_3 => ?_)
      · have h := ite_t c_3 h
        refine wb_sub [2] (loc' := [(2, .int x2)]) rfl ?_
        exact tM_place_J145 hX hQ hN h
      · have h := ite_f c_3 h
        refine wb_aload_n 0 hX dX11_place_134 rfl (pq := 135) rfl ?_
        refine wb_iload_n 3 hX dX11_place_135 rfl (pq := 136) rfl ?_
        obtain ⟨q_5, hc_4, h⟩ := bind_s h
        refine wb_callVv (s1 := q_5) [.int x3] hX sh_161 ml_1263 (tM_enters hc_4) (by decide) rfl rfl (Nat.le_of_ble_eq_true rfl) dX11_place_136 (pq := 139) rfl ?_
        refine wb_aload_n 0 hX dX11_place_139 rfl (pq := 140) rfl ?_
        refine wb_iload 4 hX dX11_place_140 rfl (pq := 142) rfl ?_
        obtain ⟨q_7, hc_6, h⟩ := bind_s h
        refine wb_callVv (s1 := q_7) [.int x4] hX sh_161 ml_1263 (tM_enters hc_6) (by decide) rfl rfl (Nat.le_of_ble_eq_true rfl) dX11_place_142 (pq := 145) rfl ?_
        refine wb_sub [2] (loc' := [(2, .int x2)]) rfl ?_
        exact tM_place_J145 hX hQ hN h
    · have h := ite_f c_1 h
      refine wb_iconst (v := iI (1)) hX dX11_place_32 rfl (pq := 33) rfl ?_
      refine wb_istore (loc' := [(6, .int (iI (1))), (0, .ref (G.1 161)), (1, .int x1), (2, .int x2), (3, .int x3), (4, .int x4), (5, .int x5)]) hX hN dX11_place_33 (by decide) rfl (pq := 35) rfl ?_
      refine wb_iconst (v := iI (0)) hX dX11_place_35 rfl (pq := 36) rfl ?_
      refine wb_istore (loc' := [(7, .int (iI (0))), (6, .int (iI (1))), (0, .ref (G.1 161)), (1, .int x1), (2, .int x2), (3, .int x3), (4, .int x4), (5, .int x5)]) hX hN dX11_place_36 (by decide) rfl (pq := 38) rfl ?_
      refine wb_sub [2, 3, 4, 5, 6, 7, 1, 0] (loc' := [(0, .ref (G.1 161)), (1, .int x1), (2, .int x2), (3, .int x3), (4, .int x4), (5, .int x5), (6, .int (iI (1))), (7, .int (iI (0)))]) rfl ?_
      exact tM_place_L38 hX hQ hN hk25 100000 _ _ h
set_option maxHeartbeats 4000000 in
set_option maxRecDepth 100000 in
theorem tM_place {l : Launch} {G : wG} {s : wM} {x1 : Int32} {r0 : Int32} {s1 : wM} (h : fM_place s x1 = some (r0, s1)) : wMet l G yX11_place cX11_place 8 (some .int) 2 [.ref (G.1 161), .int x1] s (wQi G r0 s1) := by
  refine wMet_of (own := RX11) (by decide +kernel) rfl (Nat.le_of_ble_eq_true rfl) ?_
  intro X hX hQ hN hl
  show WB G X 0 [(0, .ref (G.1 161)), (1, .int x1)] [] s
  unfold fM_place at h
  refine wb_aload_n 0 hX dX11_place_0 rfl (pq := 1) rfl ?_
  refine wb_iconst (v := iI (0)) hX dX11_place_1 rfl (pq := 2) rfl ?_
  refine wb_putI hX fp_1518 sh_161 rfl dX11_place_2 rfl rfl (pq := 5) rfl ?_
  refine wb_mem (fun s_1 es_1 => ?_)
  have h := nmM_s h s_1 es_1
  refine wb_aload_n 0 hX dX11_place_5 rfl (pq := 6) rfl ?_
  refine wb_iload_n 1 hX dX11_place_6 rfl (pq := 7) rfl ?_
  obtain ⟨q_3, hc_2, h⟩ := bind_s h
  refine wb_callVi (r0 := q_3) (s1 := s_1) [.int x1] hX sh_161 ml_1272 (tM_areBits hc_2) (by decide) rfl rfl (Nat.le_of_ble_eq_true rfl) dX11_place_7 (pq := 10) rfl ?_
  refine wb_if_ne (tgt := 15) hX dX11_place_10 (by decide) (pq := 13) rfl (fun c_4 => ?_) (fun c_4 => ?_)
  · have h := ite_t c_4 h
    refine wb_iconst (v := iI (-1)) hX dX11_place_13 rfl (pq := 14) rfl ?_
    exact wb_iret hX hQ h dX11_place_14
  · have h := ite_f c_4 h
    refine wb_iconst (v := iI (0)) hX dX11_place_15 rfl (pq := 16) rfl ?_
    refine wb_istore_n (loc' := [(2, .int (iI (0))), (0, .ref (G.1 161)), (1, .int x1)]) hX hN dX11_place_16 (by decide) rfl (pq := 17) rfl ?_
    refine wb_iconst (v := iI (0)) hX dX11_place_17 rfl (pq := 18) rfl ?_
    refine wb_istore_n (loc' := [(3, .int (iI (0))), (2, .int (iI (0))), (0, .ref (G.1 161)), (1, .int x1)]) hX hN dX11_place_18 (by decide) rfl (pq := 19) rfl ?_
    refine wb_iconst (v := iI (0)) hX dX11_place_19 rfl (pq := 20) rfl ?_
    refine wb_istore (loc' := [(4, .int (iI (0))), (3, .int (iI (0))), (2, .int (iI (0))), (0, .ref (G.1 161)), (1, .int x1)]) hX hN dX11_place_20 (by decide) rfl (pq := 22) rfl ?_
    refine wb_iconst (v := iI (0)) hX dX11_place_22 rfl (pq := 23) rfl ?_
    refine wb_istore (loc' := [(5, .int (iI (0))), (4, .int (iI (0))), (3, .int (iI (0))), (2, .int (iI (0))), (0, .ref (G.1 161)), (1, .int x1)]) hX hN dX11_place_23 (by decide) rfl (pq := 25) rfl ?_
    refine wb_sub [4, 5, 3, 2, 1, 0] (loc' := [(0, .ref (G.1 161)), (1, .int x1), (2, .int (iI (0))), (3, .int (iI (0))), (4, .int (iI (0))), (5, .int (iI (0)))]) rfl ?_
    exact tM_place_L25 hX hQ hN 100000 _ _ _ _ h
set_option maxHeartbeats 4000000 in
set_option maxRecDepth 100000 in
theorem tM_startsThen_L2 {G : wG} {X : wX} {s1 : wM} (hX : wOK G X cX11_startsThen RX11 none 0) (hQ : wRt G X (wQv G s1)) (hN : wNl X = 2) : ∀ (n : Nat) (x1 : Int32) (s : wM), wh2 (fM_startsThen_L2) n x1 s = some s1 → WB G X 2 [(0, .ref (G.1 161)), (1, .int x1)] [] s := by
  intro n
  induction n with
  | zero => intro x1 s h; cases h
  | succ n hk2 =>
    intro x1 s h
    have h : fM_startsThen_L2 x1 s (wh2 (fM_startsThen_L2) n) = some s1 := h
    unfold fM_startsThen_L2 at h
    refine wb_iload_n 1 hX dX11_startsThen_2 rfl (pq := 3) rfl ?_
    refine wb_bipush (v := iI (9)) hX dX11_startsThen_3 (by decide) (pq := 5) rfl ?_
    refine wb_icmp_ge (tgt := 26) hX dX11_startsThen_5 (by decide) (fun c_1 => ?_) (pq := 8) rfl (fun c_1 => ?_)
    · have h := ite_t c_1 h
      exact wb_vret hX hQ h dX11_startsThen_26
    · have h := ite_f c_1 h
      refine wb_aload_n 0 hX dX11_startsThen_8 rfl (pq := 9) rfl ?_
      refine wb_getR hX fl_1557 sh_161 rfl dX11_startsThen_9 (pq := 12) rfl ?_
      refine wb_iload_n 1 hX dX11_startsThen_12 rfl (pq := 13) rfl ?_
      refine wb_aload_n 0 hX dX11_startsThen_13 rfl (pq := 14) rfl ?_
      refine wb_getR hX fl_1522 sh_161 rfl dX11_startsThen_14 (pq := 17) rfl ?_
      refine wb_iload_n 1 hX dX11_startsThen_17 rfl (pq := 18) rfl ?_
      obtain ⟨hi_2, h⟩ := chk_some h
      refine wb_iald hX sh_163 hi_2 dX11_startsThen_18 (pq := 19) rfl ?_
      refine wb_iast hX sh_187 hi_2 dX11_startsThen_19 (pq := 20) rfl ?_
      refine wb_mem (fun s_3 es_3 => ?_)
      have h := nmM_s h s_3 es_3
      refine wb_iinc (v := (x1 + iI (1))) (loc' := [(1, .int (x1 + iI (1))), (0, .ref (G.1 161))]) 1 hX hN dX11_startsThen_20 rfl rfl (by decide) rfl (pq := 23) rfl ?_
      refine wb_goto (tgt := 2) hX dX11_startsThen_23 (by decide) ?_
      refine wb_sub [1, 0] (loc' := [(0, .ref (G.1 161)), (1, .int (x1 + iI (1)))]) rfl ?_
      exact hk2 _ _ h
set_option maxHeartbeats 4000000 in
set_option maxRecDepth 100000 in
theorem tM_startsThen {l : Launch} {G : wG} {s : wM} {s1 : wM} (h : fM_startsThen s = some s1) : wMet l G yX11_startsThen cX11_startsThen 2 none 0 [.ref (G.1 161)] s (wQv G s1) := by
  refine wMet_of (own := RX11) (by decide +kernel) rfl (Nat.le_of_ble_eq_true rfl) ?_
  intro X hX hQ hN hl
  show WB G X 0 [(0, .ref (G.1 161))] [] s
  unfold fM_startsThen at h
  refine wb_iconst (v := iI (0)) hX dX11_startsThen_0 rfl (pq := 1) rfl ?_
  refine wb_istore_n (loc' := [(1, .int (iI (0))), (0, .ref (G.1 161))]) hX hN dX11_startsThen_1 (by decide) rfl (pq := 2) rfl ?_
  refine wb_sub [1, 0] (loc' := [(0, .ref (G.1 161)), (1, .int (iI (0)))]) rfl ?_
  exact tM_startsThen_L2 hX hQ hN 100000 _ _ h
set_option maxHeartbeats 4000000 in
set_option maxRecDepth 100000 in
theorem tM_lastsNow_L6 {G : wG} {X : wX} {r0 : Int32} {s1 : wM} (hX : wOK G X cX11_lastsNow RX11 (some .int) 4) (hQ : wRt G X (wQi G r0 s1)) (hN : wNl X = 2) : ∀ (n : Nat) (x1 : Int32) (s : wM), wh2 (fM_lastsNow_L6) n x1 s = some (r0, s1) → WB G X 6 [(0, .ref (G.1 161)), (1, .int x1)] [] s := by
  intro n
  induction n with
  | zero => intro x1 s h; cases h
  | succ n hk6 =>
    intro x1 s h
    have h : fM_lastsNow_L6 x1 s (wh2 (fM_lastsNow_L6) n) = some (r0, s1) := h
    unfold fM_lastsNow_L6 at h
    refine wb_iload_n 1 hX dX11_lastsNow_6 rfl (pq := 7) rfl ?_
    refine wb_bipush (v := iI (100)) hX dX11_lastsNow_7 (by decide) (pq := 9) rfl ?_
    refine wb_icmp_gt (tgt := 41) hX dX11_lastsNow_9 (by decide) (fun c_1 => ?_) (pq := 12) rfl (fun c_1 => ?_)
    · have h := ite_t c_1 h
      refine wb_bipush (v := iI (-2)) hX dX11_lastsNow_41 (by decide) (pq := 43) rfl ?_
      exact wb_iret hX hQ h dX11_lastsNow_43
    · have h := ite_f c_1 h
      refine wb_aload_n 0 hX dX11_lastsNow_12 rfl (pq := 13) rfl ?_
      refine wb_aload_n 0 hX dX11_lastsNow_13 rfl (pq := 14) rfl ?_
      refine wb_getR hX fl_1557 sh_161 rfl dX11_lastsNow_14 (pq := 17) rfl ?_
      refine wb_iconst (v := iI (0)) hX dX11_lastsNow_17 rfl (pq := 18) rfl ?_
      refine wb_iconst (v := iI (0)) hX dX11_lastsNow_18 rfl (pq := 19) rfl ?_
      obtain ⟨q_3, hc_2, h⟩ := bind_s h
      refine wb_callVv (s1 := q_3) [.ref (G.1 187), .int (iI (0)), .int (iI (0))] hX sh_161 ml_1280 (tM_weekGoes sh_187 hc_2) (by decide) rfl rfl (Nat.le_of_ble_eq_true rfl) dX11_lastsNow_19 (pq := 22) rfl ?_
      refine wb_aload_n 0 hX dX11_lastsNow_22 rfl (pq := 23) rfl ?_
      refine wb_aload_n 0 hX dX11_lastsNow_23 rfl (pq := 24) rfl ?_
      refine wb_getR hX fl_1557 sh_161 rfl dX11_lastsNow_24 (pq := 27) rfl ?_
      obtain ⟨q_5, hc_4, h⟩ := bind_s h
      refine wb_callVi (r0 := q_5) (s1 := q_3) [.ref (G.1 187)] hX sh_161 ml_1289 (tM_evenPairs sh_187 hc_4) (by decide) rfl rfl (Nat.le_of_ble_eq_true rfl) dX11_lastsNow_27 (pq := 30) rfl ?_
      refine wb_if_le (tgt := 35) hX dX11_lastsNow_30 (by decide) (fun c_6 => ?_) (pq := 33) rfl (fun c_6 => ?_)
      · have h := ite_t c_6 h
        refine wb_iinc (v := (x1 + iI (1))) (loc' := [(1, .int (x1 + iI (1))), (0, .ref (G.1 161))]) 1 hX hN dX11_lastsNow_35 rfl rfl (by decide) rfl (pq := 38) rfl ?_
        refine wb_goto (tgt := 6) hX dX11_lastsNow_38 (by decide) ?_
        refine wb_sub [1, 0] (loc' := [(0, .ref (G.1 161)), (1, .int (x1 + iI (1)))]) rfl ?_
        exact hk6 _ _ h
      · have h := ite_f c_6 h
        refine wb_iload_n 1 hX dX11_lastsNow_33 rfl (pq := 34) rfl ?_
        exact wb_iret hX hQ h dX11_lastsNow_34
set_option maxHeartbeats 4000000 in
set_option maxRecDepth 100000 in
theorem tM_lastsNow {l : Launch} {G : wG} {s : wM} {r0 : Int32} {s1 : wM} (h : fM_lastsNow s = some (r0, s1)) : wMet l G yX11_lastsNow cX11_lastsNow 2 (some .int) 4 [.ref (G.1 161)] s (wQi G r0 s1) := by
  refine wMet_of (own := RX11) (by decide +kernel) rfl (Nat.le_of_ble_eq_true rfl) ?_
  intro X hX hQ hN hl
  show WB G X 0 [(0, .ref (G.1 161))] [] s
  unfold fM_lastsNow at h
  refine wb_aload_n 0 hX dX11_lastsNow_0 rfl (pq := 1) rfl ?_
  obtain ⟨q_2, hc_1, h⟩ := bind_s h
  refine wb_callVv (s1 := q_2) [] hX sh_161 ml_1404 (tM_startsThen hc_1) (by decide) rfl rfl (Nat.le_of_ble_eq_true rfl) dX11_lastsNow_1 (pq := 4) rfl ?_
  refine wb_iconst (v := iI (1)) hX dX11_lastsNow_4 rfl (pq := 5) rfl ?_
  refine wb_istore_n (loc' := [(1, .int (iI (1))), (0, .ref (G.1 161))]) hX hN dX11_lastsNow_5 (by decide) rfl (pq := 6) rfl ?_
  refine wb_sub [1, 0] (loc' := [(0, .ref (G.1 161)), (1, .int (iI (1)))]) rfl ?_
  exact tM_lastsNow_L6 hX hQ hN 100000 _ _ h
set_option maxHeartbeats 4000000 in
set_option maxRecDepth 100000 in
theorem tM_lasts {l : Launch} {G : wG} {s : wM} {r0 : Int32} {s1 : wM} (h : fM_lasts s = some (r0, s1)) : wMet l G yX11_lasts cX11_lasts 1 (some .int) 5 [.ref (G.1 161)] s (wQi G r0 s1) := by
  refine wMet_of (own := RX11) (by decide +kernel) rfl (Nat.le_of_ble_eq_true rfl) ?_
  intro X hX hQ hN hl
  show WB G X 0 [(0, .ref (G.1 161))] [] s
  unfold fM_lasts at h
  refine wb_aload_n 0 hX dX11_lasts_0 rfl (pq := 1) rfl ?_
  refine wb_iconst (v := iI (0)) hX dX11_lasts_1 rfl (pq := 2) rfl ?_
  refine wb_putI hX fp_1518 sh_161 rfl dX11_lasts_2 rfl rfl (pq := 5) rfl ?_
  refine wb_mem (fun s_1 es_1 => ?_)
  have h := nmM_s h s_1 es_1
  refine wb_aload_n 0 hX dX11_lasts_5 rfl (pq := 6) rfl ?_
  obtain ⟨q_3, hc_2, h⟩ := bind_s h
  refine wb_callVi (r0 := q_3.1) (s1 := q_3.2) [] hX sh_161 ml_1400 (tM_lastsNow hc_2) (by decide) rfl rfl (Nat.le_of_ble_eq_true rfl) dX11_lasts_6 (pq := 9) rfl ?_
  exact wb_iret hX hQ h dX11_lasts_9
set_option maxHeartbeats 4000000 in
set_option maxRecDepth 100000 in
theorem tM_isHundred {l : Launch} {G : wG} {s : wM} {x0 : Int32} {r0 : Int32} (h : fM_isHundred s x0 = some r0) : wMet l G yX11_isHundred cX11_isHundred 1 (some .boolean) 1 [.int x0] s (wQi G r0 s) := by
  refine wMet_of (own := RX11) (by decide +kernel) rfl (Nat.le_of_ble_eq_true rfl) ?_
  intro X hX hQ hN hl
  show WB G X 0 [(0, .int x0)] [] s
  unfold fM_isHundred at h
  refine wb_iload_n 0 hX dX11_isHundred_0 rfl (pq := 1) rfl ?_
  refine wb_i2l hX dX11_isHundred_1 (pq := 2) rfl ?_
  refine wb_lconst (v := (0 : Int64)) hX dX11_isHundred_2 rfl (pq := 3) rfl ?_
  refine wb_ldc2 (v := (100 : Int64)) hX k_1415 dX11_isHundred_3 (pq := 6) rfl ?_
  obtain ⟨q_2, hc_1, h⟩ := bind_s h
  refine wb_callSi (r0 := q_2) (s1 := s) [.long x0.toInt64, .long (0 : Int64), .long (100 : Int64)] hX ml_1124 (tM_in hc_1) (by decide) rfl rfl (Nat.le_of_ble_eq_true rfl) dX11_isHundred_6 (pq := 9) rfl ?_
  obtain ⟨hz_3, h⟩ := chkZ_some h
  exact wb_zretP hX hQ h hz_3.1 dX11_isHundred_9
set_option maxHeartbeats 4000000 in
set_option maxRecDepth 100000 in
theorem tM_later_J20 {G : wG} {X : wX} {s : wM} {r0 : Int32} {s1 : wM} (hX : wOK G X cX11_later RX11 (some .int) 3) (hQ : wRt G X (wQi G r0 s1)) (hN : wNl X = 4) (h : fM_later_J20 s = some (r0, s1)) : WB G X 20 [] [] s := by
  unfold fM_later_J20 at h
  refine wb_iconst (v := iI (-1)) hX dX11_later_20 rfl (pq := 21) rfl ?_
  exact wb_iret hX hQ h dX11_later_21
set_option maxHeartbeats 4000000 in
set_option maxRecDepth 100000 in
theorem tM_later_L28 {G : wG} {X : wX} {x1 : Int32} {x2 : Int32} {r0 : Int32} {s1 : wM} (hX : wOK G X cX11_later RX11 (some .int) 3) (hQ : wRt G X (wQi G r0 s1)) (hN : wNl X = 4) : ∀ (n : Nat) (x3 : Int32) (s : wM), wh2 (fM_later_L28 x1 x2) n x3 s = some (r0, s1) → WB G X 28 [(0, .ref (G.1 161)), (1, .int x1), (2, .int x2), (3, .int x3)] [] s := by
  intro n
  induction n with
  | zero => intro x3 s h; cases h
  | succ n hk28 =>
    intro x3 s h
    have h : fM_later_L28 x1 x2 x3 s (wh2 (fM_later_L28 x1 x2) n) = some (r0, s1) := h
    unfold fM_later_L28 at h
    refine wb_iload_n 3 hX dX11_later_28 rfl (pq := 29) rfl ?_
    refine wb_iload_n 2 hX dX11_later_29 rfl (pq := 30) rfl ?_
    refine wb_icmp_ge (tgt := 49) hX dX11_later_30 (by decide) (fun c_1 => ?_) (pq := 33) rfl (fun c_1 => ?_)
    · have h := ite_t c_1 h
      refine wb_aload_n 0 hX dX11_later_49 rfl (pq := 50) rfl ?_
      refine wb_getR hX fl_1557 sh_161 rfl dX11_later_50 (pq := 53) rfl ?_
      refine wb_iload_n 1 hX dX11_later_53 rfl (pq := 54) rfl ?_
      obtain ⟨hi_2, h⟩ := chk_some h
      refine wb_iald hX sh_187 hi_2 dX11_later_54 (pq := 55) rfl ?_
      exact wb_iret hX hQ h dX11_later_55
    · have h := ite_f c_1 h
      refine wb_aload_n 0 hX dX11_later_33 rfl (pq := 34) rfl ?_
      refine wb_aload_n 0 hX dX11_later_34 rfl (pq := 35) rfl ?_
      refine wb_getR hX fl_1557 sh_161 rfl dX11_later_35 (pq := 38) rfl ?_
      refine wb_iconst (v := iI (0)) hX dX11_later_38 rfl (pq := 39) rfl ?_
      refine wb_iconst (v := iI (0)) hX dX11_later_39 rfl (pq := 40) rfl ?_
      obtain ⟨q_4, hc_3, h⟩ := bind_s h
      refine wb_callVv (s1 := q_4) [.ref (G.1 187), .int (iI (0)), .int (iI (0))] hX sh_161 ml_1280 (tM_weekGoes sh_187 hc_3) (by decide) rfl rfl (Nat.le_of_ble_eq_true rfl) dX11_later_40 (pq := 43) rfl ?_
      refine wb_iinc (v := (x3 + iI (1))) (loc' := [(3, .int (x3 + iI (1))), (0, .ref (G.1 161)), (1, .int x1), (2, .int x2)]) 3 hX hN dX11_later_43 rfl rfl (by decide) rfl (pq := 46) rfl ?_
      refine wb_goto (tgt := 28) hX dX11_later_46 (by decide) ?_
      refine wb_sub [1, 2, 3, 0] (loc' := [(0, .ref (G.1 161)), (1, .int x1), (2, .int x2), (3, .int (x3 + iI (1)))]) rfl ?_
      exact hk28 _ _ h
set_option maxHeartbeats 4000000 in
set_option maxRecDepth 100000 in
theorem tM_later {l : Launch} {G : wG} {s : wM} {x1 : Int32} {x2 : Int32} {r0 : Int32} {s1 : wM} (h : fM_later s x1 x2 = some (r0, s1)) : wMet l G yX11_later cX11_later 4 (some .int) 3 [.ref (G.1 161), .int x1, .int x2] s (wQi G r0 s1) := by
  refine wMet_of (own := RX11) (by decide +kernel) rfl (Nat.le_of_ble_eq_true rfl) ?_
  intro X hX hQ hN hl
  show WB G X 0 [(0, .ref (G.1 161)), (1, .int x1), (2, .int x2)] [] s
  unfold fM_later at h
  refine wb_aload_n 0 hX dX11_later_0 rfl (pq := 1) rfl ?_
  refine wb_iconst (v := iI (0)) hX dX11_later_1 rfl (pq := 2) rfl ?_
  refine wb_putI hX fp_1518 sh_161 rfl dX11_later_2 rfl rfl (pq := 5) rfl ?_
  refine wb_mem (fun s_1 es_1 => ?_)
  have h := nmM_s h s_1 es_1
  refine wb_aload_n 0 hX dX11_later_5 rfl (pq := 6) rfl ?_
  refine wb_iload_n 1 hX dX11_later_6 rfl (pq := 7) rfl ?_
  obtain ⟨q_3, hc_2, h⟩ := bind_s h
  refine wb_callVi (r0 := q_3) (s1 := s_1) [.int x1] hX sh_161 ml_1170 (tM_isFarm hc_2) (by decide) rfl rfl (Nat.le_of_ble_eq_true rfl) dX11_later_7 (pq := 10) rfl ?_
  refine wb_if_eq (tgt := 20) hX dX11_later_10 (by decide) (fun c_4 => ?_) (pq := 13) rfl (fun c_4 => ?_)
  · have h := ite_t c_4 h
    refine wb_sub [] (loc' := []) rfl ?_
    exact tM_later_J20 hX hQ hN h
  · have h := ite_f c_4 h
    refine wb_iload_n 2 hX dX11_later_13 rfl (pq := 14) rfl ?_
    obtain ⟨q_6, hc_5, h⟩ := bind_s h
    refine wb_callSi (r0 := q_6) (s1 := s_1) [.int x2] hX ml_1412 (tM_isHundred hc_5) (by decide) rfl rfl (Nat.le_of_ble_eq_true rfl) dX11_later_14 (pq := 17) rfl ?_
    refine wb_if_ne (tgt := 22) hX dX11_later_17 (by decide) (pq := 20) rfl (fun c_7 => ?_) (fun c_7 => ?_)
    · have h := ite_t c_7 h
      refine wb_sub [] (loc' := []) rfl ?_
      exact tM_later_J20 hX hQ hN h
    · have h := ite_f c_7 h
      refine wb_aload_n 0 hX dX11_later_22 rfl (pq := 23) rfl ?_
      obtain ⟨q_9, hc_8, h⟩ := bind_s h
      refine wb_callVv (s1 := q_9) [] hX sh_161 ml_1404 (tM_startsThen hc_8) (by decide) rfl rfl (Nat.le_of_ble_eq_true rfl) dX11_later_23 (pq := 26) rfl ?_
      refine wb_iconst (v := iI (0)) hX dX11_later_26 rfl (pq := 27) rfl ?_
      refine wb_istore_n (loc' := [(3, .int (iI (0))), (0, .ref (G.1 161)), (1, .int x1), (2, .int x2)]) hX hN dX11_later_27 (by decide) rfl (pq := 28) rfl ?_
      refine wb_sub [1, 2, 3, 0] (loc' := [(0, .ref (G.1 161)), (1, .int x1), (2, .int x2), (3, .int (iI (0)))]) rfl ?_
      exact tM_later_L28 hX hQ hN 100000 _ _ h
set_option maxHeartbeats 4000000 in
set_option maxRecDepth 100000 in
theorem tM_still_L11 {G : wG} {X : wX} {r0 : Int32} {s1 : wM} (hX : wOK G X cX11_still RX11 (some .int) 4) (hQ : wRt G X (wQi G r0 s1)) (hN : wNl X = 5) : ∀ (n : Nat) (x1 : Int32) (s : wM), wh2 (fM_still_L11) n x1 s = some (r0, s1) → WB G X 11 [(0, .ref (G.1 161)), (1, .int x1)] [] s := by
  intro n
  induction n with
  | zero => intro x1 s h; cases h
  | succ n hk11 =>
    intro x1 s h
    have h : fM_still_L11 x1 s (wh2 (fM_still_L11) n) = some (r0, s1) := h
    unfold fM_still_L11 at h
    refine wb_iload_n 1 hX dX11_still_11 rfl (pq := 12) rfl ?_
    refine wb_bipush (v := iI (100)) hX dX11_still_12 (by decide) (pq := 14) rfl ?_
    refine wb_icmp_gt (tgt := 78) hX dX11_still_14 (by decide) (fun c_1 => ?_) (pq := 17) rfl (fun c_1 => ?_)
    · have h := ite_t c_1 h
      refine wb_bipush (v := iI (-2)) hX dX11_still_78 (by decide) (pq := 80) rfl ?_
      exact wb_iret hX hQ h dX11_still_80
    · have h := ite_f c_1 h
      refine wb_aload_n 0 hX dX11_still_17 rfl (pq := 18) rfl ?_
      refine wb_aload_n 0 hX dX11_still_18 rfl (pq := 19) rfl ?_
      refine wb_getR hX fl_1557 sh_161 rfl dX11_still_19 (pq := 22) rfl ?_
      obtain ⟨q_3, hc_2, h⟩ := bind_s h
      refine wb_callVl (r0 := q_3) (s1 := s) [.ref (G.1 187)] hX sh_161 ml_1318 (tM_packed sh_187 hc_2) (by decide) rfl rfl (Nat.le_of_ble_eq_true rfl) dX11_still_22 (pq := 25) rfl ?_
      refine wb_lstore_n (loc' := [(2, .long q_3), (0, .ref (G.1 161)), (1, .int x1)]) hX hN dX11_still_25 (by decide) rfl (pq := 26) rfl ?_
      refine wb_aload_n 1 hX dX11_still_26 rfl (pq := 27) rfl ?_
      refine wb_aload_n 1 hX dX11_still_27 rfl (pq := 28) rfl ?_
      refine wb_getR hX fl_1557 sh_161 rfl dX11_still_28 (pq := 31) rfl ?_
      obtain ⟨q_5, hc_4, h⟩ := bind_s h
      refine wb_callVi (r0 := q_5) (s1 := s) [.ref (G.1 187)] hX sh_161 ml_1289 (tM_evenPairs sh_187 hc_4) (by decide) rfl rfl (Nat.le_of_ble_eq_true rfl) dX11_still_31 (pq := 34) rfl ?_
      refine wb_istore (loc' := [(4, .int q_5), (2, .long q_3), (0, .ref (G.1 161)), (1, .int x1)]) hX hN dX11_still_34 (by decide) rfl (pq := 36) rfl ?_
      refine wb_aload_n 2 hX dX11_still_36 rfl (pq := 37) rfl ?_
      refine wb_aload_n 2 hX dX11_still_37 rfl (pq := 38) rfl ?_
      refine wb_getR hX fl_1557 sh_161 rfl dX11_still_38 (pq := 41) rfl ?_
      refine wb_iconst (v := iI (0)) hX dX11_still_41 rfl (pq := 42) rfl ?_
      refine wb_iconst (v := iI (0)) hX dX11_still_42 rfl (pq := 43) rfl ?_
      obtain ⟨q_7, hc_6, h⟩ := bind_s h
      refine wb_callVv (s1 := q_7) [.ref (G.1 187), .int (iI (0)), .int (iI (0))] hX sh_161 ml_1280 (tM_weekGoes sh_187 hc_6) (by decide) rfl rfl (Nat.le_of_ble_eq_true rfl) dX11_still_43 (pq := 46) rfl ?_
      refine wb_aload_n 2 hX dX11_still_46 rfl (pq := 47) rfl ?_
      refine wb_aload_n 2 hX dX11_still_47 rfl (pq := 48) rfl ?_
      refine wb_getR hX fl_1557 sh_161 rfl dX11_still_48 (pq := 51) rfl ?_
      obtain ⟨q_9, hc_8, h⟩ := bind_s h
      refine wb_callVl (r0 := q_9) (s1 := q_7) [.ref (G.1 187)] hX sh_161 ml_1318 (tM_packed sh_187 hc_8) (by decide) rfl rfl (Nat.le_of_ble_eq_true rfl) dX11_still_51 (pq := 54) rfl ?_
      refine wb_lload_n 1 hX dX11_still_54 rfl (pq := 55) rfl ?_
      refine wb_lcmp hX dX11_still_55 (pq := 56) rfl ?_
      refine wb_if_ne (tgt := 72) hX dX11_still_56 (by decide) (pq := 59) rfl (fun c_10 => ?_) (fun c_10 => ?_)
      · have h := ite_t c_10 h
        refine wb_aload_n 2 hX dX11_still_59 rfl (pq := 60) rfl ?_
        refine wb_iconst (v := iI (0)) hX dX11_still_60 rfl (pq := 61) rfl ?_
        refine wb_putI hX fp_1519 sh_161 rfl dX11_still_61 rfl rfl (pq := 64) rfl ?_
        refine wb_mem (fun s_11 es_11 => ?_)
        have h := nmM_s h s_11 es_11
        refine wb_aload_n 2 hX dX11_still_64 rfl (pq := 65) rfl ?_
        refine wb_iload 0 hX dX11_still_65 rfl (pq := 67) rfl ?_
        obtain ⟨q_13, hc_12, h⟩ := bind_s h
        refine wb_callVv (s1 := q_13) [.int q_5] hX sh_161 ml_1263 (tM_enters hc_12) (by decide) rfl rfl (Nat.le_of_ble_eq_true rfl) dX11_still_67 (pq := 70) rfl ?_
        refine wb_iload_n 3 hX dX11_still_70 rfl (pq := 71) rfl ?_
        exact wb_iret hX hQ h dX11_still_71
      · have h := ite_f c_10 h
        refine wb_iinc (v := (x1 + iI (1))) (loc' := [(1, .int (x1 + iI (1))), (4, .int q_5), (2, .long q_3), (0, .ref (G.1 161))]) 3 hX hN dX11_still_72 rfl rfl (by decide) rfl (pq := 75) rfl ?_
        refine wb_goto (tgt := 11) hX dX11_still_75 (by decide) ?_
        refine wb_sub [3, 0] (loc' := [(0, .ref (G.1 161)), (1, .int (x1 + iI (1)))]) rfl ?_
        exact hk11 _ _ h
set_option maxHeartbeats 4000000 in
set_option maxRecDepth 100000 in
theorem tM_still {l : Launch} {G : wG} {s : wM} {r0 : Int32} {s1 : wM} (h : fM_still s = some (r0, s1)) : wMet l G yX11_still cX11_still 5 (some .int) 4 [.ref (G.1 161)] s (wQi G r0 s1) := by
  refine wMet_of (own := RX11) (by decide +kernel) rfl (Nat.le_of_ble_eq_true rfl) ?_
  intro X hX hQ hN hl
  show WB G X 0 [(0, .ref (G.1 161))] [] s
  unfold fM_still at h
  refine wb_aload_n 0 hX dX11_still_0 rfl (pq := 1) rfl ?_
  refine wb_iconst (v := iI (0)) hX dX11_still_1 rfl (pq := 2) rfl ?_
  refine wb_putI hX fp_1518 sh_161 rfl dX11_still_2 rfl rfl (pq := 5) rfl ?_
  refine wb_mem (fun s_1 es_1 => ?_)
  have h := nmM_s h s_1 es_1
  refine wb_aload_n 0 hX dX11_still_5 rfl (pq := 6) rfl ?_
  obtain ⟨q_3, hc_2, h⟩ := bind_s h
  refine wb_callVv (s1 := q_3) [] hX sh_161 ml_1404 (tM_startsThen hc_2) (by decide) rfl rfl (Nat.le_of_ble_eq_true rfl) dX11_still_6 (pq := 9) rfl ?_
  refine wb_iconst (v := iI (0)) hX dX11_still_9 rfl (pq := 10) rfl ?_
  refine wb_istore_n (loc' := [(1, .int (iI (0))), (0, .ref (G.1 161))]) hX hN dX11_still_10 (by decide) rfl (pq := 11) rfl ?_
  refine wb_sub [1, 0] (loc' := [(0, .ref (G.1 161)), (1, .int (iI (0)))]) rfl ?_
  exact tM_still_L11 hX hQ hN 100000 _ _ h
set_option maxHeartbeats 4000000 in
set_option maxRecDepth 100000 in
theorem tM_keeps_J29 {G : wG} {X : wX} {s : wM} {r0 : Int32} {s1 : wM} (hX : wOK G X cX11_keeps RX11 (some .int) 4) (hQ : wRt G X (wQi G r0 s1)) (hN : wNl X = 8) (h : fM_keeps_J29 s = some (r0, s1)) : WB G X 29 [] [] s := by
  unfold fM_keeps_J29 at h
  refine wb_iconst (v := iI (-1)) hX dX11_keeps_29 rfl (pq := 30) rfl ?_
  exact wb_iret hX hQ h dX11_keeps_30
set_option maxHeartbeats 4000000 in
set_option maxRecDepth 100000 in
theorem tM_keeps_J122 {G : wG} {X : wX} {k43 : Int32 → Int32 → Int32 → wM → Option (Int32 × wM)} {k74 : Int32 → Int32 → wM → Option (Int32 × wM)} {x1 : Int32} {x2 : Int32} {x3 : Int32} {x4 : Int32} {x7 : Int32} {v0 : Int32} {s : wM} {r0 : Int32} {s1 : wM} (hX : wOK G X cX11_keeps RX11 (some .int) 4) (hQ : wRt G X (wQi G r0 s1)) (hN : wNl X = 8) (hk43 : ∀ (x3 : Int32) (x4 : Int32) (x5 : Int32) (s : wM), k43 x3 x4 x5 s = some (r0, s1) → WB G X 43 [(0, .ref (G.1 161)), (1, .int x1), (2, .int x2), (3, .int x3), (4, .int x4), (5, .int x5)] [] s) (hk74 : ∀ (x6 : Int32) (x7 : Int32) (s : wM), k74 x6 x7 s = some (r0, s1) → WB G X 74 [(0, .ref (G.1 161)), (1, .int x1), (2, .int x2), (3, .int x3), (4, .int x4), (6, .int x6), (7, .int x7)] [] s) (h : fM_keeps_J122 k43 k74 x1 x2 x3 x4 x7 v0 s = some (r0, s1)) : WB G X 122 [(0, .ref (G.1 161)), (1, .int x1), (2, .int x2), (3, .int x3), (4, .int x4), (7, .int x7)] [.int v0] s := by
  unfold fM_keeps_J122 at h
  refine wb_istore (loc' := [(6, .int v0), (0, .ref (G.1 161)), (1, .int x1), (2, .int x2), (3, .int x3), (4, .int x4), (7, .int x7)]) hX hN dX11_keeps_122 (by decide) rfl (pq := 124) rfl ?_
  refine wb_iinc (v := (x7 + iI (1))) (loc' := [(7, .int (x7 + iI (1))), (6, .int v0), (0, .ref (G.1 161)), (1, .int x1), (2, .int x2), (3, .int x3), (4, .int x4)]) 6 hX hN dX11_keeps_124 rfl rfl (by decide) rfl (pq := 127) rfl ?_
  refine wb_goto (tgt := 74) hX dX11_keeps_127 (by decide) ?_
  refine wb_sub [2, 3, 4, 5, 6, 1, 0] (loc' := [(0, .ref (G.1 161)), (1, .int x1), (2, .int x2), (3, .int x3), (4, .int x4), (6, .int v0), (7, .int (x7 + iI (1)))]) rfl ?_
  exact hk74 _ _ _ h
set_option maxHeartbeats 4000000 in
set_option maxRecDepth 100000 in
theorem tM_keeps_J192 {G : wG} {X : wX} {k43 : Int32 → Int32 → Int32 → wM → Option (Int32 × wM)} {x1 : Int32} {x2 : Int32} {x3 : Int32} {x4 : Int32} {x5 : Int32} {s : wM} {r0 : Int32} {s1 : wM} (hX : wOK G X cX11_keeps RX11 (some .int) 4) (hQ : wRt G X (wQi G r0 s1)) (hN : wNl X = 8) (hk43 : ∀ (x3 : Int32) (x4 : Int32) (x5 : Int32) (s : wM), k43 x3 x4 x5 s = some (r0, s1) → WB G X 43 [(0, .ref (G.1 161)), (1, .int x1), (2, .int x2), (3, .int x3), (4, .int x4), (5, .int x5)] [] s) (h : fM_keeps_J192 k43 x1 x2 x3 x4 x5 s = some (r0, s1)) : WB G X 192 [(0, .ref (G.1 161)), (1, .int x1), (2, .int x2), (3, .int x3), (4, .int x4), (5, .int x5)] [] s := by
  unfold fM_keeps_J192 at h
  refine wb_goto (tgt := 43) hX dX11_keeps_192 (by decide) ?_
  exact hk43 _ _ _ _ h
set_option maxHeartbeats 4000000 in
set_option maxRecDepth 100000 in
theorem tM_keeps_L165 {G : wG} {X : wX} {k43 : Int32 → Int32 → Int32 → wM → Option (Int32 × wM)} {x1 : Int32} {x2 : Int32} {x3 : Int32} {x4 : Int32} {x5 : Int32} {r0 : Int32} {s1 : wM} (hX : wOK G X cX11_keeps RX11 (some .int) 4) (hQ : wRt G X (wQi G r0 s1)) (hN : wNl X = 8) (hk43 : ∀ (x3 : Int32) (x4 : Int32) (x5 : Int32) (s : wM), k43 x3 x4 x5 s = some (r0, s1) → WB G X 43 [(0, .ref (G.1 161)), (1, .int x1), (2, .int x2), (3, .int x3), (4, .int x4), (5, .int x5)] [] s) : ∀ (n : Nat) (x7 : Int32) (s : wM), wh2 (fM_keeps_L165 k43 x1 x2 x3 x4 x5) n x7 s = some (r0, s1) → WB G X 165 [(0, .ref (G.1 161)), (1, .int x1), (2, .int x2), (3, .int x3), (4, .int x4), (5, .int x5), (7, .int x7)] [] s := by
  intro n
  induction n with
  | zero => intro x7 s h; cases h
  | succ n hk165 =>
    intro x7 s h
    have h : fM_keeps_L165 k43 x1 x2 x3 x4 x5 x7 s (wh2 (fM_keeps_L165 k43 x1 x2 x3 x4 x5) n) = some (r0, s1) := h
    unfold fM_keeps_L165 at h
    refine wb_iload 6 hX dX11_keeps_165 rfl (pq := 167) rfl ?_
    refine wb_bipush (v := iI (9)) hX dX11_keeps_167 (by decide) (pq := 169) rfl ?_
    refine wb_icmp_ge (tgt := 192) hX dX11_keeps_169 (by decide) (fun c_1 => ?_) (pq := 172) rfl (fun c_1 => ?_)
    · have h := ite_t c_1 h
      refine wb_sub [0, 1, 2, 3, 4, 5] (loc' := [(0, .ref (G.1 161)), (1, .int x1), (2, .int x2), (3, .int x3), (4, .int x4), (5, .int x5)]) rfl ?_
      exact tM_keeps_J192 hX hQ hN hk43 h
    · have h := ite_f c_1 h
      refine wb_aload_n 0 hX dX11_keeps_172 rfl (pq := 173) rfl ?_
      refine wb_getR hX fl_1557 sh_161 rfl dX11_keeps_173 (pq := 176) rfl ?_
      refine wb_iload 6 hX dX11_keeps_176 rfl (pq := 178) rfl ?_
      refine wb_aload_n 0 hX dX11_keeps_178 rfl (pq := 179) rfl ?_
      refine wb_getR hX fl_1551 sh_161 rfl dX11_keeps_179 (pq := 182) rfl ?_
      refine wb_iload 6 hX dX11_keeps_182 rfl (pq := 184) rfl ?_
      obtain ⟨hi_2, h⟩ := chk_some h
      refine wb_iald hX sh_184 hi_2 dX11_keeps_184 (pq := 185) rfl ?_
      refine wb_iast hX sh_187 hi_2 dX11_keeps_185 (pq := 186) rfl ?_
      refine wb_mem (fun s_3 es_3 => ?_)
      have h := nmM_s h s_3 es_3
      refine wb_iinc (v := (x7 + iI (1))) (loc' := [(7, .int (x7 + iI (1))), (0, .ref (G.1 161)), (1, .int x1), (2, .int x2), (3, .int x3), (4, .int x4), (5, .int x5)]) 6 hX hN dX11_keeps_186 rfl rfl (by decide) rfl (pq := 189) rfl ?_
      refine wb_goto (tgt := 165) hX dX11_keeps_189 (by decide) ?_
      refine wb_sub [1, 2, 3, 4, 5, 6, 0] (loc' := [(0, .ref (G.1 161)), (1, .int x1), (2, .int x2), (3, .int x3), (4, .int x4), (5, .int x5), (7, .int (x7 + iI (1)))]) rfl ?_
      exact hk165 _ _ h
set_option maxHeartbeats 4000000 in
set_option maxRecDepth 100000 in
theorem tM_keeps_J140 {G : wG} {X : wX} {k43 : Int32 → Int32 → Int32 → wM → Option (Int32 × wM)} {x1 : Int32} {x2 : Int32} {x3 : Int32} {x4 : Int32} {x6 : Int32} {v0 : Int32} {s : wM} {r0 : Int32} {s1 : wM} (hX : wOK G X cX11_keeps RX11 (some .int) 4) (hQ : wRt G X (wQi G r0 s1)) (hN : wNl X = 8) (hk43 : ∀ (x3 : Int32) (x4 : Int32) (x5 : Int32) (s : wM), k43 x3 x4 x5 s = some (r0, s1) → WB G X 43 [(0, .ref (G.1 161)), (1, .int x1), (2, .int x2), (3, .int x3), (4, .int x4), (5, .int x5)] [] s) (h : fM_keeps_J140 k43 x1 x2 x3 x4 x6 v0 s = some (r0, s1)) : WB G X 140 [(0, .ref (G.1 161)), (1, .int x1), (2, .int x2), (3, .int x3), (4, .int x4), (6, .int x6)] [.int v0] s := by
  unfold fM_keeps_J140 at h
  refine wb_istore (loc' := [(5, .int v0), (0, .ref (G.1 161)), (1, .int x1), (2, .int x2), (3, .int x3), (4, .int x4), (6, .int x6)]) hX hN dX11_keeps_140 (by decide) rfl (pq := 142) rfl ?_
  refine wb_iload 0 hX dX11_keeps_142 rfl (pq := 144) rfl ?_
  refine wb_if_eq (tgt := 192) hX dX11_keeps_144 (by decide) (fun c_1 => ?_) (pq := 147) rfl (fun c_1 => ?_)
  · have h := ite_t c_1 h
    refine wb_sub [1, 2, 3, 4, 5, 0] (loc' := [(0, .ref (G.1 161)), (1, .int x1), (2, .int x2), (3, .int x3), (4, .int x4), (5, .int v0)]) rfl ?_
    exact tM_keeps_J192 hX hQ hN hk43 h
  · have h := ite_f c_1 h
    refine wb_iload 5 hX dX11_keeps_147 rfl (pq := 149) rfl ?_
    refine wb_aload_n 1 hX dX11_keeps_149 rfl (pq := 150) rfl ?_
    refine wb_getR hX fl_1549 sh_161 rfl dX11_keeps_150 (pq := 153) rfl ?_
    refine wb_iload 6 hX dX11_keeps_153 rfl (pq := 155) rfl ?_
    obtain ⟨hi_2, h⟩ := chk_some h
    refine wb_iald hX sh_182 hi_2 dX11_keeps_155 (pq := 156) rfl ?_
    refine wb_iadd hX dX11_keeps_156 (pq := 157) rfl ?_
    refine wb_istore (loc' := [(4, .int (x4 + (s.1 182 x6.toNatClampNeg))), (5, .int v0), (0, .ref (G.1 161)), (1, .int x1), (2, .int x2), (3, .int x3), (6, .int x6)]) hX hN dX11_keeps_157 (by decide) rfl (pq := 159) rfl ?_
    refine wb_iinc (v := (x3 + iI (1))) (loc' := [(3, .int (x3 + iI (1))), (4, .int (x4 + (s.1 182 x6.toNatClampNeg))), (5, .int v0), (0, .ref (G.1 161)), (1, .int x1), (2, .int x2), (6, .int x6)]) 5 hX hN dX11_keeps_159 rfl rfl (by decide) rfl (pq := 162) rfl ?_
    refine wb_iconst (v := iI (0)) hX dX11_keeps_162 rfl (pq := 163) rfl ?_
    refine wb_istore (loc' := [(7, .int (iI (0))), (3, .int (x3 + iI (1))), (4, .int (x4 + (s.1 182 x6.toNatClampNeg))), (5, .int v0), (0, .ref (G.1 161)), (1, .int x1), (2, .int x2), (6, .int x6)]) hX hN dX11_keeps_163 (by decide) rfl (pq := 165) rfl ?_
    refine wb_sub [4, 5, 6, 1, 2, 3, 0] (loc' := [(0, .ref (G.1 161)), (1, .int x1), (2, .int x2), (3, .int (x3 + iI (1))), (4, .int (x4 + (s.1 182 x6.toNatClampNeg))), (5, .int v0), (7, .int (iI (0)))]) rfl ?_
    exact tM_keeps_L165 hX hQ hN hk43 100000 _ _ h
set_option maxHeartbeats 4000000 in
set_option maxRecDepth 100000 in
theorem tM_keeps_J130 {G : wG} {X : wX} {k43 : Int32 → Int32 → Int32 → wM → Option (Int32 × wM)} {x1 : Int32} {x2 : Int32} {x3 : Int32} {x4 : Int32} {x6 : Int32} {s : wM} {r0 : Int32} {s1 : wM} (hX : wOK G X cX11_keeps RX11 (some .int) 4) (hQ : wRt G X (wQi G r0 s1)) (hN : wNl X = 8) (hk43 : ∀ (x3 : Int32) (x4 : Int32) (x5 : Int32) (s : wM), k43 x3 x4 x5 s = some (r0, s1) → WB G X 43 [(0, .ref (G.1 161)), (1, .int x1), (2, .int x2), (3, .int x3), (4, .int x4), (5, .int x5)] [] s) (h : fM_keeps_J130 k43 x1 x2 x3 x4 x6 s = some (r0, s1)) : WB G X 130 [(0, .ref (G.1 161)), (1, .int x1), (2, .int x2), (3, .int x3), (4, .int x4), (6, .int x6)] [] s := by
  unfold fM_keeps_J130 at h
  refine wb_iload 5 hX dX11_keeps_130 rfl (pq := 132) rfl ?_
  refine wb_if_lt (tgt := 139) hX dX11_keeps_132 (by decide) (fun c_1 => ?_) (pq := 135) rfl (fun c_1 => ?_)
  · have h := ite_t c_1 h
    refine wb_iconst (v := iI (0)) hX dX11_keeps_139 rfl (pq := 140) rfl ?_
    exact tM_keeps_J140 hX hQ hN hk43 h
  · have h := ite_f c_1 h
    refine wb_iconst (v := iI (1)) hX dX11_keeps_135 rfl (pq := 136) rfl ?_
    refine wb_goto (tgt := 140) hX dX11_keeps_136 (by decide) ?_
    exact tM_keeps_J140 hX hQ hN hk43 h
set_option maxHeartbeats 4000000 in
set_option maxRecDepth 100000 in
theorem tM_keeps_L74 {G : wG} {X : wX} {k43 : Int32 → Int32 → Int32 → wM → Option (Int32 × wM)} {x1 : Int32} {x2 : Int32} {x3 : Int32} {x4 : Int32} {r0 : Int32} {s1 : wM} (hX : wOK G X cX11_keeps RX11 (some .int) 4) (hQ : wRt G X (wQi G r0 s1)) (hN : wNl X = 8) (hk43 : ∀ (x3 : Int32) (x4 : Int32) (x5 : Int32) (s : wM), k43 x3 x4 x5 s = some (r0, s1) → WB G X 43 [(0, .ref (G.1 161)), (1, .int x1), (2, .int x2), (3, .int x3), (4, .int x4), (5, .int x5)] [] s) : ∀ (n : Nat) (x6 : Int32) (x7 : Int32) (s : wM), wh3 (fM_keeps_L74 k43 x1 x2 x3 x4) n x6 x7 s = some (r0, s1) → WB G X 74 [(0, .ref (G.1 161)), (1, .int x1), (2, .int x2), (3, .int x3), (4, .int x4), (6, .int x6), (7, .int x7)] [] s := by
  intro n
  induction n with
  | zero => intro x6 x7 s h; cases h
  | succ n hk74 =>
    intro x6 x7 s h
    have h : fM_keeps_L74 k43 x1 x2 x3 x4 x6 x7 s (wh3 (fM_keeps_L74 k43 x1 x2 x3 x4) n) = some (r0, s1) := h
    unfold fM_keeps_L74 at h
    refine wb_iload 6 hX dX11_keeps_74 rfl (pq := 76) rfl ?_
    refine wb_aload_n 0 hX dX11_keeps_76 rfl (pq := 77) rfl ?_
    refine wb_getI hX fl_1552 sh_161 rfl dX11_keeps_77 (pq := 80) rfl ?_
    refine wb_icmp_ge (tgt := 130) hX dX11_keeps_80 (by decide) (fun c_1 => ?_) (pq := 83) rfl (fun c_1 => ?_)
    · have h := ite_t c_1 h
      refine wb_sub [0, 1, 2, 3, 4, 5] (loc' := [(0, .ref (G.1 161)), (1, .int x1), (2, .int x2), (3, .int x3), (4, .int x4), (6, .int x6)]) rfl ?_
      exact tM_keeps_J130 hX hQ hN hk43 h
    · have h := ite_f c_1 h
      refine wb_iload 5 hX dX11_keeps_83 rfl (pq := 85) rfl ?_
      refine wb_if_ge (tgt := 130) hX dX11_keeps_85 (by decide) (fun c_2 => ?_) (pq := 88) rfl (fun c_2 => ?_)
      · have h := ite_t c_2 h
        refine wb_sub [0, 1, 2, 3, 4, 5] (loc' := [(0, .ref (G.1 161)), (1, .int x1), (2, .int x2), (3, .int x3), (4, .int x4), (6, .int x6)]) rfl ?_
        exact tM_keeps_J130 hX hQ hN hk43 h
      · have h := ite_f c_2 h
        refine wb_aload_n 0 hX dX11_keeps_88 rfl (pq := 89) rfl ?_
        refine wb_iload 6 hX dX11_keeps_89 rfl (pq := 91) rfl ?_
        obtain ⟨q_4, hc_3, h⟩ := bind_s h
        refine wb_callVv (s1 := q_4) [.int x7] hX sh_161 ml_1333 (tM_unpacks hc_3) (by decide) rfl rfl (Nat.le_of_ble_eq_true rfl) dX11_keeps_91 (pq := 94) rfl ?_
        refine wb_aload_n 0 hX dX11_keeps_94 rfl (pq := 95) rfl ?_
        refine wb_aload_n 0 hX dX11_keeps_95 rfl (pq := 96) rfl ?_
        refine wb_getR hX fl_1551 sh_161 rfl dX11_keeps_96 (pq := 99) rfl ?_
        refine wb_iconst (v := iI (0)) hX dX11_keeps_99 rfl (pq := 100) rfl ?_
        refine wb_iconst (v := iI (0)) hX dX11_keeps_100 rfl (pq := 101) rfl ?_
        obtain ⟨q_6, hc_5, h⟩ := bind_s h
        refine wb_callVv (s1 := q_6) [.ref (G.1 184), .int (iI (0)), .int (iI (0))] hX sh_161 ml_1280 (tM_weekGoes sh_184 hc_5) (by decide) rfl rfl (Nat.le_of_ble_eq_true rfl) dX11_keeps_101 (pq := 104) rfl ?_
        refine wb_aload_n 0 hX dX11_keeps_104 rfl (pq := 105) rfl ?_
        refine wb_aload_n 0 hX dX11_keeps_105 rfl (pq := 106) rfl ?_
        refine wb_getR hX fl_1551 sh_161 rfl dX11_keeps_106 (pq := 109) rfl ?_
        obtain ⟨q_8, hc_7, h⟩ := bind_s h
        refine wb_callVi (r0 := q_8) (s1 := q_6) [.ref (G.1 184)] hX sh_161 ml_1289 (tM_evenPairs sh_184 hc_7) (by decide) rfl rfl (Nat.le_of_ble_eq_true rfl) dX11_keeps_109 (pq := 112) rfl ?_
        refine wb_if_ne (tgt := 120) hX dX11_keeps_112 (by decide) (pq := 115) rfl (fun c_9 => ?_) (fun c_9 => ?_)
        · have h := ite_t c_9 h
          refine wb_iload 6 hX dX11_keeps_115 rfl (pq := 117) rfl ?_
          refine wb_goto (tgt := 122) hX dX11_keeps_117 (by decide) ?_
          refine wb_sub [0, 1, 2, 3, 4, 6] (loc' := [(0, .ref (G.1 161)), (1, .int x1), (2, .int x2), (3, .int x3), (4, .int x4), (7, .int x7)]) rfl ?_
          exact tM_keeps_J122 hX hQ hN hk43 hk74 h
        · have h := ite_f c_9 h
          refine wb_iload 5 hX dX11_keeps_120 rfl (pq := 122) rfl ?_
          refine wb_sub [0, 1, 2, 3, 4, 6] (loc' := [(0, .ref (G.1 161)), (1, .int x1), (2, .int x2), (3, .int x3), (4, .int x4), (7, .int x7)]) rfl ?_
          exact tM_keeps_J122 hX hQ hN hk43 hk74 h
set_option maxHeartbeats 4000000 in
set_option maxRecDepth 100000 in
theorem tM_keeps_J195 {G : wG} {X : wX} {x3 : Int32} {x4 : Int32} {s : wM} {r0 : Int32} {s1 : wM} (hX : wOK G X cX11_keeps RX11 (some .int) 4) (hQ : wRt G X (wQi G r0 s1)) (hN : wNl X = 8) (h : fM_keeps_J195 x3 x4 s = some (r0, s1)) : WB G X 195 [(0, .ref (G.1 161)), (3, .int x3), (4, .int x4)] [] s := by
  unfold fM_keeps_J195 at h
  refine wb_aload_n 0 hX dX11_keeps_195 rfl (pq := 196) rfl ?_
  refine wb_iconst (v := iI (0)) hX dX11_keeps_196 rfl (pq := 197) rfl ?_
  refine wb_putI hX fp_1519 sh_161 rfl dX11_keeps_197 rfl rfl (pq := 200) rfl ?_
  refine wb_mem (fun s_1 es_1 => ?_)
  have h := nmM_s h s_1 es_1
  refine wb_aload_n 0 hX dX11_keeps_200 rfl (pq := 201) rfl ?_
  refine wb_iload 2 hX dX11_keeps_201 rfl (pq := 203) rfl ?_
  obtain ⟨q_3, hc_2, h⟩ := bind_s h
  refine wb_callVv (s1 := q_3) [.int x4] hX sh_161 ml_1263 (tM_enters hc_2) (by decide) rfl rfl (Nat.le_of_ble_eq_true rfl) dX11_keeps_203 (pq := 206) rfl ?_
  refine wb_iload_n 1 hX dX11_keeps_206 rfl (pq := 207) rfl ?_
  exact wb_iret hX hQ h dX11_keeps_207
set_option maxHeartbeats 4000000 in
set_option maxRecDepth 100000 in
theorem tM_keeps_L43 {G : wG} {X : wX} {x1 : Int32} {x2 : Int32} {r0 : Int32} {s1 : wM} (hX : wOK G X cX11_keeps RX11 (some .int) 4) (hQ : wRt G X (wQi G r0 s1)) (hN : wNl X = 8) : ∀ (n : Nat) (x3 : Int32) (x4 : Int32) (x5 : Int32) (s : wM), wh4 (fM_keeps_L43 x1 x2) n x3 x4 x5 s = some (r0, s1) → WB G X 43 [(0, .ref (G.1 161)), (1, .int x1), (2, .int x2), (3, .int x3), (4, .int x4), (5, .int x5)] [] s := by
  intro n
  induction n with
  | zero => intro x3 x4 x5 s h; cases h
  | succ n hk43 =>
    intro x3 x4 x5 s h
    have h : fM_keeps_L43 x1 x2 x3 x4 x5 s (wh4 (fM_keeps_L43 x1 x2) n) = some (r0, s1) := h
    unfold fM_keeps_L43 at h
    refine wb_iload_n 3 hX dX11_keeps_43 rfl (pq := 44) rfl ?_
    refine wb_iload_n 1 hX dX11_keeps_44 rfl (pq := 45) rfl ?_
    refine wb_icmp_ge (tgt := 195) hX dX11_keeps_45 (by decide) (fun c_1 => ?_) (pq := 48) rfl (fun c_1 => ?_)
    · have h := ite_t c_1 h
      refine wb_sub [0, 3, 4] (loc' := [(0, .ref (G.1 161)), (3, .int x3), (4, .int x4)]) rfl ?_
      exact tM_keeps_J195 hX hQ hN h
    · have h := ite_f c_1 h
      refine wb_iload 5 hX dX11_keeps_48 rfl (pq := 50) rfl ?_
      refine wb_if_eq (tgt := 195) hX dX11_keeps_50 (by decide) (fun c_2 => ?_) (pq := 53) rfl (fun c_2 => ?_)
      · have h := ite_t c_2 h
        refine wb_sub [0, 3, 4] (loc' := [(0, .ref (G.1 161)), (3, .int x3), (4, .int x4)]) rfl ?_
        exact tM_keeps_J195 hX hQ hN h
      · have h := ite_f c_2 h
        refine wb_aload_n 0 hX dX11_keeps_53 rfl (pq := 54) rfl ?_
        refine wb_aload_n 0 hX dX11_keeps_54 rfl (pq := 55) rfl ?_
        refine wb_getR hX fl_1557 sh_161 rfl dX11_keeps_55 (pq := 58) rfl ?_
        refine wb_iload_n 2 hX dX11_keeps_58 rfl (pq := 59) rfl ?_
        obtain ⟨q_4, hc_3, h⟩ := bind_s h
        refine wb_callVi (r0 := q_4.1) (s1 := q_4.2) [.ref (G.1 187), .int x2] hX sh_161 ml_1306 (tM_findsAll sh_187 hc_3) (by decide) rfl rfl (Nat.le_of_ble_eq_true rfl) dX11_keeps_59 (pq := 62) rfl ?_
        refine wb_if_ne (tgt := 68) hX dX11_keeps_62 (by decide) (pq := 65) rfl (fun c_5 => ?_) (fun c_5 => ?_)
        · have h := ite_t c_5 h
          refine wb_bipush (v := iI (-3)) hX dX11_keeps_65 (by decide) (pq := 67) rfl ?_
          exact wb_iret hX hQ h dX11_keeps_67
        · have h := ite_f c_5 h
          refine wb_iconst (v := iI (-1)) hX dX11_keeps_68 rfl (pq := 69) rfl ?_
          refine wb_istore (loc' := [(6, .int (iI (-1))), (0, .ref (G.1 161)), (1, .int x1), (2, .int x2), (3, .int x3), (4, .int x4), (5, .int x5)]) hX hN dX11_keeps_69 (by decide) rfl (pq := 71) rfl ?_
          refine wb_iconst (v := iI (0)) hX dX11_keeps_71 rfl (pq := 72) rfl ?_
          refine wb_istore (loc' := [(7, .int (iI (0))), (6, .int (iI (-1))), (0, .ref (G.1 161)), (1, .int x1), (2, .int x2), (3, .int x3), (4, .int x4), (5, .int x5)]) hX hN dX11_keeps_72 (by decide) rfl (pq := 74) rfl ?_
          refine wb_sub [2, 3, 4, 5, 6, 1, 0] (loc' := [(0, .ref (G.1 161)), (1, .int x1), (2, .int x2), (3, .int x3), (4, .int x4), (6, .int (iI (-1))), (7, .int (iI (0)))]) rfl ?_
          exact tM_keeps_L74 hX hQ hN hk43 100000 _ _ _ h
set_option maxHeartbeats 4000000 in
set_option maxRecDepth 100000 in
theorem tM_keeps {l : Launch} {G : wG} {s : wM} {x1 : Int32} {x2 : Int32} {r0 : Int32} {s1 : wM} (h : fM_keeps s x1 x2 = some (r0, s1)) : wMet l G yX11_keeps cX11_keeps 8 (some .int) 4 [.ref (G.1 161), .int x1, .int x2] s (wQi G r0 s1) := by
  refine wMet_of (own := RX11) (by decide +kernel) rfl (Nat.le_of_ble_eq_true rfl) ?_
  intro X hX hQ hN hl
  show WB G X 0 [(0, .ref (G.1 161)), (1, .int x1), (2, .int x2)] [] s
  unfold fM_keeps at h
  refine wb_aload_n 0 hX dX11_keeps_0 rfl (pq := 1) rfl ?_
  refine wb_iconst (v := iI (0)) hX dX11_keeps_1 rfl (pq := 2) rfl ?_
  refine wb_putI hX fp_1518 sh_161 rfl dX11_keeps_2 rfl rfl (pq := 5) rfl ?_
  refine wb_mem (fun s_1 es_1 => ?_)
  have h := nmM_s h s_1 es_1
  refine wb_iload_n 1 hX dX11_keeps_5 rfl (pq := 6) rfl ?_
  refine wb_i2l hX dX11_keeps_6 (pq := 7) rfl ?_
  refine wb_lconst (v := (0 : Int64)) hX dX11_keeps_7 rfl (pq := 8) rfl ?_
  refine wb_ldc2 (v := (12 : Int64)) hX k_1424 dX11_keeps_8 (pq := 11) rfl ?_
  obtain ⟨q_3, hc_2, h⟩ := bind_s h
  refine wb_callSi (r0 := q_3) (s1 := s_1) [.long x1.toInt64, .long (0 : Int64), .long (12 : Int64)] hX ml_1124 (tM_in hc_2) (by decide) rfl rfl (Nat.le_of_ble_eq_true rfl) dX11_keeps_11 (pq := 14) rfl ?_
  refine wb_if_eq (tgt := 29) hX dX11_keeps_14 (by decide) (fun c_4 => ?_) (pq := 17) rfl (fun c_4 => ?_)
  · have h := ite_t c_4 h
    refine wb_sub [] (loc' := []) rfl ?_
    exact tM_keeps_J29 hX hQ hN h
  · have h := ite_f c_4 h
    refine wb_iload_n 2 hX dX11_keeps_17 rfl (pq := 18) rfl ?_
    refine wb_i2l hX dX11_keeps_18 (pq := 19) rfl ?_
    refine wb_lconst (v := (0 : Int64)) hX dX11_keeps_19 rfl (pq := 20) rfl ?_
    refine wb_ldc2 (v := (2 : Int64)) hX k_1214 dX11_keeps_20 (pq := 23) rfl ?_
    obtain ⟨q_6, hc_5, h⟩ := bind_s h
    refine wb_callSi (r0 := q_6) (s1 := s_1) [.long x2.toInt64, .long (0 : Int64), .long (2 : Int64)] hX ml_1124 (tM_in hc_5) (by decide) rfl rfl (Nat.le_of_ble_eq_true rfl) dX11_keeps_23 (pq := 26) rfl ?_
    refine wb_if_ne (tgt := 31) hX dX11_keeps_26 (by decide) (pq := 29) rfl (fun c_7 => ?_) (fun c_7 => ?_)
    · have h := ite_t c_7 h
      refine wb_sub [] (loc' := []) rfl ?_
      exact tM_keeps_J29 hX hQ hN h
    · have h := ite_f c_7 h
      refine wb_aload_n 0 hX dX11_keeps_31 rfl (pq := 32) rfl ?_
      obtain ⟨q_9, hc_8, h⟩ := bind_s h
      refine wb_callVv (s1 := q_9) [] hX sh_161 ml_1404 (tM_startsThen hc_8) (by decide) rfl rfl (Nat.le_of_ble_eq_true rfl) dX11_keeps_32 (pq := 35) rfl ?_
      refine wb_iconst (v := iI (0)) hX dX11_keeps_35 rfl (pq := 36) rfl ?_
      refine wb_istore_n (loc' := [(3, .int (iI (0))), (0, .ref (G.1 161)), (1, .int x1), (2, .int x2)]) hX hN dX11_keeps_36 (by decide) rfl (pq := 37) rfl ?_
      refine wb_iconst (v := iI (0)) hX dX11_keeps_37 rfl (pq := 38) rfl ?_
      refine wb_istore (loc' := [(4, .int (iI (0))), (3, .int (iI (0))), (0, .ref (G.1 161)), (1, .int x1), (2, .int x2)]) hX hN dX11_keeps_38 (by decide) rfl (pq := 40) rfl ?_
      refine wb_iconst (v := iI (1)) hX dX11_keeps_40 rfl (pq := 41) rfl ?_
      refine wb_istore (loc' := [(5, .int (iI (1))), (4, .int (iI (0))), (3, .int (iI (0))), (0, .ref (G.1 161)), (1, .int x1), (2, .int x2)]) hX hN dX11_keeps_41 (by decide) rfl (pq := 43) rfl ?_
      refine wb_sub [3, 4, 5, 2, 1, 0] (loc' := [(0, .ref (G.1 161)), (1, .int x1), (2, .int x2), (3, .int (iI (0))), (4, .int (iI (0))), (5, .int (iI (1)))]) rfl ?_
      exact tM_keeps_L43 hX hQ hN 100000 _ _ _ _ h
