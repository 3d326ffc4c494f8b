set_option maxHeartbeats 4000000 in
set_option maxRecDepth 100000 in
theorem tLand_allDepths_L4 {G : wG} {X : wX} {s : wM} {r0 : Int32} (hX : wOK G X cX2_allDepths RX2 (some .int) 0) (hQ : wRt G X (wQi G r0 s)) (hN : wNl X = 3) : ∀ (n : Nat) (x1 : Int32) (x2 : Int32), wh2 (fLand_allDepths_L4 s) n x1 x2 = some r0 → WB G X 4 [(0, .ref (G.1 7)), (1, .int x1), (2, .int x2)] [] s := by
  intro n
  induction n with
  | zero => intro x1 x2 h; cases h
  | succ n hk4 =>
    intro x1 x2 h
    have h : fLand_allDepths_L4 s x1 x2 (wh2 (fLand_allDepths_L4 s) n) = some r0 := h
    unfold fLand_allDepths_L4 at h
    refine wb_iload_n 2 hX dX2_allDepths_4 rfl (pq := 5) rfl ?_
    refine wb_aload_n 0 hX dX2_allDepths_5 rfl (pq := 6) rfl ?_
    refine wb_getI hX fl_104 sh_7 rfl dX2_allDepths_6 (pq := 9) rfl ?_
    refine wb_icmp_ge (tgt := 27) hX dX2_allDepths_9 (by decide) (fun c_1 => ?_) (pq := 12) rfl (fun c_1 => ?_)
    · have h := ite_t c_1 h
      refine wb_iload_n 1 hX dX2_allDepths_27 rfl (pq := 28) rfl ?_
      exact wb_iretP hX hQ h dX2_allDepths_28
    · have h := ite_f c_1 h
      refine wb_iload_n 1 hX dX2_allDepths_12 rfl (pq := 13) rfl ?_
      refine wb_aload_n 0 hX dX2_allDepths_13 rfl (pq := 14) rfl ?_
      refine wb_getR hX fl_88 sh_7 rfl dX2_allDepths_14 (pq := 17) rfl ?_
      refine wb_iload_n 2 hX dX2_allDepths_17 rfl (pq := 18) rfl ?_
      obtain ⟨hi_2, h⟩ := chk_some h
      refine wb_iald hX sh_8 hi_2 dX2_allDepths_18 (pq := 19) rfl ?_
      refine wb_iadd hX dX2_allDepths_19 (pq := 20) rfl ?_
      refine wb_istore_n (loc' := [(1, .int (x1 + (s.1 8 x2.toNatClampNeg))), (0, .ref (G.1 7)), (2, .int x2)]) hX hN dX2_allDepths_20 (by decide) rfl (pq := 21) rfl ?_
      refine wb_iinc (v := (x2 + iI (1))) (loc' := [(2, .int (x2 + iI (1))), (1, .int (x1 + (s.1 8 x2.toNatClampNeg))), (0, .ref (G.1 7))]) 2 hX hN dX2_allDepths_21 rfl rfl (by decide) rfl (pq := 24) rfl ?_
      refine wb_goto (tgt := 4) hX dX2_allDepths_24 (by decide) ?_
      refine wb_sub [2, 1, 0] (loc' := [(0, .ref (G.1 7)), (1, .int (x1 + (s.1 8 x2.toNatClampNeg))), (2, .int (x2 + iI (1)))]) rfl ?_
      exact hk4 _ _ h
set_option maxHeartbeats 4000000 in
set_option maxRecDepth 100000 in
theorem tLand_allDepths {l : Launch} {G : wG} {s : wM} {r0 : Int32} (h : fLand_allDepths s = some r0) : wMet l G yX2_allDepths cX2_allDepths 3 (some .int) 0 [.ref (G.1 7)] s (wQi G r0 s) := by
  refine wMet_of (own := RX2) (by decide +kernel) rfl (Nat.le_of_ble_eq_true rfl) ?_
  intro X hX hQ hN hl
  show WB G X 0 [(0, .ref (G.1 7))] [] s
  unfold fLand_allDepths at h
  refine wb_iconst (v := iI (0)) hX dX2_allDepths_0 rfl (pq := 1) rfl ?_
  refine wb_istore_n (loc' := [(1, .int (iI (0))), (0, .ref (G.1 7))]) hX hN dX2_allDepths_1 (by decide) rfl (pq := 2) rfl ?_
  refine wb_iconst (v := iI (0)) hX dX2_allDepths_2 rfl (pq := 3) rfl ?_
  refine wb_istore_n (loc' := [(2, .int (iI (0))), (1, .int (iI (0))), (0, .ref (G.1 7))]) hX hN dX2_allDepths_3 (by decide) rfl (pq := 4) rfl ?_
  refine wb_sub [2, 1, 0] (loc' := [(0, .ref (G.1 7)), (1, .int (iI (0))), (2, .int (iI (0)))]) rfl ?_
  exact tLand_allDepths_L4 hX hQ hN 100000 _ _ h
set_option maxHeartbeats 4000000 in
set_option maxRecDepth 100000 in
theorem tLand_allPaid_L4 {G : wG} {X : wX} {s : wM} {r0 : Int32} (hX : wOK G X cX2_allPaid RX2 (some .int) 0) (hQ : wRt G X (wQi G r0 s)) (hN : wNl X = 3) : ∀ (n : Nat) (x1 : Int32) (x2 : Int32), wh2 (fLand_allPaid_L4 s) n x1 x2 = some r0 → WB G X 4 [(0, .ref (G.1 7)), (1, .int x1), (2, .int x2)] [] s := by
  intro n
  induction n with
  | zero => intro x1 x2 h; cases h
  | succ n hk4 =>
    intro x1 x2 h
    have h : fLand_allPaid_L4 s x1 x2 (wh2 (fLand_allPaid_L4 s) n) = some r0 := h
    unfold fLand_allPaid_L4 at h
    refine wb_iload_n 2 hX dX2_allPaid_4 rfl (pq := 5) rfl ?_
    refine wb_aload_n 0 hX dX2_allPaid_5 rfl (pq := 6) rfl ?_
    refine wb_getI hX fl_104 sh_7 rfl dX2_allPaid_6 (pq := 9) rfl ?_
    refine wb_icmp_ge (tgt := 27) hX dX2_allPaid_9 (by decide) (fun c_1 => ?_) (pq := 12) rfl (fun c_1 => ?_)
    · have h := ite_t c_1 h
      refine wb_iload_n 1 hX dX2_allPaid_27 rfl (pq := 28) rfl ?_
      exact wb_iretP hX hQ h dX2_allPaid_28
    · have h := ite_f c_1 h
      refine wb_iload_n 1 hX dX2_allPaid_12 rfl (pq := 13) rfl ?_
      refine wb_aload_n 0 hX dX2_allPaid_13 rfl (pq := 14) rfl ?_
      refine wb_getR hX fl_96 sh_7 rfl dX2_allPaid_14 (pq := 17) rfl ?_
      refine wb_iload_n 2 hX dX2_allPaid_17 rfl (pq := 18) rfl ?_
      obtain ⟨hi_2, h⟩ := chk_some h
      refine wb_iald hX sh_10 hi_2 dX2_allPaid_18 (pq := 19) rfl ?_
      refine wb_iadd hX dX2_allPaid_19 (pq := 20) rfl ?_
      refine wb_istore_n (loc' := [(1, .int (x1 + (s.1 10 x2.toNatClampNeg))), (0, .ref (G.1 7)), (2, .int x2)]) hX hN dX2_allPaid_20 (by decide) rfl (pq := 21) rfl ?_
      refine wb_iinc (v := (x2 + iI (1))) (loc' := [(2, .int (x2 + iI (1))), (1, .int (x1 + (s.1 10 x2.toNatClampNeg))), (0, .ref (G.1 7))]) 2 hX hN dX2_allPaid_21 rfl rfl (by decide) rfl (pq := 24) rfl ?_
      refine wb_goto (tgt := 4) hX dX2_allPaid_24 (by decide) ?_
      refine wb_sub [2, 1, 0] (loc' := [(0, .ref (G.1 7)), (1, .int (x1 + (s.1 10 x2.toNatClampNeg))), (2, .int (x2 + iI (1)))]) rfl ?_
      exact hk4 _ _ h
set_option maxHeartbeats 4000000 in
set_option maxRecDepth 100000 in
theorem tLand_allPaid {l : Launch} {G : wG} {s : wM} {r0 : Int32} (h : fLand_allPaid s = some r0) : wMet l G yX2_allPaid cX2_allPaid 3 (some .int) 0 [.ref (G.1 7)] s (wQi G r0 s) := by
  refine wMet_of (own := RX2) (by decide +kernel) rfl (Nat.le_of_ble_eq_true rfl) ?_
  intro X hX hQ hN hl
  show WB G X 0 [(0, .ref (G.1 7))] [] s
  unfold fLand_allPaid at h
  refine wb_iconst (v := iI (0)) hX dX2_allPaid_0 rfl (pq := 1) rfl ?_
  refine wb_istore_n (loc' := [(1, .int (iI (0))), (0, .ref (G.1 7))]) hX hN dX2_allPaid_1 (by decide) rfl (pq := 2) rfl ?_
  refine wb_iconst (v := iI (0)) hX dX2_allPaid_2 rfl (pq := 3) rfl ?_
  refine wb_istore_n (loc' := [(2, .int (iI (0))), (1, .int (iI (0))), (0, .ref (G.1 7))]) hX hN dX2_allPaid_3 (by decide) rfl (pq := 4) rfl ?_
  refine wb_sub [2, 1, 0] (loc' := [(0, .ref (G.1 7)), (1, .int (iI (0))), (2, .int (iI (0)))]) rfl ?_
  exact tLand_allPaid_L4 hX hQ hN 100000 _ _ h
set_option maxHeartbeats 4000000 in
set_option maxRecDepth 100000 in
theorem tNum_clear {l : Launch} {G : wG} {s : wM} {s1 : wM} (h : fNum_clear s = some s1) : wMet l G yX3_clear cX3_clear 1 none 0 [.ref (G.1 32)] s (wQv G s1) := by
  refine wMet_of (own := RX3) (by decide +kernel) rfl (Nat.le_of_ble_eq_true rfl) ?_
  intro X hX hQ hN hl
  show WB G X 0 [(0, .ref (G.1 32))] [] s
  unfold fNum_clear at h
  refine wb_aload_n 0 hX dX3_clear_0 rfl (pq := 1) rfl ?_
  refine wb_iconst (v := iI (0)) hX dX3_clear_1 rfl (pq := 2) rfl ?_
  refine wb_putI hX fp_261 sh_32 rfl dX3_clear_2 rfl rfl (pq := 5) rfl ?_
  refine wb_mem (fun s_1 es_1 => ?_)
  have h := nmM_s h s_1 es_1
  exact wb_vret hX hQ h dX3_clear_5
set_option maxHeartbeats 4000000 in
set_option maxRecDepth 100000 in
theorem tNum_add_J29 {G : wG} {X : wX} {s : wM} {s1 : wM} (hX : wOK G X cX3_add RX3 none 0) (hQ : wRt G X (wQv G s1)) (hN : wNl X = 2) (h : fNum_add_J29 s = some s1) : WB G X 29 [] [] s := by
  unfold fNum_add_J29 at h
  exact wb_vret hX hQ h dX3_add_29
set_option maxHeartbeats 4000000 in
set_option maxRecDepth 100000 in
theorem tNum_add {l : Launch} {G : wG} {s : wM} {x1 : Int32} {s1 : wM} (h : fNum_add s x1 = some s1) : wMet l G yX3_add cX3_add 2 none 0 [.ref (G.1 32), .int x1] s (wQv G s1) := by
  refine wMet_of (own := RX3) (by decide +kernel) rfl (Nat.le_of_ble_eq_true rfl) ?_
  intro X hX hQ hN hl
  show WB G X 0 [(0, .ref (G.1 32)), (1, .int x1)] [] s
  unfold fNum_add at h
  refine wb_aload_n 0 hX dX3_add_0 rfl (pq := 1) rfl ?_
  refine wb_getI hX fl_261 sh_32 rfl dX3_add_1 (pq := 4) rfl ?_
  refine wb_bipush (v := iI (10)) hX dX3_add_4 (by decide) (pq := 6) rfl ?_
  refine wb_icmp_ge (tgt := 29) hX dX3_add_6 (by decide) (fun c_1 => ?_) (pq := 9) rfl (fun c_1 => ?_)
  · have h := ite_t c_1 h
    refine wb_sub [] (loc' := []) rfl ?_
    exact tNum_add_J29 hX hQ hN h
  · have h := ite_f c_1 h
    refine wb_aload_n 0 hX dX3_add_9 rfl (pq := 10) rfl ?_
    refine wb_getR hX fl_259 sh_32 rfl dX3_add_10 (pq := 13) rfl ?_
    refine wb_aload_n 0 hX dX3_add_13 rfl (pq := 14) rfl ?_
    refine wb_getI hX fl_261 sh_32 rfl dX3_add_14 (pq := 17) rfl ?_
    refine wb_iload_n 1 hX dX3_add_17 rfl (pq := 18) rfl ?_
    obtain ⟨hi_2, h⟩ := chk_some h
    refine wb_iast hX sh_33 hi_2 dX3_add_18 (pq := 19) rfl ?_
    refine wb_mem (fun s_3 es_3 => ?_)
    have h := nmM_s h s_3 es_3
    refine wb_aload_n 0 hX dX3_add_19 rfl (pq := 20) rfl ?_
    refine wb_dup hX dX3_add_20 rfl (pq := 21) rfl ?_
    refine wb_getI hX fl_261 sh_32 rfl dX3_add_21 (pq := 24) rfl ?_
    refine wb_iconst (v := iI (1)) hX dX3_add_24 rfl (pq := 25) rfl ?_
    refine wb_iadd hX dX3_add_25 (pq := 26) rfl ?_
    refine wb_putI hX fp_261 sh_32 rfl dX3_add_26 rfl rfl (pq := 29) rfl ?_
    refine wb_mem (fun s_4 es_4 => ?_)
    have h := nmM_s h s_4 es_4
    refine wb_sub [] (loc' := []) rfl ?_
    exact tNum_add_J29 hX hQ hN h
set_option maxHeartbeats 4000000 in
set_option maxRecDepth 100000 in
theorem tNum_addAhead_L22 {G : wG} {X : wX} {x1 : Int32} {s1 : wM} (hX : wOK G X cX3_addAhead RX3 none 0) (hQ : wRt G X (wQv G s1)) (hN : wNl X = 3) : ∀ (n : Nat) (x2 : Int32) (s : wM), wh2 (fNum_addAhead_L22 x1) n x2 s = some s1 → WB G X 22 [(0, .ref (G.1 32)), (1, .int x1), (2, .int x2)] [] s := by
  intro n
  induction n with
  | zero => intro x2 s h; cases h
  | succ n hk22 =>
    intro x2 s h
    have h : fNum_addAhead_L22 x1 x2 s (wh2 (fNum_addAhead_L22 x1) n) = some s1 := h
    unfold fNum_addAhead_L22 at h
    refine wb_iload_n 2 hX dX3_addAhead_22 rfl (pq := 23) rfl ?_
    refine wb_if_le (tgt := 46) hX dX3_addAhead_23 (by decide) (fun c_1 => ?_) (pq := 26) rfl (fun c_1 => ?_)
    · have h := ite_t c_1 h
      refine wb_aload_n 0 hX dX3_addAhead_46 rfl (pq := 47) rfl ?_
      refine wb_getR hX fl_259 sh_32 rfl dX3_addAhead_47 (pq := 50) rfl ?_
      refine wb_iconst (v := iI (0)) hX dX3_addAhead_50 rfl (pq := 51) rfl ?_
      refine wb_iload_n 1 hX dX3_addAhead_51 rfl (pq := 52) rfl ?_
      refine wb_iast hX sh_33 (by unfold vp_in; decide) dX3_addAhead_52 (pq := 53) rfl ?_
      refine wb_mem (fun s_2 es_2 => ?_)
      have h := nmM_s h s_2 es_2
      exact wb_vret hX hQ h dX3_addAhead_53
    · have h := ite_f c_1 h
      refine wb_aload_n 0 hX dX3_addAhead_26 rfl (pq := 27) rfl ?_
      refine wb_getR hX fl_259 sh_32 rfl dX3_addAhead_27 (pq := 30) rfl ?_
      refine wb_iload_n 2 hX dX3_addAhead_30 rfl (pq := 31) rfl ?_
      refine wb_aload_n 0 hX dX3_addAhead_31 rfl (pq := 32) rfl ?_
      refine wb_getR hX fl_259 sh_32 rfl dX3_addAhead_32 (pq := 35) rfl ?_
      refine wb_iload_n 2 hX dX3_addAhead_35 rfl (pq := 36) rfl ?_
      refine wb_iconst (v := iI (1)) hX dX3_addAhead_36 rfl (pq := 37) rfl ?_
      refine wb_isub hX dX3_addAhead_37 (pq := 38) rfl ?_
      obtain ⟨hi_3, h⟩ := chk_some h
      refine wb_iald hX sh_33 hi_3 dX3_addAhead_38 (pq := 39) rfl ?_
      obtain ⟨hi_4, h⟩ := chk_some h
      refine wb_iast hX sh_33 hi_4 dX3_addAhead_39 (pq := 40) rfl ?_
      refine wb_mem (fun s_5 es_5 => ?_)
      have h := nmM_s h s_5 es_5
      refine wb_iinc (v := (x2 + iI (-1))) (loc' := [(2, .int (x2 + iI (-1))), (0, .ref (G.1 32)), (1, .int x1)]) 2 hX hN dX3_addAhead_40 rfl rfl (by decide) rfl (pq := 43) rfl ?_
      refine wb_goto (tgt := 22) hX dX3_addAhead_43 (by decide) ?_
      refine wb_sub [1, 2, 0] (loc' := [(0, .ref (G.1 32)), (1, .int x1), (2, .int (x2 + iI (-1)))]) rfl ?_
      exact hk22 _ _ h
set_option maxHeartbeats 4000000 in
set_option maxRecDepth 100000 in
theorem tNum_addAhead {l : Launch} {G : wG} {s : wM} {x1 : Int32} {s1 : wM} (h : fNum_addAhead s x1 = some s1) : wMet l G yX3_addAhead cX3_addAhead 3 none 0 [.ref (G.1 32), .int x1] s (wQv G s1) := by
  refine wMet_of (own := RX3) (by decide +kernel) rfl (Nat.le_of_ble_eq_true rfl) ?_
  intro X hX hQ hN hl
  show WB G X 0 [(0, .ref (G.1 32)), (1, .int x1)] [] s
  unfold fNum_addAhead at h
  refine wb_aload_n 0 hX dX3_addAhead_0 rfl (pq := 1) rfl ?_
  refine wb_bipush (v := iI (10)) hX dX3_addAhead_1 (by decide) (pq := 3) rfl ?_
  refine wb_aload_n 0 hX dX3_addAhead_3 rfl (pq := 4) rfl ?_
  refine wb_getI hX fl_261 sh_32 rfl dX3_addAhead_4 (pq := 7) rfl ?_
  refine wb_iconst (v := iI (1)) hX dX3_addAhead_7 rfl (pq := 8) rfl ?_
  refine wb_iadd hX dX3_addAhead_8 (pq := 9) rfl ?_
  refine wb_mmin hX k_716 k_394 k_14 k_395 (Nat.le_of_ble_eq_true rfl) dX3_addAhead_9 (pq := 12) rfl ?_
  refine wb_putI hX fp_261 sh_32 rfl dX3_addAhead_12 rfl rfl (pq := 15) rfl ?_
  refine wb_mem (fun s_1 es_1 => ?_)
  have h := nmM_s h s_1 es_1
  refine wb_aload_n 0 hX dX3_addAhead_15 rfl (pq := 16) rfl ?_
  refine wb_getI hX fl_261 sh_32 rfl dX3_addAhead_16 (pq := 19) rfl ?_
  refine wb_iconst (v := iI (1)) hX dX3_addAhead_19 rfl (pq := 20) rfl ?_
  refine wb_isub hX dX3_addAhead_20 (pq := 21) rfl ?_
  refine wb_istore_n (loc' := [(2, .int ((s_1.1 32 1) - (iI (1)))), (0, .ref (G.1 32)), (1, .int x1)]) hX hN dX3_addAhead_21 (by decide) rfl (pq := 22) rfl ?_
  refine wb_sub [1, 2, 0] (loc' := [(0, .ref (G.1 32)), (1, .int x1), (2, .int ((s_1.1 32 1) - (iI (1))))]) rfl ?_
  exact tNum_addAhead_L22 hX hQ hN 100000 _ _ h
set_option maxHeartbeats 4000000 in
set_option maxRecDepth 100000 in
theorem tNum_tell {l : Launch} {G : wG} {s : wM} {x1 : Int32} {s1 : wM} (h : fNum_tell s x1 = some s1) : wMet l G yX3_tell cX3_tell 2 none 1 [.ref (G.1 32), .int x1] s (wQv G s1) := by
  refine wMet_of (own := RX3) (by decide +kernel) rfl (Nat.le_of_ble_eq_true rfl) ?_
  intro X hX hQ hN hl
  show WB G X 0 [(0, .ref (G.1 32)), (1, .int x1)] [] s
  unfold fNum_tell at h
  refine wb_aload_n 0 hX dX3_tell_0 rfl (pq := 1) rfl ?_
  obtain ⟨q_2, hc_1, h⟩ := bind_s h
  refine wb_callVv (s1 := q_2) [] hX sh_32 ml_543 (tNum_clear hc_1) (by decide) rfl rfl (Nat.le_of_ble_eq_true rfl) dX3_tell_1 (pq := 4) rfl ?_
  refine wb_aload_n 0 hX dX3_tell_4 rfl (pq := 5) rfl ?_
  refine wb_iload_n 1 hX dX3_tell_5 rfl (pq := 6) rfl ?_
  obtain ⟨q_4, hc_3, h⟩ := bind_s h
  refine wb_callVv (s1 := q_4) [.int x1] hX sh_32 ml_547 (tNum_add hc_3) (by decide) rfl rfl (Nat.le_of_ble_eq_true rfl) dX3_tell_6 (pq := 9) rfl ?_
  exact wb_vret hX hQ h dX3_tell_9
set_option maxHeartbeats 4000000 in
set_option maxRecDepth 100000 in
theorem tPa_clear {l : Launch} {G : wG} {s : wM} {s1 : wM} (h : fPa_clear s = some s1) : wMet l G yX4_clear cX4_clear 1 none 0 [.ref (G.1 34)] s (wQv G s1) := by
  refine wMet_of (own := RX4) (by decide +kernel) rfl (Nat.le_of_ble_eq_true rfl) ?_
  intro X hX hQ hN hl
  show WB G X 0 [(0, .ref (G.1 34))] [] s
  unfold fPa_clear at h
  refine wb_aload_n 0 hX dX4_clear_0 rfl (pq := 1) rfl ?_
  refine wb_iconst (v := iI (0)) hX dX4_clear_1 rfl (pq := 2) rfl ?_
  refine wb_putI hX fp_301 sh_34 rfl dX4_clear_2 rfl rfl (pq := 5) rfl ?_
  refine wb_mem (fun s_1 es_1 => ?_)
  have h := nmM_s h s_1 es_1
  exact wb_vret hX hQ h dX4_clear_5
set_option maxHeartbeats 4000000 in
set_option maxRecDepth 100000 in
theorem tSn_take {l : Launch} {G : wG} {s : wM} {x0 : Nat} {s1 : wM} (hx0 : wSnap x0) (h : fSn_take s x0 = some s1) : wMet l G yX8_take cX8_take 2 none 0 [.ref (G.1 x0), .ref (G.1 7)] s (wQv G s1) := by
  refine wMet_of (own := RX8) (by decide +kernel) rfl (Nat.le_of_ble_eq_true rfl) ?_
  intro X hX hQ hN hl
  show WB G X 0 [(0, .ref (G.1 x0)), (1, .ref (G.1 7))] [] s
  unfold fSn_take at h
  refine wb_aload_n 1 hX dX8_take_0 rfl (pq := 1) rfl ?_
  refine wb_getR hX fl_89 sh_7 rfl dX8_take_1 (pq := 4) rfl ?_
  refine wb_iconst (v := iI (0)) hX dX8_take_4 rfl (pq := 5) rfl ?_
  refine wb_aload_n 0 hX dX8_take_5 rfl (pq := 6) rfl ?_
  refine wb_getR hX fl_281 hx0.1 rfl dX8_take_6 (pq := 9) rfl ?_
  refine wb_iconst (v := iI (0)) hX dX8_take_9 rfl (pq := 10) rfl ?_
  refine wb_bipush (v := iI (9)) hX dX8_take_10 (by decide) (pq := 12) rfl ?_
  obtain ⟨hc_1, h⟩ := chkC_some h
  refine wb_copy hX k_515 k_517 k_516 k_19 sh_8 hx0.2.1 hc_1 (Nat.le_of_ble_eq_true rfl) dX8_take_12 (pq := 15) rfl ?_
  refine wb_mem (fun s_2 es_2 => ?_)
  have h := nmM_s h s_2 es_2
  refine wb_aload_n 1 hX dX8_take_15 rfl (pq := 16) rfl ?_
  refine wb_getR hX fl_93 sh_7 rfl dX8_take_16 (pq := 19) rfl ?_
  refine wb_iconst (v := iI (0)) hX dX8_take_19 rfl (pq := 20) rfl ?_
  refine wb_aload_n 0 hX dX8_take_20 rfl (pq := 21) rfl ?_
  refine wb_getR hX fl_282 hx0.1 rfl dX8_take_21 (pq := 24) rfl ?_
  refine wb_iconst (v := iI (0)) hX dX8_take_24 rfl (pq := 25) rfl ?_
  refine wb_bipush (v := iI (9)) hX dX8_take_25 (by decide) (pq := 27) rfl ?_
  obtain ⟨hc_3, h⟩ := chkC_some h
  refine wb_copy hX k_515 k_517 k_516 k_19 sh_9 hx0.2.2.1 hc_3 (Nat.le_of_ble_eq_true rfl) dX8_take_27 (pq := 30) rfl ?_
  refine wb_mem (fun s_4 es_4 => ?_)
  have h := nmM_s h s_4 es_4
  refine wb_aload_n 1 hX dX8_take_30 rfl (pq := 31) rfl ?_
  refine wb_getR hX fl_97 sh_7 rfl dX8_take_31 (pq := 34) rfl ?_
  refine wb_iconst (v := iI (0)) hX dX8_take_34 rfl (pq := 35) rfl ?_
  refine wb_aload_n 0 hX dX8_take_35 rfl (pq := 36) rfl ?_
  refine wb_getR hX fl_283 hx0.1 rfl dX8_take_36 (pq := 39) rfl ?_
  refine wb_iconst (v := iI (0)) hX dX8_take_39 rfl (pq := 40) rfl ?_
  refine wb_bipush (v := iI (9)) hX dX8_take_40 (by decide) (pq := 42) rfl ?_
  obtain ⟨hc_5, h⟩ := chkC_some h
  refine wb_copy hX k_515 k_517 k_516 k_19 sh_10 hx0.2.2.2.1 hc_5 (Nat.le_of_ble_eq_true rfl) dX8_take_42 (pq := 45) rfl ?_
  refine wb_mem (fun s_6 es_6 => ?_)
  have h := nmM_s h s_6 es_6
  refine wb_aload_n 1 hX dX8_take_45 rfl (pq := 46) rfl ?_
  refine wb_getR hX fl_102 sh_7 rfl dX8_take_46 (pq := 49) rfl ?_
  refine wb_iconst (v := iI (0)) hX dX8_take_49 rfl (pq := 50) rfl ?_
  refine wb_aload_n 0 hX dX8_take_50 rfl (pq := 51) rfl ?_
  refine wb_getR hX fl_284 hx0.1 rfl dX8_take_51 (pq := 54) rfl ?_
  refine wb_iconst (v := iI (0)) hX dX8_take_54 rfl (pq := 55) rfl ?_
  refine wb_iconst (v := iI (3)) hX dX8_take_55 rfl (pq := 56) rfl ?_
  obtain ⟨hc_7, h⟩ := chkC_some h
  refine wb_copy hX k_515 k_517 k_516 k_19 sh_11 hx0.2.2.2.2 hc_7 (Nat.le_of_ble_eq_true rfl) dX8_take_56 (pq := 59) rfl ?_
  refine wb_mem (fun s_8 es_8 => ?_)
  have h := nmM_s h s_8 es_8
  refine wb_aload_n 0 hX dX8_take_59 rfl (pq := 60) rfl ?_
  refine wb_aload_n 1 hX dX8_take_60 rfl (pq := 61) rfl ?_
  refine wb_getI hX fl_111 sh_7 rfl dX8_take_61 (pq := 64) rfl ?_
  refine wb_putI hX fp_285 hx0.1 rfl dX8_take_64 rfl rfl (pq := 67) rfl ?_
  refine wb_mem (fun s_9 es_9 => ?_)
  have h := nmM_s h s_9 es_9
  refine wb_aload_n 0 hX dX8_take_67 rfl (pq := 68) rfl ?_
  refine wb_aload_n 1 hX dX8_take_68 rfl (pq := 69) rfl ?_
  refine wb_getI hX fl_107 sh_7 rfl dX8_take_69 (pq := 72) rfl ?_
  refine wb_putI hX fp_286 hx0.1 rfl dX8_take_72 rfl rfl (pq := 75) rfl ?_
  refine wb_mem (fun s_10 es_10 => ?_)
  have h := nmM_s h s_10 es_10
  exact wb_vret hX hQ h dX8_take_75
set_option maxHeartbeats 4000000 in
set_option maxRecDepth 100000 in
theorem tPa_note {l : Launch} {G : wG} {s : wM} {s1 : wM} (h : fPa_note s = some s1) : wMet l G yX4_note cX4_note 2 none 1 [.ref (G.1 34), .ref (G.1 7)] s (wQv G s1) := by
  refine wMet_of (own := RX4) (by decide +kernel) rfl (Nat.le_of_ble_eq_true rfl) ?_
  intro X hX hQ hN hl
  show WB G X 0 [(0, .ref (G.1 34)), (1, .ref (G.1 7))] [] s
  unfold fPa_note at h
  refine wb_aload_n 0 hX dX4_note_0 rfl (pq := 1) rfl ?_
  refine wb_getR hX fl_303 sh_34 rfl dX4_note_1 (pq := 4) rfl ?_
  refine wb_aload_n 0 hX dX4_note_4 rfl (pq := 5) rfl ?_
  refine wb_getI hX fl_304 sh_34 rfl dX4_note_5 (pq := 8) rfl ?_
  obtain ⟨hi_1, h⟩ := chk_some h
  refine wb_aald hX sh_35 hi_1 dX4_note_8 (pq := 9) rfl ?_
  refine wb_aload_n 1 hX dX4_note_9 rfl (pq := 10) rfl ?_
  obtain ⟨q_3, hc_2, h⟩ := bind_s h
  refine wb_callVv (s1 := q_3) [.ref (G.1 7)] hX (wSnap_ring hi_1).1 ml_511 (tSn_take (wSnap_ring hi_1) hc_2) (by decide) rfl rfl (Nat.le_of_ble_eq_true rfl) dX4_note_10 (pq := 13) rfl ?_
  exact wb_vret hX hQ h dX4_note_13
set_option maxHeartbeats 4000000 in
set_option maxRecDepth 100000 in
theorem tPa_keepNoted {l : Launch} {G : wG} {s : wM} {s1 : wM} (h : fPa_keepNoted s = some s1) : wMet l G yX4_keepNoted cX4_keepNoted 1 none 0 [.ref (G.1 34)] s (wQv G s1) := by
  refine wMet_of (own := RX4) (by decide +kernel) rfl (Nat.le_of_ble_eq_true rfl) ?_
  intro X hX hQ hN hl
  show WB G X 0 [(0, .ref (G.1 34))] [] s
  unfold fPa_keepNoted at h
  refine wb_aload_n 0 hX dX4_keepNoted_0 rfl (pq := 1) rfl ?_
  refine wb_aload_n 0 hX dX4_keepNoted_1 rfl (pq := 2) rfl ?_
  refine wb_getI hX fl_304 sh_34 rfl dX4_keepNoted_2 (pq := 5) rfl ?_
  refine wb_iconst (v := iI (1)) hX dX4_keepNoted_5 rfl (pq := 6) rfl ?_
  refine wb_iadd hX dX4_keepNoted_6 (pq := 7) rfl ?_
  refine wb_bipush (v := iI (21)) hX dX4_keepNoted_7 (by decide) (pq := 9) rfl ?_
  refine wb_irem hX dX4_keepNoted_9 (by decide) (pq := 10) rfl ?_
  refine wb_putI hX fp_304 sh_34 rfl dX4_keepNoted_10 rfl rfl (pq := 13) rfl ?_
  refine wb_mem (fun s_1 es_1 => ?_)
  have h := nmM_s h s_1 es_1
  refine wb_aload_n 0 hX dX4_keepNoted_13 rfl (pq := 14) rfl ?_
  refine wb_bipush (v := iI (20)) hX dX4_keepNoted_14 (by decide) (pq := 16) rfl ?_
  refine wb_aload_n 0 hX dX4_keepNoted_16 rfl (pq := 17) rfl ?_
  refine wb_getI hX fl_301 sh_34 rfl dX4_keepNoted_17 (pq := 20) rfl ?_
  refine wb_iconst (v := iI (1)) hX dX4_keepNoted_20 rfl (pq := 21) rfl ?_
  refine wb_iadd hX dX4_keepNoted_21 (pq := 22) rfl ?_
  refine wb_mmin hX k_522 k_394 k_14 k_395 (Nat.le_of_ble_eq_true rfl) dX4_keepNoted_22 (pq := 25) rfl ?_
  refine wb_putI hX fp_301 sh_34 rfl dX4_keepNoted_25 rfl rfl (pq := 28) rfl ?_
  refine wb_mem (fun s_2 es_2 => ?_)
  have h := nmM_s h s_2 es_2
  exact wb_vret hX hQ h dX4_keepNoted_28
set_option maxHeartbeats 4000000 in
set_option maxRecDepth 100000 in
theorem tSn_giveWeeks {l : Launch} {G : wG} {s : wM} {x0 : Nat} {s1 : wM} (hx0 : wSnap x0) (h : fSn_giveWeeks s x0 = some s1) : wMet l G yX8_giveWeeks cX8_giveWeeks 2 none 0 [.ref (G.1 x0), .ref (G.1 7)] s (wQv G s1) := by
  refine wMet_of (own := RX8) (by decide +kernel) rfl (Nat.le_of_ble_eq_true rfl) ?_
  intro X hX hQ hN hl
  show WB G X 0 [(0, .ref (G.1 x0)), (1, .ref (G.1 7))] [] s
  unfold fSn_giveWeeks at h
  refine wb_aload_n 0 hX dX8_giveWeeks_0 rfl (pq := 1) rfl ?_
  refine wb_getR hX fl_281 hx0.1 rfl dX8_giveWeeks_1 (pq := 4) rfl ?_
  refine wb_iconst (v := iI (0)) hX dX8_giveWeeks_4 rfl (pq := 5) rfl ?_
  refine wb_aload_n 1 hX dX8_giveWeeks_5 rfl (pq := 6) rfl ?_
  refine wb_getR hX fl_89 sh_7 rfl dX8_giveWeeks_6 (pq := 9) rfl ?_
  refine wb_iconst (v := iI (0)) hX dX8_giveWeeks_9 rfl (pq := 10) rfl ?_
  refine wb_bipush (v := iI (9)) hX dX8_giveWeeks_10 (by decide) (pq := 12) rfl ?_
  obtain ⟨hc_1, h⟩ := chkC_some h
  refine wb_copy hX k_515 k_517 k_516 k_19 hx0.2.1 sh_8 hc_1 (Nat.le_of_ble_eq_true rfl) dX8_giveWeeks_12 (pq := 15) rfl ?_
  refine wb_mem (fun s_2 es_2 => ?_)
  have h := nmM_s h s_2 es_2
  refine wb_aload_n 0 hX dX8_giveWeeks_15 rfl (pq := 16) rfl ?_
  refine wb_getR hX fl_283 hx0.1 rfl dX8_giveWeeks_16 (pq := 19) rfl ?_
  refine wb_iconst (v := iI (0)) hX dX8_giveWeeks_19 rfl (pq := 20) rfl ?_
  refine wb_aload_n 1 hX dX8_giveWeeks_20 rfl (pq := 21) rfl ?_
  refine wb_getR hX fl_97 sh_7 rfl dX8_giveWeeks_21 (pq := 24) rfl ?_
  refine wb_iconst (v := iI (0)) hX dX8_giveWeeks_24 rfl (pq := 25) rfl ?_
  refine wb_bipush (v := iI (9)) hX dX8_giveWeeks_25 (by decide) (pq := 27) rfl ?_
  obtain ⟨hc_3, h⟩ := chkC_some h
  refine wb_copy hX k_515 k_517 k_516 k_19 hx0.2.2.2.1 sh_10 hc_3 (Nat.le_of_ble_eq_true rfl) dX8_giveWeeks_27 (pq := 30) rfl ?_
  refine wb_mem (fun s_4 es_4 => ?_)
  have h := nmM_s h s_4 es_4
  refine wb_aload_n 1 hX dX8_giveWeeks_30 rfl (pq := 31) rfl ?_
  refine wb_aload_n 0 hX dX8_giveWeeks_31 rfl (pq := 32) rfl ?_
  refine wb_getI hX fl_285 hx0.1 rfl dX8_giveWeeks_32 (pq := 35) rfl ?_
  refine wb_putI hX fp_111 sh_7 rfl dX8_giveWeeks_35 rfl rfl (pq := 38) rfl ?_
  refine wb_mem (fun s_5 es_5 => ?_)
  have h := nmM_s h s_5 es_5
  exact wb_vret hX hQ h dX8_giveWeeks_38
set_option maxHeartbeats 4000000 in
set_option maxRecDepth 100000 in
theorem tPa_goBack {l : Launch} {G : wG} {s : wM} {s1 : wM} (h : fPa_goBack s = some s1) : wMet l G yX4_goBack cX4_goBack 2 none 1 [.ref (G.1 34), .ref (G.1 7)] s (wQv G s1) := by
  refine wMet_of (own := RX4) (by decide +kernel) rfl (Nat.le_of_ble_eq_true rfl) ?_
  intro X hX hQ hN hl
  show WB G X 0 [(0, .ref (G.1 34)), (1, .ref (G.1 7))] [] s
  unfold fPa_goBack at h
  refine wb_aload_n 0 hX dX4_goBack_0 rfl (pq := 1) rfl ?_
  refine wb_aload_n 0 hX dX4_goBack_1 rfl (pq := 2) rfl ?_
  refine wb_getI hX fl_304 sh_34 rfl dX4_goBack_2 (pq := 5) rfl ?_
  refine wb_bipush (v := iI (21)) hX dX4_goBack_5 (by decide) (pq := 7) rfl ?_
  refine wb_iadd hX dX4_goBack_7 (pq := 8) rfl ?_
  refine wb_iconst (v := iI (1)) hX dX4_goBack_8 rfl (pq := 9) rfl ?_
  refine wb_isub hX dX4_goBack_9 (pq := 10) rfl ?_
  refine wb_bipush (v := iI (21)) hX dX4_goBack_10 (by decide) (pq := 12) rfl ?_
  refine wb_irem hX dX4_goBack_12 (by decide) (pq := 13) rfl ?_
  refine wb_putI hX fp_304 sh_34 rfl dX4_goBack_13 rfl rfl (pq := 16) rfl ?_
  refine wb_mem (fun s_1 es_1 => ?_)
  have h := nmM_s h s_1 es_1
  refine wb_aload_n 0 hX dX4_goBack_16 rfl (pq := 17) rfl ?_
  refine wb_dup hX dX4_goBack_17 rfl (pq := 18) rfl ?_
  refine wb_getI hX fl_301 sh_34 rfl dX4_goBack_18 (pq := 21) rfl ?_
  refine wb_iconst (v := iI (1)) hX dX4_goBack_21 rfl (pq := 22) rfl ?_
  refine wb_isub hX dX4_goBack_22 (pq := 23) rfl ?_
  refine wb_putI hX fp_301 sh_34 rfl dX4_goBack_23 rfl rfl (pq := 26) rfl ?_
  refine wb_mem (fun s_2 es_2 => ?_)
  have h := nmM_s h s_2 es_2
  refine wb_aload_n 0 hX dX4_goBack_26 rfl (pq := 27) rfl ?_
  refine wb_getR hX fl_303 sh_34 rfl dX4_goBack_27 (pq := 30) rfl ?_
  refine wb_aload_n 0 hX dX4_goBack_30 rfl (pq := 31) rfl ?_
  refine wb_getI hX fl_304 sh_34 rfl dX4_goBack_31 (pq := 34) rfl ?_
  obtain ⟨hi_3, h⟩ := chk_some h
  refine wb_aald hX sh_35 hi_3 dX4_goBack_34 (pq := 35) rfl ?_
  refine wb_aload_n 1 hX dX4_goBack_35 rfl (pq := 36) rfl ?_
  obtain ⟨q_5, hc_4, h⟩ := bind_s h
  refine wb_callVv (s1 := q_5) [.ref (G.1 7)] hX (wSnap_ring hi_3).1 ml_621 (tSn_giveWeeks (wSnap_ring hi_3) hc_4) (by decide) rfl rfl (Nat.le_of_ble_eq_true rfl) dX4_goBack_36 (pq := 39) rfl ?_
  exact wb_vret hX hQ h dX4_goBack_39
set_option maxHeartbeats 4000000 in
set_option maxRecDepth 100000 in
theorem tRd_isDigit_J17 {G : wG} {X : wX} {v0 : Int32} {s : wM} {r0 : Int32} (hX : wOK G X cX5_isDigit RX5 (some .boolean) 0) (hQ : wRt G X (wQi G r0 s)) (hN : wNl X = 1) (h : fRd_isDigit_J17 v0 s = some r0) : WB G X 17 [] [.int v0] s := by
  unfold fRd_isDigit_J17 at h
  obtain ⟨hz_1, h⟩ := chkZ_some h
  exact wb_zretP hX hQ h hz_1.1 dX5_isDigit_17
set_option maxHeartbeats 4000000 in
set_option maxRecDepth 100000 in
theorem tRd_isDigit_J16 {G : wG} {X : wX} {s : wM} {r0 : Int32} (hX : wOK G X cX5_isDigit RX5 (some .boolean) 0) (hQ : wRt G X (wQi G r0 s)) (hN : wNl X = 1) (h : fRd_isDigit_J16 s = some r0) : WB G X 16 [] [] s := by
  unfold fRd_isDigit_J16 at h
  refine wb_iconst (v := iI (0)) hX dX5_isDigit_16 rfl (pq := 17) rfl ?_
  exact tRd_isDigit_J17 hX hQ hN h
set_option maxHeartbeats 4000000 in
set_option maxRecDepth 100000 in
theorem tRd_isDigit {l : Launch} {G : wG} {s : wM} {x0 : Int32} {r0 : Int32} (h : fRd_isDigit s x0 = some r0) : wMet l G yX5_isDigit cX5_isDigit 1 (some .boolean) 0 [.int x0] s (wQi G r0 s) := by
  refine wMet_of (own := RX5) (by decide +kernel) rfl (Nat.le_of_ble_eq_true rfl) ?_
  intro X hX hQ hN hl
  show WB G X 0 [(0, .int x0)] [] s
  unfold fRd_isDigit at h
  refine wb_iload_n 0 hX dX5_isDigit_0 rfl (pq := 1) rfl ?_
  refine wb_bipush (v := iI (48)) hX dX5_isDigit_1 (by decide) (pq := 3) rfl ?_
  refine wb_icmp_lt (tgt := 16) hX dX5_isDigit_3 (by decide) (fun c_1 => ?_) (pq := 6) rfl (fun c_1 => ?_)
  · have h := ite_t c_1 h
    refine wb_sub [] (loc' := []) rfl ?_
    exact tRd_isDigit_J16 hX hQ hN h
  · have h := ite_f c_1 h
    refine wb_iload_n 0 hX dX5_isDigit_6 rfl (pq := 7) rfl ?_
    refine wb_bipush (v := iI (57)) hX dX5_isDigit_7 (by decide) (pq := 9) rfl ?_
    refine wb_icmp_gt (tgt := 16) hX dX5_isDigit_9 (by decide) (fun c_2 => ?_) (pq := 12) rfl (fun c_2 => ?_)
    · have h := ite_t c_2 h
      refine wb_sub [] (loc' := []) rfl ?_
      exact tRd_isDigit_J16 hX hQ hN h
    · have h := ite_f c_2 h
      refine wb_iconst (v := iI (1)) hX dX5_isDigit_12 rfl (pq := 13) rfl ?_
      refine wb_goto (tgt := 17) hX dX5_isDigit_13 (by decide) ?_
      refine wb_sub [] (loc' := []) rfl ?_
      exact tRd_isDigit_J17 hX hQ hN h
set_option maxHeartbeats 4000000 in
set_option maxRecDepth 100000 in
theorem tRd_beginLine {l : Launch} {G : wG} {s : wM} {x1 : Int32} {x2 : Int32} {x3 : Int32} {x4 : Int32} {r0 : Int32} {s1 : wM} (h : fRd_beginLine s x1 x2 x3 x4 = some (r0, s1)) : wMet l G yX5_beginLine cX5_beginLine 5 (some .boolean) 0 [.ref (G.1 3), .int x1, .int x2, .int x3, .int x4] s (wQi G r0 s1) := by
  refine wMet_of (own := RX5) (by decide +kernel) rfl (Nat.le_of_ble_eq_true rfl) ?_
  intro X hX hQ hN hl
  show WB G X 0 [(0, .ref (G.1 3)), (1, .int x1), (2, .int x2), (3, .int x3), (4, .int x4)] [] s
  unfold fRd_beginLine at h
  refine wb_aload_n 0 hX dX5_beginLine_0 rfl (pq := 1) rfl ?_
  refine wb_getI hX fl_58 sh_3 rfl dX5_beginLine_1 (pq := 4) rfl ?_
  refine wb_bipush (v := iI (40)) hX dX5_beginLine_4 (by decide) (pq := 6) rfl ?_
  refine wb_icmp_ne (tgt := 11) hX dX5_beginLine_6 (by decide) (pq := 9) rfl (fun c_1 => ?_) (fun c_1 => ?_)
  · have h := ite_t c_1 h
    refine wb_iconst (v := iI (0)) hX dX5_beginLine_9 rfl (pq := 10) rfl ?_
    exact wb_zret hX hQ h nar01.1.1 dX5_beginLine_10
  · have h := ite_f c_1 h
    refine wb_aload_n 0 hX dX5_beginLine_11 rfl (pq := 12) rfl ?_
    refine wb_getR hX fl_52 sh_3 rfl dX5_beginLine_12 (pq := 15) rfl ?_
    refine wb_aload_n 0 hX dX5_beginLine_15 rfl (pq := 16) rfl ?_
    refine wb_getI hX fl_58 sh_3 rfl dX5_beginLine_16 (pq := 19) rfl ?_
    refine wb_iload_n 1 hX dX5_beginLine_19 rfl (pq := 20) rfl ?_
    obtain ⟨hi_2, h⟩ := chk_some h
    refine wb_iast hX sh_4 hi_2 dX5_beginLine_20 (pq := 21) rfl ?_
    refine wb_mem (fun s_3 es_3 => ?_)
    have h := nmM_s h s_3 es_3
    refine wb_aload_n 0 hX dX5_beginLine_21 rfl (pq := 22) rfl ?_
    refine wb_getR hX fl_54 sh_3 rfl dX5_beginLine_22 (pq := 25) rfl ?_
    refine wb_aload_n 0 hX dX5_beginLine_25 rfl (pq := 26) rfl ?_
    refine wb_getI hX fl_58 sh_3 rfl dX5_beginLine_26 (pq := 29) rfl ?_
    refine wb_iload_n 2 hX dX5_beginLine_29 rfl (pq := 30) rfl ?_
    obtain ⟨hi_4, h⟩ := chk_some h
    refine wb_iast hX sh_5 hi_4 dX5_beginLine_30 (pq := 31) rfl ?_
    refine wb_mem (fun s_5 es_5 => ?_)
    have h := nmM_s h s_5 es_5
    refine wb_aload_n 0 hX dX5_beginLine_31 rfl (pq := 32) rfl ?_
    refine wb_getR hX fl_56 sh_3 rfl dX5_beginLine_32 (pq := 35) rfl ?_
    refine wb_aload_n 0 hX dX5_beginLine_35 rfl (pq := 36) rfl ?_
    refine wb_getI hX fl_58 sh_3 rfl dX5_beginLine_36 (pq := 39) rfl ?_
    refine wb_iload_n 3 hX dX5_beginLine_39 rfl (pq := 40) rfl ?_
    obtain ⟨hi_6, h⟩ := chk_some h
    refine wb_iast hX sh_6 hi_6 dX5_beginLine_40 (pq := 41) rfl ?_
    refine wb_mem (fun s_7 es_7 => ?_)
    have h := nmM_s h s_7 es_7
    refine wb_aload_n 0 hX dX5_beginLine_41 rfl (pq := 42) rfl ?_
    refine wb_dup hX dX5_beginLine_42 rfl (pq := 43) rfl ?_
    refine wb_getI hX fl_58 sh_3 rfl dX5_beginLine_43 (pq := 46) rfl ?_
    refine wb_iconst (v := iI (1)) hX dX5_beginLine_46 rfl (pq := 47) rfl ?_
    refine wb_iadd hX dX5_beginLine_47 (pq := 48) rfl ?_
    refine wb_putI hX fp_58 sh_3 rfl dX5_beginLine_48 rfl rfl (pq := 51) rfl ?_
    refine wb_mem (fun s_8 es_8 => ?_)
    have h := nmM_s h s_8 es_8
    refine wb_aload_n 0 hX dX5_beginLine_51 rfl (pq := 52) rfl ?_
    refine wb_iload 4 hX dX5_beginLine_52 rfl (pq := 54) rfl ?_
    refine wb_putI hX fp_62 sh_3 rfl dX5_beginLine_54 rfl rfl (pq := 57) rfl ?_
    refine wb_mem (fun s_9 es_9 => ?_)
    have h := nmM_s h s_9 es_9
    refine wb_iconst (v := iI (1)) hX dX5_beginLine_57 rfl (pq := 58) rfl ?_
    exact wb_zret hX hQ h nar01.2.1 dX5_beginLine_58
set_option maxHeartbeats 4000000 in
set_option maxRecDepth 100000 in
theorem tRd_beginFarm {l : Launch} {G : wG} {s : wM} {x1 : Int32} {r0 : Int32} {s1 : wM} (h : fRd_beginFarm s x1 = some (r0, s1)) : wMet l G yX5_beginFarm cX5_beginFarm 2 (some .boolean) 1 [.ref (G.1 3), .int x1] s (wQi G r0 s1) := by
  refine wMet_of (own := RX5) (by decide +kernel) rfl (Nat.le_of_ble_eq_true rfl) ?_
  intro X hX hQ hN hl
  show WB G X 0 [(0, .ref (G.1 3)), (1, .int x1)] [] s
  unfold fRd_beginFarm at h
  refine wb_aload_n 0 hX dX5_beginFarm_0 rfl (pq := 1) rfl ?_
  refine wb_getI hX fl_60 sh_3 rfl dX5_beginFarm_1 (pq := 4) rfl ?_
  refine wb_bipush (v := iI (9)) hX dX5_beginFarm_4 (by decide) (pq := 6) rfl ?_
  refine wb_icmp_ne (tgt := 11) hX dX5_beginFarm_6 (by decide) (pq := 9) rfl (fun c_1 => ?_) (fun c_1 => ?_)
  · have h := ite_t c_1 h
    refine wb_iconst (v := iI (0)) hX dX5_beginFarm_9 rfl (pq := 10) rfl ?_
    exact wb_zret hX hQ h nar01.1.1 dX5_beginFarm_10
  · have h := ite_f c_1 h
    refine wb_aload_n 0 hX dX5_beginFarm_11 rfl (pq := 12) rfl ?_
    refine wb_dup hX dX5_beginFarm_12 rfl (pq := 13) rfl ?_
    refine wb_getI hX fl_60 sh_3 rfl dX5_beginFarm_13 (pq := 16) rfl ?_
    refine wb_iconst (v := iI (1)) hX dX5_beginFarm_16 rfl (pq := 17) rfl ?_
    refine wb_iadd hX dX5_beginFarm_17 (pq := 18) rfl ?_
    refine wb_putI hX fp_60 sh_3 rfl dX5_beginFarm_18 rfl rfl (pq := 21) rfl ?_
    refine wb_mem (fun s_2 es_2 => ?_)
    have h := nmM_s h s_2 es_2
    refine wb_aload_n 0 hX dX5_beginFarm_21 rfl (pq := 22) rfl ?_
    refine wb_iconst (v := iI (-1)) hX dX5_beginFarm_22 rfl (pq := 23) rfl ?_
    refine wb_iload_n 1 hX dX5_beginFarm_23 rfl (pq := 24) rfl ?_
    refine wb_iconst (v := iI (0)) hX dX5_beginFarm_24 rfl (pq := 25) rfl ?_
    refine wb_iconst (v := iI (1)) hX dX5_beginFarm_25 rfl (pq := 26) rfl ?_
    obtain ⟨q_4, hc_3, h⟩ := bind_s h
    refine wb_callVi (r0 := q_4.1) (s1 := q_4.2) [.int (iI (-1)), .int x1, .int (iI (0)), .int (iI (1))] hX sh_3 ml_407 (tRd_beginLine hc_3) (by decide) rfl rfl (Nat.le_of_ble_eq_true rfl) dX5_beginFarm_26 (pq := 29) rfl ?_
    obtain ⟨hz_5, h⟩ := chkZ_some h
    exact wb_zret hX hQ h hz_5.1 dX5_beginFarm_29
set_option maxHeartbeats 4000000 in
set_option maxRecDepth 100000 in
theorem tRd_beginPair_J28 {G : wG} {X : wX} {v0 : Int32} {s : wM} {r0 : Int32} {s1 : wM} (hX : wOK G X cX5_beginPair RX5 (some .boolean) 1) (hQ : wRt G X (wQi G r0 s1)) (hN : wNl X = 4) (h : fRd_beginPair_J28 v0 s = some (r0, s1)) : WB G X 28 [] [.int v0] s := by
  unfold fRd_beginPair_J28 at h
  obtain ⟨hz_1, h⟩ := chkZ_some h
  exact wb_zret hX hQ h hz_1.1 dX5_beginPair_28
set_option maxHeartbeats 4000000 in
set_option maxRecDepth 100000 in
theorem tRd_beginPair_J27 {G : wG} {X : wX} {s : wM} {r0 : Int32} {s1 : wM} (hX : wOK G X cX5_beginPair RX5 (some .boolean) 1) (hQ : wRt G X (wQi G r0 s1)) (hN : wNl X = 4) (h : fRd_beginPair_J27 s = some (r0, s1)) : WB G X 27 [] [] s := by
  unfold fRd_beginPair_J27 at h
  refine wb_iconst (v := iI (0)) hX dX5_beginPair_27 rfl (pq := 28) rfl ?_
  exact tRd_beginPair_J28 hX hQ hN h
set_option maxHeartbeats 4000000 in
set_option maxRecDepth 100000 in
theorem tRd_beginPair {l : Launch} {G : wG} {s : wM} {x1 : Int32} {x2 : Int32} {x3 : Int32} {r0 : Int32} {s1 : wM} (h : fRd_beginPair s x1 x2 x3 = some (r0, s1)) : wMet l G yX5_beginPair cX5_beginPair 4 (some .boolean) 1 [.ref (G.1 3), .int x1, .int x2, .int x3] s (wQi G r0 s1) := by
  refine wMet_of (own := RX5) (by decide +kernel) rfl (Nat.le_of_ble_eq_true rfl) ?_
  intro X hX hQ hN hl
  show WB G X 0 [(0, .ref (G.1 3)), (1, .int x1), (2, .int x2), (3, .int x3)] [] s
  unfold fRd_beginPair at h
  refine wb_iload_n 1 hX dX5_beginPair_0 rfl (pq := 1) rfl ?_
  refine wb_if_lt (tgt := 27) hX dX5_beginPair_1 (by decide) (fun c_1 => ?_) (pq := 4) rfl (fun c_1 => ?_)
  · have h := ite_t c_1 h
    refine wb_sub [] (loc' := []) rfl ?_
    exact tRd_beginPair_J27 hX hQ hN h
  · have h := ite_f c_1 h
    refine wb_iload_n 1 hX dX5_beginPair_4 rfl (pq := 5) rfl ?_
    refine wb_aload_n 0 hX dX5_beginPair_5 rfl (pq := 6) rfl ?_
    refine wb_getI hX fl_60 sh_3 rfl dX5_beginPair_6 (pq := 9) rfl ?_
    refine wb_icmp_ge (tgt := 27) hX dX5_beginPair_9 (by decide) (fun c_2 => ?_) (pq := 12) rfl (fun c_2 => ?_)
    · have h := ite_t c_2 h
      refine wb_sub [] (loc' := []) rfl ?_
      exact tRd_beginPair_J27 hX hQ hN h
    · have h := ite_f c_2 h
      refine wb_aload_n 0 hX dX5_beginPair_12 rfl (pq := 13) rfl ?_
      refine wb_iload_n 1 hX dX5_beginPair_13 rfl (pq := 14) rfl ?_
      refine wb_iconst (v := iI (0)) hX dX5_beginPair_14 rfl (pq := 15) rfl ?_
      refine wb_iload_n 2 hX dX5_beginPair_15 rfl (pq := 16) rfl ?_
      refine wb_iload_n 3 hX dX5_beginPair_16 rfl (pq := 17) rfl ?_
      obtain ⟨q_4, hc_3, h⟩ := bind_s h
      refine wb_callVi (r0 := q_4.1) (s1 := q_4.2) [.int x1, .int (iI (0)), .int x2, .int x3] hX sh_3 ml_407 (tRd_beginLine hc_3) (by decide) rfl rfl (Nat.le_of_ble_eq_true rfl) dX5_beginPair_17 (pq := 20) rfl ?_
      refine wb_if_eq (tgt := 27) hX dX5_beginPair_20 (by decide) (fun c_5 => ?_) (pq := 23) rfl (fun c_5 => ?_)
      · have h := ite_t c_5 h
        refine wb_sub [] (loc' := []) rfl ?_
        exact tRd_beginPair_J27 hX hQ hN h
      · have h := ite_f c_5 h
        refine wb_iconst (v := iI (1)) hX dX5_beginPair_23 rfl (pq := 24) rfl ?_
        refine wb_goto (tgt := 28) hX dX5_beginPair_24 (by decide) ?_
        refine wb_sub [] (loc' := []) rfl ?_
        exact tRd_beginPair_J28 hX hQ hN h
set_option maxHeartbeats 4000000 in
set_option maxRecDepth 100000 in
theorem tRd_takeSecondDigit {l : Launch} {G : wG} {s : wM} {x1 : Int32} {r0 : Int32} {s1 : wM} (h : fRd_takeSecondDigit s x1 = some (r0, s1)) : wMet l G yX5_takeSecondDigit cX5_takeSecondDigit 2 (some .boolean) 0 [.ref (G.1 3), .int x1] s (wQi G r0 s1) := by
  refine wMet_of (own := RX5) (by decide +kernel) rfl (Nat.le_of_ble_eq_true rfl) ?_
  intro X hX hQ hN hl
  show WB G X 0 [(0, .ref (G.1 3)), (1, .int x1)] [] s
  unfold fRd_takeSecondDigit at h
  refine wb_aload_n 0 hX dX5_takeSecondDigit_0 rfl (pq := 1) rfl ?_
  refine wb_getR hX fl_54 sh_3 rfl dX5_takeSecondDigit_1 (pq := 4) rfl ?_
  refine wb_aload_n 0 hX dX5_takeSecondDigit_4 rfl (pq := 5) rfl ?_
  refine wb_getI hX fl_58 sh_3 rfl dX5_takeSecondDigit_5 (pq := 8) rfl ?_
  refine wb_iconst (v := iI (1)) hX dX5_takeSecondDigit_8 rfl (pq := 9) rfl ?_
  refine wb_isub hX dX5_takeSecondDigit_9 (pq := 10) rfl ?_
  refine wb_bipush (v := iI (10)) hX dX5_takeSecondDigit_10 (by decide) (pq := 12) rfl ?_
  refine wb_aload_n 0 hX dX5_takeSecondDigit_12 rfl (pq := 13) rfl ?_
  refine wb_getR hX fl_54 sh_3 rfl dX5_takeSecondDigit_13 (pq := 16) rfl ?_
  refine wb_aload_n 0 hX dX5_takeSecondDigit_16 rfl (pq := 17) rfl ?_
  refine wb_getI hX fl_58 sh_3 rfl dX5_takeSecondDigit_17 (pq := 20) rfl ?_
  refine wb_iconst (v := iI (1)) hX dX5_takeSecondDigit_20 rfl (pq := 21) rfl ?_
  refine wb_isub hX dX5_takeSecondDigit_21 (pq := 22) rfl ?_
  obtain ⟨hi_1, h⟩ := chk_some h
  refine wb_iald hX sh_5 hi_1 dX5_takeSecondDigit_22 (pq := 23) rfl ?_
  refine wb_imul hX dX5_takeSecondDigit_23 (pq := 24) rfl ?_
  refine wb_iload_n 1 hX dX5_takeSecondDigit_24 rfl (pq := 25) rfl ?_
  refine wb_iadd hX dX5_takeSecondDigit_25 (pq := 26) rfl ?_
  refine wb_iast hX sh_5 hi_1 dX5_takeSecondDigit_26 (pq := 27) rfl ?_
  refine wb_mem (fun s_2 es_2 => ?_)
  have h := nmM_s h s_2 es_2
  refine wb_aload_n 0 hX dX5_takeSecondDigit_27 rfl (pq := 28) rfl ?_
  refine wb_iconst (v := iI (2)) hX dX5_takeSecondDigit_28 rfl (pq := 29) rfl ?_
  refine wb_putI hX fp_62 sh_3 rfl dX5_takeSecondDigit_29 rfl rfl (pq := 32) rfl ?_
  refine wb_mem (fun s_3 es_3 => ?_)
  have h := nmM_s h s_3 es_3
  refine wb_iconst (v := iI (1)) hX dX5_takeSecondDigit_32 rfl (pq := 33) rfl ?_
  exact wb_zret hX hQ h nar01.2.1 dX5_takeSecondDigit_33
set_option maxHeartbeats 4000000 in
set_option maxRecDepth 100000 in
theorem tRd_goesOn_J34 {G : wG} {X : wX} {v0 : Int32} {s : wM} {r0 : Int32} {s1 : wM} (hX : wOK G X cX5_goesOn RX5 (some .boolean) 0) (hQ : wRt G X (wQi G r0 s1)) (hN : wNl X = 4) (h : fRd_goesOn_J34 v0 s = some (r0, s1)) : WB G X 34 [] [.int v0] s := by
  unfold fRd_goesOn_J34 at h
  obtain ⟨hz_1, h⟩ := chkZ_some h
  exact wb_zret hX hQ h hz_1.1 dX5_goesOn_34
set_option maxHeartbeats 4000000 in
set_option maxRecDepth 100000 in
theorem tRd_goesOn_J29 {G : wG} {X : wX} {s : wM} {r0 : Int32} {s1 : wM} (hX : wOK G X cX5_goesOn RX5 (some .boolean) 0) (hQ : wRt G X (wQi G r0 s1)) (hN : wNl X = 4) (h : fRd_goesOn_J29 s = some (r0, s1)) : WB G X 29 [] [] s := by
  unfold fRd_goesOn_J29 at h
  refine wb_iconst (v := iI (1)) hX dX5_goesOn_29 rfl (pq := 30) rfl ?_
  refine wb_goto (tgt := 34) hX dX5_goesOn_30 (by decide) ?_
  exact tRd_goesOn_J34 hX hQ hN h
set_option maxHeartbeats 4000000 in
set_option maxRecDepth 100000 in
theorem tRd_goesOn_J15 {G : wG} {X : wX} {x1 : Int32} {x2 : Int32} {v0 : Int32} {s : wM} {r0 : Int32} {s1 : wM} (hX : wOK G X cX5_goesOn RX5 (some .boolean) 0) (hQ : wRt G X (wQi G r0 s1)) (hN : wNl X = 4) (h : fRd_goesOn_J15 x1 x2 v0 s = some (r0, s1)) : WB G X 15 [(1, .int x1), (2, .int x2)] [.int v0, .ref (G.1 3)] s := by
  unfold fRd_goesOn_J15 at h
  refine wb_putI hX fp_62 sh_3 rfl dX5_goesOn_15 rfl rfl (pq := 18) rfl ?_
  refine wb_mem (fun s_1 es_1 => ?_)
  have h := nmM_s h s_1 es_1
  refine wb_iload_n 0 hX dX5_goesOn_18 rfl (pq := 19) rfl ?_
  refine wb_bipush (v := iI (59)) hX dX5_goesOn_19 (by decide) (pq := 21) rfl ?_
  refine wb_icmp_eq (tgt := 29) hX dX5_goesOn_21 (by decide) (fun c_2 => ?_) (pq := 24) rfl (fun c_2 => ?_)
  · have h := ite_t c_2 h
    refine wb_sub [] (loc' := []) rfl ?_
    exact tRd_goesOn_J29 hX hQ hN h
  · have h := ite_f c_2 h
    refine wb_iload_n 0 hX dX5_goesOn_24 rfl (pq := 25) rfl ?_
    refine wb_iload_n 1 hX dX5_goesOn_25 rfl (pq := 26) rfl ?_
    refine wb_icmp_ne (tgt := 33) hX dX5_goesOn_26 (by decide) (pq := 29) rfl (fun c_3 => ?_) (fun c_3 => ?_)
    · have h := ite_t c_3 h
      refine wb_sub [] (loc' := []) rfl ?_
      exact tRd_goesOn_J29 hX hQ hN h
    · have h := ite_f c_3 h
      refine wb_iconst (v := iI (0)) hX dX5_goesOn_33 rfl (pq := 34) rfl ?_
      refine wb_sub [] (loc' := []) rfl ?_
      exact tRd_goesOn_J34 hX hQ hN h
set_option maxHeartbeats 4000000 in
set_option maxRecDepth 100000 in
theorem tRd_goesOn {l : Launch} {G : wG} {s : wM} {x1 : Int32} {x2 : Int32} {x3 : Int32} {r0 : Int32} {s1 : wM} (h : fRd_goesOn s x1 x2 x3 = some (r0, s1)) : wMet l G yX5_goesOn cX5_goesOn 4 (some .boolean) 0 [.ref (G.1 3), .int x1, .int x2, .int x3] s (wQi G r0 s1) := by
  refine wMet_of (own := RX5) (by decide +kernel) rfl (Nat.le_of_ble_eq_true rfl) ?_
  intro X hX hQ hN hl
  show WB G X 0 [(0, .ref (G.1 3)), (1, .int x1), (2, .int x2), (3, .int x3)] [] s
  unfold fRd_goesOn at h
  refine wb_aload_n 0 hX dX5_goesOn_0 rfl (pq := 1) rfl ?_
  refine wb_iload_n 1 hX dX5_goesOn_1 rfl (pq := 2) rfl ?_
  refine wb_bipush (v := iI (59)) hX dX5_goesOn_2 (by decide) (pq := 4) rfl ?_
  refine wb_icmp_ne (tgt := 14) hX dX5_goesOn_4 (by decide) (pq := 7) rfl (fun c_1 => ?_) (fun c_1 => ?_)
  · have h := ite_t c_1 h
    refine wb_aload_n 0 hX dX5_goesOn_7 rfl (pq := 8) rfl ?_
    refine wb_getI hX fl_61 sh_3 rfl dX5_goesOn_8 (pq := 11) rfl ?_
    refine wb_goto (tgt := 15) hX dX5_goesOn_11 (by decide) ?_
    refine wb_sub [1, 2] (loc' := [(1, .int x1), (2, .int x2)]) rfl ?_
    exact tRd_goesOn_J15 hX hQ hN h
  · have h := ite_f c_1 h
    refine wb_iload_n 3 hX dX5_goesOn_14 rfl (pq := 15) rfl ?_
    refine wb_sub [1, 2] (loc' := [(1, .int x1), (2, .int x2)]) rfl ?_
    exact tRd_goesOn_J15 hX hQ hN h
set_option maxHeartbeats 4000000 in
set_option maxRecDepth 100000 in
theorem tRd_takeLastDigit_J11 {G : wG} {X : wX} {s : wM} {r0 : Int32} {s1 : wM} (hX : wOK G X cX5_takeLastDigit RX5 (some .boolean) 0) (hQ : wRt G X (wQi G r0 s1)) (hN : wNl X = 3) (h : fRd_takeLastDigit_J11 s = some (r0, s1)) : WB G X 11 [] [] s := by
  unfold fRd_takeLastDigit_J11 at h
  refine wb_iconst (v := iI (0)) hX dX5_takeLastDigit_11 rfl (pq := 12) rfl ?_
  exact wb_zret hX hQ h nar01.1.1 dX5_takeLastDigit_12
set_option maxHeartbeats 4000000 in
set_option maxRecDepth 100000 in
theorem tRd_takeLastDigit {l : Launch} {G : wG} {s : wM} {x1 : Int32} {x2 : Int32} {r0 : Int32} {s1 : wM} (h : fRd_takeLastDigit s x1 x2 = some (r0, s1)) : wMet l G yX5_takeLastDigit cX5_takeLastDigit 3 (some .boolean) 0 [.ref (G.1 3), .int x1, .int x2] s (wQi G r0 s1) := by
  refine wMet_of (own := RX5) (by decide +kernel) rfl (Nat.le_of_ble_eq_true rfl) ?_
  intro X hX hQ hN hl
  show WB G X 0 [(0, .ref (G.1 3)), (1, .int x1), (2, .int x2)] [] s
  unfold fRd_takeLastDigit at h
  refine wb_iload_n 1 hX dX5_takeLastDigit_0 rfl (pq := 1) rfl ?_
  refine wb_iload_n 2 hX dX5_takeLastDigit_1 rfl (pq := 2) rfl ?_
  refine wb_icmp_lt (tgt := 11) hX dX5_takeLastDigit_2 (by decide) (fun c_1 => ?_) (pq := 5) rfl (fun c_1 => ?_)
  · have h := ite_t c_1 h
    refine wb_sub [] (loc' := []) rfl ?_
    exact tRd_takeLastDigit_J11 hX hQ hN h
  · have h := ite_f c_1 h
    refine wb_iload_n 1 hX dX5_takeLastDigit_5 rfl (pq := 6) rfl ?_
    refine wb_bipush (v := iI (57)) hX dX5_takeLastDigit_6 (by decide) (pq := 8) rfl ?_
    refine wb_icmp_le (tgt := 13) hX dX5_takeLastDigit_8 (by decide) (fun c_2 => ?_) (pq := 11) rfl (fun c_2 => ?_)
    · have h := ite_t c_2 h
      refine wb_aload_n 0 hX dX5_takeLastDigit_13 rfl (pq := 14) rfl ?_
      refine wb_getR hX fl_56 sh_3 rfl dX5_takeLastDigit_14 (pq := 17) rfl ?_
      refine wb_aload_n 0 hX dX5_takeLastDigit_17 rfl (pq := 18) rfl ?_
      refine wb_getI hX fl_58 sh_3 rfl dX5_takeLastDigit_18 (pq := 21) rfl ?_
      refine wb_iconst (v := iI (1)) hX dX5_takeLastDigit_21 rfl (pq := 22) rfl ?_
      refine wb_isub hX dX5_takeLastDigit_22 (pq := 23) rfl ?_
      refine wb_iload_n 1 hX dX5_takeLastDigit_23 rfl (pq := 24) rfl ?_
      refine wb_bipush (v := iI (48)) hX dX5_takeLastDigit_24 (by decide) (pq := 26) rfl ?_
      refine wb_isub hX dX5_takeLastDigit_26 (pq := 27) rfl ?_
      obtain ⟨hi_3, h⟩ := chk_some h
      refine wb_iast hX sh_6 hi_3 dX5_takeLastDigit_27 (pq := 28) rfl ?_
      refine wb_mem (fun s_4 es_4 => ?_)
      have h := nmM_s h s_4 es_4
      refine wb_aload_n 0 hX dX5_takeLastDigit_28 rfl (pq := 29) rfl ?_
      refine wb_bipush (v := iI (12)) hX dX5_takeLastDigit_29 (by decide) (pq := 31) rfl ?_
      refine wb_putI hX fp_62 sh_3 rfl dX5_takeLastDigit_31 rfl rfl (pq := 34) rfl ?_
      refine wb_mem (fun s_5 es_5 => ?_)
      have h := nmM_s h s_5 es_5
      refine wb_iconst (v := iI (1)) hX dX5_takeLastDigit_34 rfl (pq := 35) rfl ?_
      exact wb_zret hX hQ h nar01.2.1 dX5_takeLastDigit_35
    · have h := ite_f c_2 h
      refine wb_sub [] (loc' := []) rfl ?_
      exact tRd_takeLastDigit_J11 hX hQ hN h
set_option maxHeartbeats 4000000 in
set_option maxRecDepth 100000 in
theorem tRd_takeOther_J12 {G : wG} {X : wX} {s : wM} {r0 : Int32} {s1 : wM} (hX : wOK G X cX5_takeOther RX5 (some .boolean) 0) (hQ : wRt G X (wQi G r0 s1)) (hN : wNl X = 3) (h : fRd_takeOther_J12 s = some (r0, s1)) : WB G X 12 [] [] s := by
  unfold fRd_takeOther_J12 at h
  refine wb_iconst (v := iI (0)) hX dX5_takeOther_12 rfl (pq := 13) rfl ?_
  exact wb_zret hX hQ h nar01.1.1 dX5_takeOther_13
set_option maxHeartbeats 4000000 in
set_option maxRecDepth 100000 in
theorem tRd_takeOther {l : Launch} {G : wG} {s : wM} {x1 : Int32} {x2 : Int32} {r0 : Int32} {s1 : wM} (h : fRd_takeOther s x1 x2 = some (r0, s1)) : wMet l G yX5_takeOther cX5_takeOther 3 (some .boolean) 0 [.ref (G.1 3), .int x1, .int x2] s (wQi G r0 s1) := by
  refine wMet_of (own := RX5) (by decide +kernel) rfl (Nat.le_of_ble_eq_true rfl) ?_
  intro X hX hQ hN hl
  show WB G X 0 [(0, .ref (G.1 3)), (1, .int x1), (2, .int x2)] [] s
  unfold fRd_takeOther at h
  refine wb_iload_n 1 hX dX5_takeOther_0 rfl (pq := 1) rfl ?_
  refine wb_if_lt (tgt := 12) hX dX5_takeOther_1 (by decide) (fun c_1 => ?_) (pq := 4) rfl (fun c_1 => ?_)
  · have h := ite_t c_1 h
    refine wb_sub [] (loc' := []) rfl ?_
    exact tRd_takeOther_J12 hX hQ hN h
  · have h := ite_f c_1 h
    refine wb_iload_n 1 hX dX5_takeOther_4 rfl (pq := 5) rfl ?_
    refine wb_aload_n 0 hX dX5_takeOther_5 rfl (pq := 6) rfl ?_
    refine wb_getI hX fl_60 sh_3 rfl dX5_takeOther_6 (pq := 9) rfl ?_
    refine wb_icmp_lt (tgt := 14) hX dX5_takeOther_9 (by decide) (fun c_2 => ?_) (pq := 12) rfl (fun c_2 => ?_)
    · have h := ite_t c_2 h
      refine wb_aload_n 0 hX dX5_takeOther_14 rfl (pq := 15) rfl ?_
      refine wb_getR hX fl_54 sh_3 rfl dX5_takeOther_15 (pq := 18) rfl ?_
      refine wb_aload_n 0 hX dX5_takeOther_18 rfl (pq := 19) rfl ?_
      refine wb_getI hX fl_58 sh_3 rfl dX5_takeOther_19 (pq := 22) rfl ?_
      refine wb_iconst (v := iI (1)) hX dX5_takeOther_22 rfl (pq := 23) rfl ?_
      refine wb_isub hX dX5_takeOther_23 (pq := 24) rfl ?_
      refine wb_iload_n 1 hX dX5_takeOther_24 rfl (pq := 25) rfl ?_
      obtain ⟨hi_3, h⟩ := chk_some h
      refine wb_iast hX sh_5 hi_3 dX5_takeOther_25 (pq := 26) rfl ?_
      refine wb_mem (fun s_4 es_4 => ?_)
      have h := nmM_s h s_4 es_4
      refine wb_aload_n 0 hX dX5_takeOther_26 rfl (pq := 27) rfl ?_
      refine wb_iload_n 2 hX dX5_takeOther_27 rfl (pq := 28) rfl ?_
      refine wb_putI hX fp_62 sh_3 rfl dX5_takeOther_28 rfl rfl (pq := 31) rfl ?_
      refine wb_mem (fun s_5 es_5 => ?_)
      have h := nmM_s h s_5 es_5
      refine wb_iconst (v := iI (1)) hX dX5_takeOther_31 rfl (pq := 32) rfl ?_
      exact wb_zret hX hQ h nar01.2.1 dX5_takeOther_32
    · have h := ite_f c_2 h
      refine wb_sub [] (loc' := []) rfl ?_
      exact tRd_takeOther_J12 hX hQ hN h
set_option maxHeartbeats 4000000 in
set_option maxRecDepth 100000 in
theorem tRd_takes_J96 {G : wG} {X : wX} {v0 : Int32} {s : wM} {r0 : Int32} {s1 : wM} (hX : wOK G X cX5_takes RX5 (some .boolean) 2) (hQ : wRt G X (wQi G r0 s1)) (hN : wNl X = 2) (h : fRd_takes_J96 v0 s = some (r0, s1)) : WB G X 96 [] [.int v0] s := by
  unfold fRd_takes_J96 at h
  obtain ⟨hz_1, h⟩ := chkZ_some h
  exact wb_zret hX hQ h hz_1.1 dX5_takes_96
set_option maxHeartbeats 4000000 in
set_option maxRecDepth 100000 in
theorem tRd_takes_J123 {G : wG} {X : wX} {v0 : Int32} {s : wM} {r0 : Int32} {s1 : wM} (hX : wOK G X cX5_takes RX5 (some .boolean) 2) (hQ : wRt G X (wQi G r0 s1)) (hN : wNl X = 2) (h : fRd_takes_J123 v0 s = some (r0, s1)) : WB G X 123 [] [.int v0] s := by
  unfold fRd_takes_J123 at h
  obtain ⟨hz_1, h⟩ := chkZ_some h
  exact wb_zret hX hQ h hz_1.1 dX5_takes_123
set_option maxHeartbeats 4000000 in
set_option maxRecDepth 100000 in
theorem tRd_takes_J133 {G : wG} {X : wX} {x1 : Int32} {s : wM} {r0 : Int32} {s1 : wM} (hX : wOK G X cX5_takes RX5 (some .boolean) 2) (hQ : wRt G X (wQi G r0 s1)) (hN : wNl X = 2) (h : fRd_takes_J133 x1 s = some (r0, s1)) : WB G X 133 [(0, .ref (G.1 3)), (1, .int x1)] [] s := by
  unfold fRd_takes_J133 at h
  refine wb_aload_n 0 hX dX5_takes_133 rfl (pq := 134) rfl ?_
  refine wb_iload_n 1 hX dX5_takes_134 rfl (pq := 135) rfl ?_
  refine wb_bipush (v := iI (48)) hX dX5_takes_135 (by decide) (pq := 137) rfl ?_
  obtain ⟨q_2, hc_1, h⟩ := bind_s h
  refine wb_callVi (r0 := q_2.1) (s1 := q_2.2) [.int x1, .int (iI (48))] hX sh_3 ml_423 (tRd_takeLastDigit hc_1) (by decide) rfl rfl (Nat.le_of_ble_eq_true rfl) dX5_takes_137 (pq := 140) rfl ?_
  obtain ⟨hz_3, h⟩ := chkZ_some h
  exact wb_zret hX hQ h hz_3.1 dX5_takes_140
set_option maxHeartbeats 4000000 in
set_option maxRecDepth 100000 in
theorem tRd_takes_J176 {G : wG} {X : wX} {v0 : Int32} {s : wM} {r0 : Int32} {s1 : wM} (hX : wOK G X cX5_takes RX5 (some .boolean) 2) (hQ : wRt G X (wQi G r0 s1)) (hN : wNl X = 2) (h : fRd_takes_J176 v0 s = some (r0, s1)) : WB G X 176 [] [.int v0] s := by
  unfold fRd_takes_J176 at h
  obtain ⟨hz_1, h⟩ := chkZ_some h
  exact wb_zret hX hQ h hz_1.1 dX5_takes_176
set_option maxHeartbeats 4000000 in
set_option maxRecDepth 100000 in
theorem tRd_takes_J175 {G : wG} {X : wX} {s : wM} {r0 : Int32} {s1 : wM} (hX : wOK G X cX5_takes RX5 (some .boolean) 2) (hQ : wRt G X (wQi G r0 s1)) (hN : wNl X = 2) (h : fRd_takes_J175 s = some (r0, s1)) : WB G X 175 [] [] s := by
  unfold fRd_takes_J175 at h
  refine wb_iconst (v := iI (0)) hX dX5_takes_175 rfl (pq := 176) rfl ?_
  exact tRd_takes_J176 hX hQ hN h
set_option maxHeartbeats 4000000 in
set_option maxRecDepth 100000 in
theorem tRd_takes_J216 {G : wG} {X : wX} {v0 : Int32} {s : wM} {r0 : Int32} {s1 : wM} (hX : wOK G X cX5_takes RX5 (some .boolean) 2) (hQ : wRt G X (wQi G r0 s1)) (hN : wNl X = 2) (h : fRd_takes_J216 v0 s = some (r0, s1)) : WB G X 216 [] [.int v0] s := by
  unfold fRd_takes_J216 at h
  obtain ⟨hz_1, h⟩ := chkZ_some h
  exact wb_zret hX hQ h hz_1.1 dX5_takes_216
set_option maxHeartbeats 4000000 in
set_option maxRecDepth 100000 in
theorem tRd_takes {l : Launch} {G : wG} {s : wM} {x1 : Int32} {r0 : Int32} {s1 : wM} (h : fRd_takes s x1 = some (r0, s1)) : wMet l G yX5_takes cX5_takes 2 (some .boolean) 2 [.ref (G.1 3), .int x1] s (wQi G r0 s1) := by
  refine wMet_of (own := RX5) (by decide +kernel) rfl (Nat.le_of_ble_eq_true rfl) ?_
  intro X hX hQ hN hl
  show WB G X 0 [(0, .ref (G.1 3)), (1, .int x1)] [] s
  unfold fRd_takes at h
  refine wb_aload_n 0 hX dX5_takes_0 rfl (pq := 1) rfl ?_
  refine wb_getI hX fl_62 sh_3 rfl dX5_takes_1 (pq := 4) rfl ?_
  by_cases c_1 : (s.1 3 6) = iI (0)
  · have h := ite_t c_1 h
    refine wb_tabIn (tgt := 68) (off := 64) hX dX5_takes_4 (by rw [c_1]; decide) (by rw [c_1]; decide) (by rw [c_1]; decide) (by decide) ?_
    refine wb_iload_n 1 hX dX5_takes_68 rfl (pq := 69) rfl ?_
    obtain ⟨q_3, hc_2, h⟩ := bind_s h
    refine wb_callSi (r0 := q_3) (s1 := s) [.int x1] hX ml_400 (tRd_isDigit hc_2) (by decide) rfl rfl (Nat.le_of_ble_eq_true rfl) dX5_takes_69 (pq := 72) rfl ?_
    refine wb_if_eq (tgt := 86) hX dX5_takes_72 (by decide) (fun c_4 => ?_) (pq := 75) rfl (fun c_4 => ?_)
    · have h := ite_t c_4 h
      refine wb_aload_n 0 hX dX5_takes_86 rfl (pq := 87) rfl ?_
      refine wb_iload_n 1 hX dX5_takes_87 rfl (pq := 88) rfl ?_
      refine wb_bipush (v := iI (97)) hX dX5_takes_88 (by decide) (pq := 90) rfl ?_
      refine wb_isub hX dX5_takes_90 (pq := 91) rfl ?_
      refine wb_iconst (v := iI (0)) hX dX5_takes_91 rfl (pq := 92) rfl ?_
      refine wb_iconst (v := iI (4)) hX dX5_takes_92 rfl (pq := 93) rfl ?_
      obtain ⟨q_6, hc_5, h⟩ := bind_s h
      refine wb_callVi (r0 := q_6.1) (s1 := q_6.2) [.int (x1 - (iI (97))), .int (iI (0)), .int (iI (4))] hX sh_3 ml_411 (tRd_beginPair hc_5) (by decide) rfl rfl (Nat.le_of_ble_eq_true rfl) dX5_takes_93 (pq := 96) rfl ?_
      refine wb_sub [] (loc' := []) rfl ?_
      exact tRd_takes_J96 hX hQ hN h
    · have h := ite_f c_4 h
      refine wb_aload_n 0 hX dX5_takes_75 rfl (pq := 76) rfl ?_
      refine wb_iload_n 1 hX dX5_takes_76 rfl (pq := 77) rfl ?_
      refine wb_bipush (v := iI (48)) hX dX5_takes_77 (by decide) (pq := 79) rfl ?_
      refine wb_isub hX dX5_takes_79 (pq := 80) rfl ?_
      obtain ⟨q_8, hc_7, h⟩ := bind_s h
      refine wb_callVi (r0 := q_8.1) (s1 := q_8.2) [.int (x1 - (iI (48)))] hX sh_3 ml_403 (tRd_beginFarm hc_7) (by decide) rfl rfl (Nat.le_of_ble_eq_true rfl) dX5_takes_80 (pq := 83) rfl ?_
      refine wb_goto (tgt := 96) hX dX5_takes_83 (by decide) ?_
      refine wb_sub [] (loc' := []) rfl ?_
      exact tRd_takes_J96 hX hQ hN h
  · have h := ite_f c_1 h
    by_cases c_9 : (s.1 3 6) = iI (1)
    · have h := ite_t c_9 h
      refine wb_tabIn (tgt := 97) (off := 93) hX dX5_takes_4 (by rw [c_9]; decide) (by rw [c_9]; decide) (by rw [c_9]; decide) (by decide) ?_
      refine wb_iload_n 1 hX dX5_takes_97 rfl (pq := 98) rfl ?_
      obtain ⟨q_11, hc_10, h⟩ := bind_s h
      refine wb_callSi (r0 := q_11) (s1 := s) [.int x1] hX ml_400 (tRd_isDigit hc_10) (by decide) rfl rfl (Nat.le_of_ble_eq_true rfl) dX5_takes_98 (pq := 101) rfl ?_
      refine wb_if_eq (tgt := 115) hX dX5_takes_101 (by decide) (fun c_12 => ?_) (pq := 104) rfl (fun c_12 => ?_)
      · have h := ite_t c_12 h
        refine wb_aload_n 0 hX dX5_takes_115 rfl (pq := 116) rfl ?_
        refine wb_iload_n 1 hX dX5_takes_116 rfl (pq := 117) rfl ?_
        refine wb_bipush (v := iI (43)) hX dX5_takes_117 (by decide) (pq := 119) rfl ?_
        refine wb_iconst (v := iI (3)) hX dX5_takes_119 rfl (pq := 120) rfl ?_
        obtain ⟨q_14, hc_13, h⟩ := bind_s h
        refine wb_callVi (r0 := q_14.1) (s1 := q_14.2) [.int x1, .int (iI (43)), .int (iI (3))] hX sh_3 ml_419 (tRd_goesOn hc_13) (by decide) rfl rfl (Nat.le_of_ble_eq_true rfl) dX5_takes_120 (pq := 123) rfl ?_
        refine wb_sub [] (loc' := []) rfl ?_
        exact tRd_takes_J123 hX hQ hN h
      · have h := ite_f c_12 h
        refine wb_aload_n 0 hX dX5_takes_104 rfl (pq := 105) rfl ?_
        refine wb_iload_n 1 hX dX5_takes_105 rfl (pq := 106) rfl ?_
        refine wb_bipush (v := iI (48)) hX dX5_takes_106 (by decide) (pq := 108) rfl ?_
        refine wb_isub hX dX5_takes_108 (pq := 109) rfl ?_
        obtain ⟨q_16, hc_15, h⟩ := bind_s h
        refine wb_callVi (r0 := q_16.1) (s1 := q_16.2) [.int (x1 - (iI (48)))] hX sh_3 ml_415 (tRd_takeSecondDigit hc_15) (by decide) rfl rfl (Nat.le_of_ble_eq_true rfl) dX5_takes_109 (pq := 112) rfl ?_
        refine wb_goto (tgt := 123) hX dX5_takes_112 (by decide) ?_
        refine wb_sub [] (loc' := []) rfl ?_
        exact tRd_takes_J123 hX hQ hN h
    · have h := ite_f c_9 h
      by_cases c_17 : (s.1 3 6) = iI (2)
      · have h := ite_t c_17 h
        refine wb_tabIn (tgt := 124) (off := 120) hX dX5_takes_4 (by rw [c_17]; decide) (by rw [c_17]; decide) (by rw [c_17]; decide) (by decide) ?_
        refine wb_aload_n 0 hX dX5_takes_124 rfl (pq := 125) rfl ?_
        refine wb_iload_n 1 hX dX5_takes_125 rfl (pq := 126) rfl ?_
        refine wb_bipush (v := iI (43)) hX dX5_takes_126 (by decide) (pq := 128) rfl ?_
        refine wb_iconst (v := iI (3)) hX dX5_takes_128 rfl (pq := 129) rfl ?_
        obtain ⟨q_19, hc_18, h⟩ := bind_s h
        refine wb_callVi (r0 := q_19.1) (s1 := q_19.2) [.int x1, .int (iI (43)), .int (iI (3))] hX sh_3 ml_419 (tRd_goesOn hc_18) (by decide) rfl rfl (Nat.le_of_ble_eq_true rfl) dX5_takes_129 (pq := 132) rfl ?_
        obtain ⟨hz_20, h⟩ := chkZ_some h
        exact wb_zret hX hQ h hz_20.1 dX5_takes_132
      · have h := ite_f c_17 h
        by_cases c_21 : (s.1 3 6) = iI (3)
        · have h := ite_t c_21 h
          refine wb_tabIn (tgt := 133) (off := 129) hX dX5_takes_4 (by rw [c_21]; decide) (by rw [c_21]; decide) (by rw [c_21]; decide) (by decide) ?_
          exact tRd_takes_J133 hX hQ hN h
        · have h := ite_f c_21 h
          by_cases c_22 : (s.1 3 6) = iI (4)
          · have h := ite_t c_22 h
            refine wb_tabIn (tgt := 141) (off := 137) hX dX5_takes_4 (by rw [c_22]; decide) (by rw [c_22]; decide) (by rw [c_22]; decide) (by decide) ?_
            refine wb_iload_n 1 hX dX5_takes_141 rfl (pq := 142) rfl ?_
            refine wb_bipush (v := iI (97)) hX dX5_takes_142 (by decide) (pq := 144) rfl ?_
            refine wb_isub hX dX5_takes_144 (pq := 145) rfl ?_
            refine wb_aload_n 0 hX dX5_takes_145 rfl (pq := 146) rfl ?_
            refine wb_getR hX fl_52 sh_3 rfl dX5_takes_146 (pq := 149) rfl ?_
            refine wb_aload_n 0 hX dX5_takes_149 rfl (pq := 150) rfl ?_
            refine wb_getI hX fl_58 sh_3 rfl dX5_takes_150 (pq := 153) rfl ?_
            refine wb_iconst (v := iI (1)) hX dX5_takes_153 rfl (pq := 154) rfl ?_
            refine wb_isub hX dX5_takes_154 (pq := 155) rfl ?_
            obtain ⟨hi_23, h⟩ := chk_some h
            refine wb_iald hX sh_4 hi_23 dX5_takes_155 (pq := 156) rfl ?_
            refine wb_icmp_eq (tgt := 175) hX dX5_takes_156 (by decide) (fun c_24 => ?_) (pq := 159) rfl (fun c_24 => ?_)
            · have h := ite_t c_24 h
              refine wb_sub [] (loc' := []) rfl ?_
              exact tRd_takes_J175 hX hQ hN h
            · have h := ite_f c_24 h
              refine wb_aload_n 0 hX dX5_takes_159 rfl (pq := 160) rfl ?_
              refine wb_iload_n 1 hX dX5_takes_160 rfl (pq := 161) rfl ?_
              refine wb_bipush (v := iI (97)) hX dX5_takes_161 (by decide) (pq := 163) rfl ?_
              refine wb_isub hX dX5_takes_163 (pq := 164) rfl ?_
              refine wb_iconst (v := iI (5)) hX dX5_takes_164 rfl (pq := 165) rfl ?_
              obtain ⟨q_26, hc_25, h⟩ := bind_s h
              refine wb_callVi (r0 := q_26.1) (s1 := q_26.2) [.int (x1 - (iI (97))), .int (iI (5))] hX sh_3 ml_427 (tRd_takeOther hc_25) (by decide) rfl rfl (Nat.le_of_ble_eq_true rfl) dX5_takes_165 (pq := 168) rfl ?_
              refine wb_if_eq (tgt := 175) hX dX5_takes_168 (by decide) (fun c_27 => ?_) (pq := 171) rfl (fun c_27 => ?_)
              · have h := ite_t c_27 h
                refine wb_sub [] (loc' := []) rfl ?_
                exact tRd_takes_J175 hX hQ hN h
              · have h := ite_f c_27 h
                refine wb_iconst (v := iI (1)) hX dX5_takes_171 rfl (pq := 172) rfl ?_
                refine wb_goto (tgt := 176) hX dX5_takes_172 (by decide) ?_
                refine wb_sub [] (loc' := []) rfl ?_
                exact tRd_takes_J176 hX hQ hN h
          · have h := ite_f c_22 h
            by_cases c_28 : (s.1 3 6) = iI (5)
            · have h := ite_t c_28 h
              refine wb_tabIn (tgt := 177) (off := 173) hX dX5_takes_4 (by rw [c_28]; decide) (by rw [c_28]; decide) (by rw [c_28]; decide) (by decide) ?_
              refine wb_aload_n 0 hX dX5_takes_177 rfl (pq := 178) rfl ?_
              refine wb_iload_n 1 hX dX5_takes_178 rfl (pq := 179) rfl ?_
              refine wb_bipush (v := iI (47)) hX dX5_takes_179 (by decide) (pq := 181) rfl ?_
              refine wb_bipush (v := iI (6)) hX dX5_takes_181 (by decide) (pq := 183) rfl ?_
              obtain ⟨q_30, hc_29, h⟩ := bind_s h
              refine wb_callVi (r0 := q_30.1) (s1 := q_30.2) [.int x1, .int (iI (47)), .int (iI (6))] hX sh_3 ml_419 (tRd_goesOn hc_29) (by decide) rfl rfl (Nat.le_of_ble_eq_true rfl) dX5_takes_183 (pq := 186) rfl ?_
              obtain ⟨hz_31, h⟩ := chkZ_some h
              exact wb_zret hX hQ h hz_31.1 dX5_takes_186
            · have h := ite_f c_28 h
              by_cases c_32 : (s.1 3 6) = iI (6)
              · have h := ite_t c_32 h
                refine wb_tabIn (tgt := 133) (off := 129) hX dX5_takes_4 (by rw [c_32]; decide) (by rw [c_32]; decide) (by rw [c_32]; decide) (by decide) ?_
                exact tRd_takes_J133 hX hQ hN h
              · have h := ite_f c_32 h
                by_cases c_33 : (s.1 3 6) = iI (7)
                · have h := ite_t c_33 h
                  refine wb_tabIn (tgt := 187) (off := 183) hX dX5_takes_4 (by rw [c_33]; decide) (by rw [c_33]; decide) (by rw [c_33]; decide) (by decide) ?_
                  refine wb_aload_n 0 hX dX5_takes_187 rfl (pq := 188) rfl ?_
                  refine wb_iload_n 1 hX dX5_takes_188 rfl (pq := 189) rfl ?_
                  refine wb_bipush (v := iI (97)) hX dX5_takes_189 (by decide) (pq := 191) rfl ?_
                  refine wb_isub hX dX5_takes_191 (pq := 192) rfl ?_
                  refine wb_iconst (v := iI (1)) hX dX5_takes_192 rfl (pq := 193) rfl ?_
                  refine wb_bipush (v := iI (8)) hX dX5_takes_193 (by decide) (pq := 195) rfl ?_
                  obtain ⟨q_35, hc_34, h⟩ := bind_s h
                  refine wb_callVi (r0 := q_35.1) (s1 := q_35.2) [.int (x1 - (iI (97))), .int (iI (1)), .int (iI (8))] hX sh_3 ml_411 (tRd_beginPair hc_34) (by decide) rfl rfl (Nat.le_of_ble_eq_true rfl) dX5_takes_195 (pq := 198) rfl ?_
                  obtain ⟨hz_36, h⟩ := chkZ_some h
                  exact wb_zret hX hQ h hz_36.1 dX5_takes_198
                · have h := ite_f c_33 h
                  by_cases c_37 : (s.1 3 6) = iI (8)
                  · have h := ite_t c_37 h
                    refine wb_tabIn (tgt := 199) (off := 195) hX dX5_takes_4 (by rw [c_37]; decide) (by rw [c_37]; decide) (by rw [c_37]; decide) (by decide) ?_
                    refine wb_aload_n 0 hX dX5_takes_199 rfl (pq := 200) rfl ?_
                    refine wb_bipush (v := iI (9)) hX dX5_takes_200 (by decide) (pq := 202) rfl ?_
                    refine wb_putI hX fp_62 sh_3 rfl dX5_takes_202 rfl rfl (pq := 205) rfl ?_
                    refine wb_mem (fun s_38 es_38 => ?_)
                    have h := nmM_s h s_38 es_38
                    refine wb_iload_n 1 hX dX5_takes_205 rfl (pq := 206) rfl ?_
                    refine wb_bipush (v := iI (62)) hX dX5_takes_206 (by decide) (pq := 208) rfl ?_
                    refine wb_icmp_ne (tgt := 215) hX dX5_takes_208 (by decide) (pq := 211) rfl (fun c_39 => ?_) (fun c_39 => ?_)
                    · have h := ite_t c_39 h
                      refine wb_iconst (v := iI (1)) hX dX5_takes_211 rfl (pq := 212) rfl ?_
                      refine wb_goto (tgt := 216) hX dX5_takes_212 (by decide) ?_
                      refine wb_sub [] (loc' := []) rfl ?_
                      exact tRd_takes_J216 hX hQ hN h
                    · have h := ite_f c_39 h
                      refine wb_iconst (v := iI (0)) hX dX5_takes_215 rfl (pq := 216) rfl ?_
                      refine wb_sub [] (loc' := []) rfl ?_
                      exact tRd_takes_J216 hX hQ hN h
                  · have h := ite_f c_37 h
                    by_cases c_40 : (s.1 3 6) = iI (9)
                    · have h := ite_t c_40 h
                      refine wb_tabIn (tgt := 217) (off := 213) hX dX5_takes_4 (by rw [c_40]; decide) (by rw [c_40]; decide) (by rw [c_40]; decide) (by decide) ?_
                      refine wb_aload_n 0 hX dX5_takes_217 rfl (pq := 218) rfl ?_
                      refine wb_iload_n 1 hX dX5_takes_218 rfl (pq := 219) rfl ?_
                      refine wb_bipush (v := iI (97)) hX dX5_takes_219 (by decide) (pq := 221) rfl ?_
                      refine wb_isub hX dX5_takes_221 (pq := 222) rfl ?_
                      refine wb_bipush (v := iI (10)) hX dX5_takes_222 (by decide) (pq := 224) rfl ?_
                      obtain ⟨q_42, hc_41, h⟩ := bind_s h
                      refine wb_callVi (r0 := q_42.1) (s1 := q_42.2) [.int (x1 - (iI (97))), .int (iI (10))] hX sh_3 ml_427 (tRd_takeOther hc_41) (by decide) rfl rfl (Nat.le_of_ble_eq_true rfl) dX5_takes_224 (pq := 227) rfl ?_
                      obtain ⟨hz_43, h⟩ := chkZ_some h
                      exact wb_zret hX hQ h hz_43.1 dX5_takes_227
                    · have h := ite_f c_40 h
                      by_cases c_44 : (s.1 3 6) = iI (10)
                      · have h := ite_t c_44 h
                        refine wb_tabIn (tgt := 228) (off := 224) hX dX5_takes_4 (by rw [c_44]; decide) (by rw [c_44]; decide) (by rw [c_44]; decide) (by decide) ?_
                        refine wb_aload_n 0 hX dX5_takes_228 rfl (pq := 229) rfl ?_
                        refine wb_iload_n 1 hX dX5_takes_229 rfl (pq := 230) rfl ?_
                        refine wb_bipush (v := iI (42)) hX dX5_takes_230 (by decide) (pq := 232) rfl ?_
                        refine wb_bipush (v := iI (11)) hX dX5_takes_232 (by decide) (pq := 234) rfl ?_
                        obtain ⟨q_46, hc_45, h⟩ := bind_s h
                        refine wb_callVi (r0 := q_46.1) (s1 := q_46.2) [.int x1, .int (iI (42)), .int (iI (11))] hX sh_3 ml_419 (tRd_goesOn hc_45) (by decide) rfl rfl (Nat.le_of_ble_eq_true rfl) dX5_takes_234 (pq := 237) rfl ?_
                        obtain ⟨hz_47, h⟩ := chkZ_some h
                        exact wb_zret hX hQ h hz_47.1 dX5_takes_237
                      · have h := ite_f c_44 h
                        by_cases c_48 : (s.1 3 6) = iI (11)
                        · have h := ite_t c_48 h
                          refine wb_tabIn (tgt := 238) (off := 234) hX dX5_takes_4 (by rw [c_48]; decide) (by rw [c_48]; decide) (by rw [c_48]; decide) (by decide) ?_
                          refine wb_aload_n 0 hX dX5_takes_238 rfl (pq := 239) rfl ?_
                          refine wb_iload_n 1 hX dX5_takes_239 rfl (pq := 240) rfl ?_
                          refine wb_bipush (v := iI (49)) hX dX5_takes_240 (by decide) (pq := 242) rfl ?_
                          obtain ⟨q_50, hc_49, h⟩ := bind_s h
                          refine wb_callVi (r0 := q_50.1) (s1 := q_50.2) [.int x1, .int (iI (49))] hX sh_3 ml_423 (tRd_takeLastDigit hc_49) (by decide) rfl rfl (Nat.le_of_ble_eq_true rfl) dX5_takes_242 (pq := 245) rfl ?_
                          obtain ⟨hz_51, h⟩ := chkZ_some h
                          exact wb_zret hX hQ h hz_51.1 dX5_takes_245
                        · have h := ite_f c_48 h
                          have tc_1 := lv_neT (a := 0) c_1 (by decide)
                          have tc_9 := lv_neT (a := 1) c_9 (by decide)
                          have tc_17 := lv_neT (a := 2) c_17 (by decide)
                          have tc_21 := lv_neT (a := 3) c_21 (by decide)
                          have tc_22 := lv_neT (a := 4) c_22 (by decide)
                          have tc_28 := lv_neT (a := 5) c_28 (by decide)
                          have tc_32 := lv_neT (a := 6) c_32 (by decide)
                          have tc_33 := lv_neT (a := 7) c_33 (by decide)
                          have tc_37 := lv_neT (a := 8) c_37 (by decide)
                          have tc_40 := lv_neT (a := 9) c_40 (by decide)
                          have tc_44 := lv_neT (a := 10) c_44 (by decide)
                          have tc_48 := lv_neT (a := 11) c_48 (by decide)
                          refine wb_tabOut (tgt := 246) hX dX5_takes_4 (by omega) (by decide) ?_
                          refine wb_aload_n 0 hX dX5_takes_246 rfl (pq := 247) rfl ?_
                          refine wb_iload_n 1 hX dX5_takes_247 rfl (pq := 248) rfl ?_
                          refine wb_bipush (v := iI (59)) hX dX5_takes_248 (by decide) (pq := 250) rfl ?_
                          refine wb_aload_n 0 hX dX5_takes_250 rfl (pq := 251) rfl ?_
                          refine wb_getI hX fl_61 sh_3 rfl dX5_takes_251 (pq := 254) rfl ?_
                          obtain ⟨q_53, hc_52, h⟩ := bind_s h
                          refine wb_callVi (r0 := q_53.1) (s1 := q_53.2) [.int x1, .int (iI (59)), .int (s.1 3 5)] hX sh_3 ml_419 (tRd_goesOn hc_52) (by decide) rfl rfl (Nat.le_of_ble_eq_true rfl) dX5_takes_254 (pq := 257) rfl ?_
                          obtain ⟨hz_54, h⟩ := chkZ_some h
                          exact wb_zret hX hQ h hz_54.1 dX5_takes_257
set_option maxHeartbeats 4000000 in
set_option maxRecDepth 100000 in
theorem tRd_mayEnd_J47 {G : wG} {X : wX} {v0 : Int32} {s : wM} {r0 : Int32} (hX : wOK G X cX5_mayEnd RX5 (some .boolean) 0) (hQ : wRt G X (wQi G r0 s)) (hN : wNl X = 1) (h : fRd_mayEnd_J47 v0 s = some r0) : WB G X 47 [] [.int v0] s := by
  unfold fRd_mayEnd_J47 at h
  obtain ⟨hz_1, h⟩ := chkZ_some h
  exact wb_zretP hX hQ h hz_1.1 dX5_mayEnd_47
set_option maxHeartbeats 4000000 in
set_option maxRecDepth 100000 in
theorem tRd_mayEnd_J42 {G : wG} {X : wX} {s : wM} {r0 : Int32} (hX : wOK G X cX5_mayEnd RX5 (some .boolean) 0) (hQ : wRt G X (wQi G r0 s)) (hN : wNl X = 1) (h : fRd_mayEnd_J42 s = some r0) : WB G X 42 [] [] s := by
  unfold fRd_mayEnd_J42 at h
  refine wb_iconst (v := iI (1)) hX dX5_mayEnd_42 rfl (pq := 43) rfl ?_
  refine wb_goto (tgt := 47) hX dX5_mayEnd_43 (by decide) ?_
  exact tRd_mayEnd_J47 hX hQ hN h
set_option maxHeartbeats 4000000 in
set_option maxRecDepth 100000 in
theorem tRd_mayEnd {l : Launch} {G : wG} {s : wM} {r0 : Int32} (h : fRd_mayEnd s = some r0) : wMet l G yX5_mayEnd cX5_mayEnd 1 (some .boolean) 0 [.ref (G.1 3)] s (wQi G r0 s) := by
  refine wMet_of (own := RX5) (by decide +kernel) rfl (Nat.le_of_ble_eq_true rfl) ?_
  intro X hX hQ hN hl
  show WB G X 0 [(0, .ref (G.1 3))] [] s
  unfold fRd_mayEnd at h
  refine wb_aload_n 0 hX dX5_mayEnd_0 rfl (pq := 1) rfl ?_
  refine wb_getI hX fl_62 sh_3 rfl dX5_mayEnd_1 (pq := 4) rfl ?_
  refine wb_iconst (v := iI (1)) hX dX5_mayEnd_4 rfl (pq := 5) rfl ?_
  refine wb_icmp_eq (tgt := 42) hX dX5_mayEnd_5 (by decide) (fun c_1 => ?_) (pq := 8) rfl (fun c_1 => ?_)
  · have h := ite_t c_1 h
    refine wb_sub [] (loc' := []) rfl ?_
    exact tRd_mayEnd_J42 hX hQ hN h
  · have h := ite_f c_1 h
    refine wb_aload_n 0 hX dX5_mayEnd_8 rfl (pq := 9) rfl ?_
    refine wb_getI hX fl_62 sh_3 rfl dX5_mayEnd_9 (pq := 12) rfl ?_
    refine wb_iconst (v := iI (2)) hX dX5_mayEnd_12 rfl (pq := 13) rfl ?_
    refine wb_icmp_eq (tgt := 42) hX dX5_mayEnd_13 (by decide) (fun c_2 => ?_) (pq := 16) rfl (fun c_2 => ?_)
    · have h := ite_t c_2 h
      refine wb_sub [] (loc' := []) rfl ?_
      exact tRd_mayEnd_J42 hX hQ hN h
    · have h := ite_f c_2 h
      refine wb_aload_n 0 hX dX5_mayEnd_16 rfl (pq := 17) rfl ?_
      refine wb_getI hX fl_62 sh_3 rfl dX5_mayEnd_17 (pq := 20) rfl ?_
      refine wb_iconst (v := iI (5)) hX dX5_mayEnd_20 rfl (pq := 21) rfl ?_
      refine wb_icmp_eq (tgt := 42) hX dX5_mayEnd_21 (by decide) (fun c_3 => ?_) (pq := 24) rfl (fun c_3 => ?_)
      · have h := ite_t c_3 h
        refine wb_sub [] (loc' := []) rfl ?_
        exact tRd_mayEnd_J42 hX hQ hN h
      · have h := ite_f c_3 h
        refine wb_aload_n 0 hX dX5_mayEnd_24 rfl (pq := 25) rfl ?_
        refine wb_getI hX fl_62 sh_3 rfl dX5_mayEnd_25 (pq := 28) rfl ?_
        refine wb_bipush (v := iI (10)) hX dX5_mayEnd_28 (by decide) (pq := 30) rfl ?_
        refine wb_icmp_eq (tgt := 42) hX dX5_mayEnd_30 (by decide) (fun c_4 => ?_) (pq := 33) rfl (fun c_4 => ?_)
        · have h := ite_t c_4 h
          refine wb_sub [] (loc' := []) rfl ?_
          exact tRd_mayEnd_J42 hX hQ hN h
        · have h := ite_f c_4 h
          refine wb_aload_n 0 hX dX5_mayEnd_33 rfl (pq := 34) rfl ?_
          refine wb_getI hX fl_62 sh_3 rfl dX5_mayEnd_34 (pq := 37) rfl ?_
          refine wb_bipush (v := iI (12)) hX dX5_mayEnd_37 (by decide) (pq := 39) rfl ?_
          refine wb_icmp_ne (tgt := 46) hX dX5_mayEnd_39 (by decide) (pq := 42) rfl (fun c_5 => ?_) (fun c_5 => ?_)
          · have h := ite_t c_5 h
            refine wb_sub [] (loc' := []) rfl ?_
            exact tRd_mayEnd_J42 hX hQ hN h
          · have h := ite_f c_5 h
            refine wb_iconst (v := iI (0)) hX dX5_mayEnd_46 rfl (pq := 47) rfl ?_
            refine wb_sub [] (loc' := []) rfl ?_
            exact tRd_mayEnd_J47 hX hQ hN h
set_option maxHeartbeats 4000000 in
set_option maxRecDepth 100000 in
theorem tRd_readUpTo_J83 {G : wG} {X : wX} {v0 : Int32} {s : wM} {r0 : Int32} {s1 : wM} (hX : wOK G X cX5_readUpTo RX5 (some .int) 3) (hQ : wRt G X (wQi G r0 s1)) (hN : wNl X = 5) (h : fRd_readUpTo_J83 v0 s = some (r0, s1)) : WB G X 83 [] [.int v0] s := by
  unfold fRd_readUpTo_J83 at h
  exact wb_iret hX hQ h dX5_readUpTo_83
set_option maxHeartbeats 4000000 in
set_option maxRecDepth 100000 in
theorem tRd_readUpTo_J82 {G : wG} {X : wX} {x3 : Int32} {s : wM} {r0 : Int32} {s1 : wM} (hX : wOK G X cX5_readUpTo RX5 (some .int) 3) (hQ : wRt G X (wQi G r0 s1)) (hN : wNl X = 5) (h : fRd_readUpTo_J82 x3 s = some (r0, s1)) : WB G X 82 [(3, .int x3)] [] s := by
  unfold fRd_readUpTo_J82 at h
  refine wb_iload_n 0 hX dX5_readUpTo_82 rfl (pq := 83) rfl ?_
  refine wb_sub [] (loc' := []) rfl ?_
  exact tRd_readUpTo_J83 hX hQ hN h
set_option maxHeartbeats 4000000 in
set_option maxRecDepth 100000 in
theorem tRd_readUpTo_L34 {G : wG} {X : wX} {x1 : Int32} {x3 : Int32} {r0 : Int32} {s1 : wM} (hX : wOK G X cX5_readUpTo RX5 (some .int) 3) (hQ : wRt G X (wQi G r0 s1)) (hN : wNl X = 5) : ∀ (n : Nat) (x4 : Int32) (s : wM), wh2 (fRd_readUpTo_L34 x1 x3) n x4 s = some (r0, s1) → WB G X 34 [(0, .ref (G.1 3)), (1, .int x1), (2, .ref (G.1 1)), (3, .int x3), (4, .int x4)] [] s := by
  intro n
  induction n with
  | zero => intro x4 s h; cases h
  | succ n hk34 =>
    intro x4 s h
    have h : fRd_readUpTo_L34 x1 x3 x4 s (wh2 (fRd_readUpTo_L34 x1 x3) n) = some (r0, s1) := h
    unfold fRd_readUpTo_L34 at h
    refine wb_iload 4 hX dX5_readUpTo_34 rfl (pq := 36) rfl ?_
    refine wb_iload_n 3 hX dX5_readUpTo_36 rfl (pq := 37) rfl ?_
    refine wb_icmp_ge (tgt := 63) hX dX5_readUpTo_37 (by decide) (fun c_1 => ?_) (pq := 40) rfl (fun c_1 => ?_)
    · have h := ite_t c_1 h
      refine wb_aload_n 2 hX dX5_readUpTo_63 rfl (pq := 64) rfl ?_
      refine wb_getI hX fl_39 sh_1 rfl dX5_readUpTo_64 (pq := 67) rfl ?_
      refine wb_iload_n 1 hX dX5_readUpTo_67 rfl (pq := 68) rfl ?_
      refine wb_icmp_gt (tgt := 82) hX dX5_readUpTo_68 (by decide) (fun c_2 => ?_) (pq := 71) rfl (fun c_2 => ?_)
      · have h := ite_t c_2 h
        refine wb_sub [3] (loc' := [(3, .int x3)]) rfl ?_
        exact tRd_readUpTo_J82 hX hQ hN h
      · have h := ite_f c_2 h
        refine wb_aload_n 0 hX dX5_readUpTo_71 rfl (pq := 72) rfl ?_
        obtain ⟨q_4, hc_3, h⟩ := bind_s h
        refine wb_callVi (r0 := q_4) (s1 := s) [] hX sh_3 ml_431 (tRd_mayEnd hc_3) (by decide) rfl rfl (Nat.le_of_ble_eq_true rfl) dX5_readUpTo_72 (pq := 75) rfl ?_
        refine wb_if_eq (tgt := 82) hX dX5_readUpTo_75 (by decide) (fun c_5 => ?_) (pq := 78) rfl (fun c_5 => ?_)
        · have h := ite_t c_5 h
          refine wb_sub [3] (loc' := [(3, .int x3)]) rfl ?_
          exact tRd_readUpTo_J82 hX hQ hN h
        · have h := ite_f c_5 h
          refine wb_iconst (v := iI (-1)) hX dX5_readUpTo_78 rfl (pq := 79) rfl ?_
          refine wb_goto (tgt := 83) hX dX5_readUpTo_79 (by decide) ?_
          refine wb_sub [] (loc' := []) rfl ?_
          exact tRd_readUpTo_J83 hX hQ hN h
    · have h := ite_f c_1 h
      refine wb_aload_n 0 hX dX5_readUpTo_40 rfl (pq := 41) rfl ?_
      refine wb_aload_n 2 hX dX5_readUpTo_41 rfl (pq := 42) rfl ?_
      refine wb_getR hX fl_36 sh_1 rfl dX5_readUpTo_42 (pq := 45) rfl ?_
      refine wb_iload 4 hX dX5_readUpTo_45 rfl (pq := 47) rfl ?_
      obtain ⟨hi_6, h⟩ := chk_some h
      refine wb_cald hX sh_2 hi_6 dX5_readUpTo_47 (pq := 48) rfl ?_
      obtain ⟨q_8, hc_7, h⟩ := bind_s h
      refine wb_callVi (r0 := q_8.1) (s1 := q_8.2) [.int (s.1 2 x4.toNatClampNeg)] hX sh_3 ml_396 (tRd_takes hc_7) (by decide) rfl rfl (Nat.le_of_ble_eq_true rfl) dX5_readUpTo_48 (pq := 51) rfl ?_
      refine wb_if_ne (tgt := 57) hX dX5_readUpTo_51 (by decide) (pq := 54) rfl (fun c_9 => ?_) (fun c_9 => ?_)
      · have h := ite_t c_9 h
        refine wb_iload 4 hX dX5_readUpTo_54 rfl (pq := 56) rfl ?_
        exact wb_iret hX hQ h dX5_readUpTo_56
      · have h := ite_f c_9 h
        refine wb_iinc (v := (x4 + iI (1))) (loc' := [(4, .int (x4 + iI (1))), (0, .ref (G.1 3)), (1, .int x1), (2, .ref (G.1 1)), (3, .int x3)]) 4 hX hN dX5_readUpTo_57 rfl rfl (by decide) rfl (pq := 60) rfl ?_
        refine wb_goto (tgt := 34) hX dX5_readUpTo_60 (by decide) ?_
        refine wb_sub [1, 2, 3, 4, 0] (loc' := [(0, .ref (G.1 3)), (1, .int x1), (2, .ref (G.1 1)), (3, .int x3), (4, .int (x4 + iI (1)))]) rfl ?_
        exact hk34 _ _ h
set_option maxHeartbeats 4000000 in
set_option maxRecDepth 100000 in
theorem tRd_readUpTo {l : Launch} {G : wG} {s : wM} {x1 : Int32} {r0 : Int32} {s1 : wM} (h : fRd_readUpTo s x1 = some (r0, s1)) : wMet l G yX5_readUpTo cX5_readUpTo 5 (some .int) 3 [.ref (G.1 3), .int x1, .ref (G.1 1)] s (wQi G r0 s1) := by
  refine wMet_of (own := RX5) (by decide +kernel) rfl (Nat.le_of_ble_eq_true rfl) ?_
  intro X hX hQ hN hl
  show WB G X 0 [(0, .ref (G.1 3)), (1, .int x1), (2, .ref (G.1 1))] [] s
  unfold fRd_readUpTo at h
  refine wb_aload_n 0 hX dX5_readUpTo_0 rfl (pq := 1) rfl ?_
  refine wb_iconst (v := iI (0)) hX dX5_readUpTo_1 rfl (pq := 2) rfl ?_
  refine wb_putI hX fp_58 sh_3 rfl dX5_readUpTo_2 rfl rfl (pq := 5) rfl ?_
  refine wb_mem (fun s_1 es_1 => ?_)
  have h := nmM_s h s_1 es_1
  refine wb_aload_n 0 hX dX5_readUpTo_5 rfl (pq := 6) rfl ?_
  refine wb_aload_n 0 hX dX5_readUpTo_6 rfl (pq := 7) rfl ?_
  refine wb_getI hX fl_61 sh_3 rfl dX5_readUpTo_7 (pq := 10) rfl ?_
  refine wb_putI hX fp_62 sh_3 rfl dX5_readUpTo_10 rfl rfl (pq := 13) rfl ?_
  refine wb_mem (fun s_2 es_2 => ?_)
  have h := nmM_s h s_2 es_2
  refine wb_aload_n 2 hX dX5_readUpTo_13 rfl (pq := 14) rfl ?_
  refine wb_getI hX fl_39 sh_1 rfl dX5_readUpTo_14 (pq := 17) rfl ?_
  refine wb_if_ne (tgt := 22) hX dX5_readUpTo_17 (by decide) (pq := 20) rfl (fun c_3 => ?_) (fun c_3 => ?_)
  · have h := ite_t c_3 h
    refine wb_iconst (v := iI (-1)) hX dX5_readUpTo_20 rfl (pq := 21) rfl ?_
    exact wb_iret hX hQ h dX5_readUpTo_21
  · have h := ite_f c_3 h
    refine wb_iload_n 1 hX dX5_readUpTo_22 rfl (pq := 23) rfl ?_
    refine wb_aload_n 2 hX dX5_readUpTo_23 rfl (pq := 24) rfl ?_
    refine wb_getI hX fl_39 sh_1 rfl dX5_readUpTo_24 (pq := 27) rfl ?_
    refine wb_mmin hX k_393 k_394 k_14 k_395 (Nat.le_of_ble_eq_true rfl) dX5_readUpTo_27 (pq := 30) rfl ?_
    refine wb_istore_n (loc' := [(3, .int (iMin x1 (s_2.1 1 1))), (0, .ref (G.1 3)), (1, .int x1), (2, .ref (G.1 1))]) hX hN dX5_readUpTo_30 (by decide) rfl (pq := 31) rfl ?_
    refine wb_iconst (v := iI (0)) hX dX5_readUpTo_31 rfl (pq := 32) rfl ?_
    refine wb_istore (loc' := [(4, .int (iI (0))), (3, .int (iMin x1 (s_2.1 1 1))), (0, .ref (G.1 3)), (1, .int x1), (2, .ref (G.1 1))]) hX hN dX5_readUpTo_32 (by decide) rfl (pq := 34) rfl ?_
    refine wb_sub [2, 3, 4, 1, 0] (loc' := [(0, .ref (G.1 3)), (1, .int x1), (2, .ref (G.1 1)), (3, .int (iMin x1 (s_2.1 1 1))), (4, .int (iI (0)))]) rfl ?_
    exact tRd_readUpTo_L34 hX hQ hN 100000 _ _ h
set_option maxHeartbeats 4000000 in
set_option maxRecDepth 100000 in
theorem tRd_readCounty {l : Launch} {G : wG} {s : wM} {x2 : Int32} {r0 : Int32} {s1 : wM} (h : fRd_readCounty s x2 = some (r0, s1)) : wMet l G yX5_readCounty cX5_readCounty 3 (some .int) 4 [.ref (G.1 3), .ref (G.1 1), .int x2] s (wQi G r0 s1) := by
  refine wMet_of (own := RX5) (by decide +kernel) rfl (Nat.le_of_ble_eq_true rfl) ?_
  intro X hX hQ hN hl
  show WB G X 0 [(0, .ref (G.1 3)), (1, .ref (G.1 1)), (2, .int x2)] [] s
  unfold fRd_readCounty at h
  refine wb_aload_n 0 hX dX5_readCounty_0 rfl (pq := 1) rfl ?_
  refine wb_iload_n 2 hX dX5_readCounty_1 rfl (pq := 2) rfl ?_
  refine wb_putI hX fp_60 sh_3 rfl dX5_readCounty_2 rfl rfl (pq := 5) rfl ?_
  refine wb_mem (fun s_1 es_1 => ?_)
  have h := nmM_s h s_1 es_1
  refine wb_aload_n 0 hX dX5_readCounty_5 rfl (pq := 6) rfl ?_
  refine wb_iconst (v := iI (0)) hX dX5_readCounty_6 rfl (pq := 7) rfl ?_
  refine wb_putI hX fp_61 sh_3 rfl dX5_readCounty_7 rfl rfl (pq := 10) rfl ?_
  refine wb_mem (fun s_2 es_2 => ?_)
  have h := nmM_s h s_2 es_2
  refine wb_aload_n 0 hX dX5_readCounty_10 rfl (pq := 11) rfl ?_
  refine wb_bipush (v := iI (76)) hX dX5_readCounty_11 (by decide) (pq := 13) rfl ?_
  refine wb_aload_n 1 hX dX5_readCounty_13 rfl (pq := 14) rfl ?_
  obtain ⟨q_4, hc_3, h⟩ := bind_s h
  refine wb_callVi (r0 := q_4.1) (s1 := q_4.2) [.int (iI (76)), .ref (G.1 1)] hX sh_3 ml_389 (tRd_readUpTo hc_3) (by decide) rfl rfl (Nat.le_of_ble_eq_true rfl) dX5_readCounty_14 (pq := 17) rfl ?_
  exact wb_iret hX hQ h dX5_readCounty_17
set_option maxHeartbeats 4000000 in
set_option maxRecDepth 100000 in
theorem tRd_readNight {l : Launch} {G : wG} {s : wM} {r0 : Int32} {s1 : wM} (h : fRd_readNight s = some (r0, s1)) : wMet l G yX5_readNight cX5_readNight 2 (some .int) 4 [.ref (G.1 3), .ref (G.1 1)] s (wQi G r0 s1) := by
  refine wMet_of (own := RX5) (by decide +kernel) rfl (Nat.le_of_ble_eq_true rfl) ?_
  intro X hX hQ hN hl
  show WB G X 0 [(0, .ref (G.1 3)), (1, .ref (G.1 1))] [] s
  unfold fRd_readNight at h
  refine wb_aload_n 0 hX dX5_readNight_0 rfl (pq := 1) rfl ?_
  refine wb_bipush (v := iI (9)) hX dX5_readNight_1 (by decide) (pq := 3) rfl ?_
  refine wb_putI hX fp_60 sh_3 rfl dX5_readNight_3 rfl rfl (pq := 6) rfl ?_
  refine wb_mem (fun s_1 es_1 => ?_)
  have h := nmM_s h s_1 es_1
  refine wb_aload_n 0 hX dX5_readNight_6 rfl (pq := 7) rfl ?_
  refine wb_bipush (v := iI (7)) hX dX5_readNight_7 (by decide) (pq := 9) rfl ?_
  refine wb_putI hX fp_61 sh_3 rfl dX5_readNight_9 rfl rfl (pq := 12) rfl ?_
  refine wb_mem (fun s_2 es_2 => ?_)
  have h := nmM_s h s_2 es_2
  refine wb_aload_n 0 hX dX5_readNight_12 rfl (pq := 13) rfl ?_
  refine wb_bipush (v := iI (40)) hX dX5_readNight_13 (by decide) (pq := 15) rfl ?_
  refine wb_aload_n 1 hX dX5_readNight_15 rfl (pq := 16) rfl ?_
  obtain ⟨q_4, hc_3, h⟩ := bind_s h
  refine wb_callVi (r0 := q_4.1) (s1 := q_4.2) [.int (iI (40)), .ref (G.1 1)] hX sh_3 ml_389 (tRd_readUpTo hc_3) (by decide) rfl rfl (Nat.le_of_ble_eq_true rfl) dX5_readNight_16 (pq := 19) rfl ?_
  exact wb_iret hX hQ h dX5_readNight_19
set_option maxHeartbeats 4000000 in
set_option maxRecDepth 100000 in
theorem tSe_prepare_J75 {G : wG} {X : wX} {k17 : Int32 → wM → Option (wM)} {k27 : Int32 → wM → Option (wM)} {x2 : Int32} {x3 : Int32} {s : wM} {s1 : wM} (hX : wOK G X cX6_prepare RX6 none 1) (hQ : wRt G X (wQv G s1)) (hN : wNl X = 4) (hk17 : ∀ (x2 : Int32) (s : wM), k17 x2 s = some s1 → WB G X 17 [(0, .ref (G.1 23)), (1, .ref (G.1 7)), (2, .int x2)] [] s) (hk27 : ∀ (x3 : Int32) (s : wM), k27 x3 s = some s1 → WB G X 27 [(0, .ref (G.1 23)), (1, .ref (G.1 7)), (2, .int x2), (3, .int x3)] [] s) (h : fSe_prepare_J75 k17 k27 x2 x3 s = some s1) : WB G X 75 [(0, .ref (G.1 23)), (1, .ref (G.1 7)), (2, .int x2), (3, .int x3)] [] s := by
  unfold fSe_prepare_J75 at h
  refine wb_iinc (v := (x3 + iI (1))) (loc' := [(3, .int (x3 + iI (1))), (0, .ref (G.1 23)), (1, .ref (G.1 7)), (2, .int x2)]) 3 hX hN dX6_prepare_75 rfl rfl (by decide) rfl (pq := 78) rfl ?_
  refine wb_goto (tgt := 27) hX dX6_prepare_78 (by decide) ?_
  refine wb_sub [1, 2, 3, 0] (loc' := [(0, .ref (G.1 23)), (1, .ref (G.1 7)), (2, .int x2), (3, .int (x3 + iI (1)))]) rfl ?_
  exact hk27 _ _ h
set_option maxHeartbeats 4000000 in
set_option maxRecDepth 100000 in
theorem tSe_prepare_L27 {G : wG} {X : wX} {k17 : Int32 → wM → Option (wM)} {x2 : Int32} {s1 : wM} (hX : wOK G X cX6_prepare RX6 none 1) (hQ : wRt G X (wQv G s1)) (hN : wNl X = 4) (hk17 : ∀ (x2 : Int32) (s : wM), k17 x2 s = some s1 → WB G X 17 [(0, .ref (G.1 23)), (1, .ref (G.1 7)), (2, .int x2)] [] s) : ∀ (n : Nat) (x3 : Int32) (s : wM), wh2 (fSe_prepare_L27 k17 x2) n x3 s = some s1 → WB G X 27 [(0, .ref (G.1 23)), (1, .ref (G.1 7)), (2, .int x2), (3, .int x3)] [] s := by
  intro n
  induction n with
  | zero => intro x3 s h; cases h
  | succ n hk27 =>
    intro x3 s h
    have h : fSe_prepare_L27 k17 x2 x3 s (wh2 (fSe_prepare_L27 k17 x2) n) = some s1 := h
    unfold fSe_prepare_L27 at h
    refine wb_iload_n 3 hX dX6_prepare_27 rfl (pq := 28) rfl ?_
    refine wb_aload_n 1 hX dX6_prepare_28 rfl (pq := 29) rfl ?_
    refine wb_getI hX fl_106 sh_7 rfl dX6_prepare_29 (pq := 32) rfl ?_
    refine wb_icmp_ge (tgt := 81) hX dX6_prepare_32 (by decide) (fun c_1 => ?_) (pq := 35) rfl (fun c_1 => ?_)
    · have h := ite_t c_1 h
      refine wb_iinc (v := (x2 + iI (1))) (loc' := [(2, .int (x2 + iI (1))), (0, .ref (G.1 23)), (1, .ref (G.1 7)), (3, .int x3)]) 2 hX hN dX6_prepare_81 rfl rfl (by decide) rfl (pq := 84) rfl ?_
      refine wb_goto (tgt := 17) hX dX6_prepare_84 (by decide) ?_
      refine wb_sub [1, 2, 0] (loc' := [(0, .ref (G.1 23)), (1, .ref (G.1 7)), (2, .int (x2 + iI (1)))]) rfl ?_
      exact hk17 _ _ h
    · have h := ite_f c_1 h
      refine wb_aload_n 1 hX dX6_prepare_35 rfl (pq := 36) rfl ?_
      refine wb_iload_n 2 hX dX6_prepare_36 rfl (pq := 37) rfl ?_
      refine wb_iload_n 3 hX dX6_prepare_37 rfl (pq := 38) rfl ?_
      obtain ⟨q_3, hc_2, h⟩ := bind_s h
      refine wb_callVi (r0 := q_3) (s1 := s) [.int x2, .int x3] hX sh_7 ml_659 (tLand_between hc_2) (by decide) rfl rfl (Nat.le_of_ble_eq_true rfl) dX6_prepare_38 (pq := 41) rfl ?_
      refine wb_iconst (v := iI (-1)) hX dX6_prepare_41 rfl (pq := 42) rfl ?_
      refine wb_icmp_eq (tgt := 75) hX dX6_prepare_42 (by decide) (fun c_4 => ?_) (pq := 45) rfl (fun c_4 => ?_)
      · have h := ite_t c_4 h
        exact tSe_prepare_J75 hX hQ hN hk17 hk27 h
      · have h := ite_f c_4 h
        refine wb_aload_n 0 hX dX6_prepare_45 rfl (pq := 46) rfl ?_
        refine wb_getR hX fl_200 sh_23 rfl dX6_prepare_46 (pq := 49) rfl ?_
        refine wb_aload_n 0 hX dX6_prepare_49 rfl (pq := 50) rfl ?_
        refine wb_getI hX fl_202 sh_23 rfl dX6_prepare_50 (pq := 53) rfl ?_
        refine wb_iload_n 2 hX dX6_prepare_53 rfl (pq := 54) rfl ?_
        obtain ⟨hi_5, h⟩ := chk_some h
        refine wb_iast hX sh_26 hi_5 dX6_prepare_54 (pq := 55) rfl ?_
        refine wb_mem (fun s_6 es_6 => ?_)
        have h := nmM_s h s_6 es_6
        refine wb_aload_n 0 hX dX6_prepare_55 rfl (pq := 56) rfl ?_
        refine wb_getR hX fl_201 sh_23 rfl dX6_prepare_56 (pq := 59) rfl ?_
        refine wb_aload_n 0 hX dX6_prepare_59 rfl (pq := 60) rfl ?_
        refine wb_getI hX fl_202 sh_23 rfl dX6_prepare_60 (pq := 63) rfl ?_
        refine wb_iload_n 3 hX dX6_prepare_63 rfl (pq := 64) rfl ?_
        obtain ⟨hi_7, h⟩ := chk_some h
        refine wb_iast hX sh_27 hi_7 dX6_prepare_64 (pq := 65) rfl ?_
        refine wb_mem (fun s_8 es_8 => ?_)
        have h := nmM_s h s_8 es_8
        refine wb_aload_n 0 hX dX6_prepare_65 rfl (pq := 66) rfl ?_
        refine wb_dup hX dX6_prepare_66 rfl (pq := 67) rfl ?_
        refine wb_getI hX fl_202 sh_23 rfl dX6_prepare_67 (pq := 70) rfl ?_
        refine wb_iconst (v := iI (1)) hX dX6_prepare_70 rfl (pq := 71) rfl ?_
        refine wb_iadd hX dX6_prepare_71 (pq := 72) rfl ?_
        refine wb_putI hX fp_202 sh_23 rfl dX6_prepare_72 rfl rfl (pq := 75) rfl ?_
        refine wb_mem (fun s_9 es_9 => ?_)
        have h := nmM_s h s_9 es_9
        exact tSe_prepare_J75 hX hQ hN hk17 hk27 h
set_option maxHeartbeats 4000000 in
set_option maxRecDepth 100000 in
theorem tSe_prepare_L17 {G : wG} {X : wX} {s1 : wM} (hX : wOK G X cX6_prepare RX6 none 1) (hQ : wRt G X (wQv G s1)) (hN : wNl X = 4) : ∀ (n : Nat) (x2 : Int32) (s : wM), wh2 (fSe_prepare_L17) n x2 s = some s1 → WB G X 17 [(0, .ref (G.1 23)), (1, .ref (G.1 7)), (2, .int x2)] [] s := by
  intro n
  induction n with
  | zero => intro x2 s h; cases h
  | succ n hk17 =>
    intro x2 s h
    have h : fSe_prepare_L17 x2 s (wh2 (fSe_prepare_L17) n) = some s1 := h
    unfold fSe_prepare_L17 at h
    refine wb_iload_n 2 hX dX6_prepare_17 rfl (pq := 18) rfl ?_
    refine wb_aload_n 1 hX dX6_prepare_18 rfl (pq := 19) rfl ?_
    refine wb_getI hX fl_106 sh_7 rfl dX6_prepare_19 (pq := 22) rfl ?_
    refine wb_icmp_ge (tgt := 87) hX dX6_prepare_22 (by decide) (fun c_1 => ?_) (pq := 25) rfl (fun c_1 => ?_)
    · have h := ite_t c_1 h
      exact wb_vret hX hQ h dX6_prepare_87
    · have h := ite_f c_1 h
      refine wb_iconst (v := iI (0)) hX dX6_prepare_25 rfl (pq := 26) rfl ?_
      refine wb_istore_n (loc' := [(3, .int (iI (0))), (0, .ref (G.1 23)), (1, .ref (G.1 7)), (2, .int x2)]) hX hN dX6_prepare_26 (by decide) rfl (pq := 27) rfl ?_
      refine wb_sub [1, 2, 3, 0] (loc' := [(0, .ref (G.1 23)), (1, .ref (G.1 7)), (2, .int x2), (3, .int (iI (0)))]) rfl ?_
      exact tSe_prepare_L27 hX hQ hN hk17 100000 _ _ h
set_option maxHeartbeats 4000000 in
set_option maxRecDepth 100000 in
theorem tSe_prepare {l : Launch} {G : wG} {s : wM} {s1 : wM} (h : fSe_prepare s = some s1) : wMet l G yX6_prepare cX6_prepare 4 none 1 [.ref (G.1 23), .ref (G.1 7)] s (wQv G s1) := by
  refine wMet_of (own := RX6) (by decide +kernel) rfl (Nat.le_of_ble_eq_true rfl) ?_
  intro X hX hQ hN hl
  show WB G X 0 [(0, .ref (G.1 23)), (1, .ref (G.1 7))] [] s
  unfold fSe_prepare at h
  refine wb_aload_n 0 hX dX6_prepare_0 rfl (pq := 1) rfl ?_
  refine wb_aload_n 1 hX dX6_prepare_1 rfl (pq := 2) rfl ?_
  refine wb_getR hX fl_100 sh_7 rfl dX6_prepare_2 (pq := 5) rfl ?_
  refine wb_iconst (v := iI (2)) hX dX6_prepare_5 rfl (pq := 6) rfl ?_
  refine wb_iald hX sh_11 (by unfold vp_in; decide) dX6_prepare_6 (pq := 7) rfl ?_
  refine wb_putI hX fp_203 sh_23 rfl dX6_prepare_7 rfl rfl (pq := 10) rfl ?_
  refine wb_mem (fun s_1 es_1 => ?_)
  have h := nmM_s h s_1 es_1
  refine wb_aload_n 0 hX dX6_prepare_10 rfl (pq := 11) rfl ?_
  refine wb_iconst (v := iI (0)) hX dX6_prepare_11 rfl (pq := 12) rfl ?_
  refine wb_putI hX fp_202 sh_23 rfl dX6_prepare_12 rfl rfl (pq := 15) rfl ?_
  refine wb_mem (fun s_2 es_2 => ?_)
  have h := nmM_s h s_2 es_2
  refine wb_iconst (v := iI (0)) hX dX6_prepare_15 rfl (pq := 16) rfl ?_
  refine wb_istore_n (loc' := [(2, .int (iI (0))), (0, .ref (G.1 23)), (1, .ref (G.1 7))]) hX hN dX6_prepare_16 (by decide) rfl (pq := 17) rfl ?_
  refine wb_sub [1, 2, 0] (loc' := [(0, .ref (G.1 23)), (1, .ref (G.1 7)), (2, .int (iI (0)))]) rfl ?_
  exact tSe_prepare_L17 hX hQ hN 100000 _ _ h
set_option maxHeartbeats 4000000 in
set_option maxRecDepth 100000 in
theorem tSe_indexOf_J82 {G : wG} {X : wX} {x6 : Int32} {s : wM} {r0 : Int32} {s1 : wM} (hX : wOK G X cX6_indexOf RX6 (some .int) 0) (hQ : wRt G X (wQi G r0 s1)) (hN : wNl X = 7) (h : fSe_indexOf_J82 x6 s = some (r0, s1)) : WB G X 82 [(6, .int x6)] [] s := by
  unfold fSe_indexOf_J82 at h
  refine wb_iload 0 hX dX6_indexOf_82 rfl (pq := 84) rfl ?_
  exact wb_iret hX hQ h dX6_indexOf_84
set_option maxHeartbeats 4000000 in
set_option maxRecDepth 100000 in
theorem tSe_indexOf_J85 {G : wG} {X : wX} {k15 : Int32 → wM → Option (Int32 × wM)} {x1 : Int64} {x3 : Int32} {s : wM} {r0 : Int32} {s1 : wM} (hX : wOK G X cX6_indexOf RX6 (some .int) 0) (hQ : wRt G X (wQi G r0 s1)) (hN : wNl X = 7) (hk15 : ∀ (x3 : Int32) (s : wM), k15 x3 s = some (r0, s1) → WB G X 15 [(0, .ref (G.1 23)), (1, .long x1), (3, .int x3)] [] s) (h : fSe_indexOf_J85 k15 x1 x3 s = some (r0, s1)) : WB G X 85 [(0, .ref (G.1 23)), (1, .long x1), (3, .int x3)] [] s := by
  unfold fSe_indexOf_J85 at h
  refine wb_aload_n 0 hX dX6_indexOf_85 rfl (pq := 86) rfl ?_
  refine wb_aload_n 0 hX dX6_indexOf_86 rfl (pq := 87) rfl ?_
  refine wb_getI hX fl_199 sh_23 rfl dX6_indexOf_87 (pq := 90) rfl ?_
  refine wb_iconst (v := iI (1)) hX dX6_indexOf_90 rfl (pq := 91) rfl ?_
  refine wb_iadd hX dX6_indexOf_91 (pq := 92) rfl ?_
  refine wb_sipush (v := iI (8191)) hX dX6_indexOf_92 (by decide) (pq := 95) rfl ?_
  refine wb_iand hX dX6_indexOf_95 (pq := 96) rfl ?_
  refine wb_putI hX fp_199 sh_23 rfl dX6_indexOf_96 rfl rfl (pq := 99) rfl ?_
  refine wb_mem (fun s_1 es_1 => ?_)
  have h := nmM_s h s_1 es_1
  refine wb_iinc (v := (x3 + iI (1))) (loc' := [(3, .int (x3 + iI (1))), (0, .ref (G.1 23)), (1, .long x1)]) 2 hX hN dX6_indexOf_99 rfl rfl (by decide) rfl (pq := 102) rfl ?_
  refine wb_goto (tgt := 15) hX dX6_indexOf_102 (by decide) ?_
  refine wb_sub [1, 2, 0] (loc' := [(0, .ref (G.1 23)), (1, .long x1), (3, .int (x3 + iI (1)))]) rfl ?_
  exact hk15 _ _ h
set_option maxHeartbeats 4000000 in
set_option maxRecDepth 100000 in
theorem tSe_indexOf_L15 {G : wG} {X : wX} {x1 : Int64} {r0 : Int32} {s1 : wM} (hX : wOK G X cX6_indexOf RX6 (some .int) 0) (hQ : wRt G X (wQi G r0 s1)) (hN : wNl X = 7) : ∀ (n : Nat) (x3 : Int32) (s : wM), wh2 (fSe_indexOf_L15 x1) n x3 s = some (r0, s1) → WB G X 15 [(0, .ref (G.1 23)), (1, .long x1), (3, .int x3)] [] s := by
  intro n
  induction n with
  | zero => intro x3 s h; cases h
  | succ n hk15 =>
    intro x3 s h
    have h : fSe_indexOf_L15 x1 x3 s (wh2 (fSe_indexOf_L15 x1) n) = some (r0, s1) := h
    unfold fSe_indexOf_L15 at h
    refine wb_iload_n 2 hX dX6_indexOf_15 rfl (pq := 16) rfl ?_
    refine wb_sipush (v := iI (8192)) hX dX6_indexOf_16 (by decide) (pq := 19) rfl ?_
    refine wb_icmp_ge (tgt := 105) hX dX6_indexOf_19 (by decide) (fun c_1 => ?_) (pq := 22) rfl (fun c_1 => ?_)
    · have h := ite_t c_1 h
      refine wb_iconst (v := iI (-1)) hX dX6_indexOf_105 rfl (pq := 106) rfl ?_
      exact wb_iret hX hQ h dX6_indexOf_106
    · have h := ite_f c_1 h
      refine wb_aload_n 0 hX dX6_indexOf_22 rfl (pq := 23) rfl ?_
      refine wb_getR hX fl_198 sh_23 rfl dX6_indexOf_23 (pq := 26) rfl ?_
      refine wb_aload_n 0 hX dX6_indexOf_26 rfl (pq := 27) rfl ?_
      refine wb_getI hX fl_199 sh_23 rfl dX6_indexOf_27 (pq := 30) rfl ?_
      refine wb_iconst (v := iI (4)) hX dX6_indexOf_30 rfl (pq := 31) rfl ?_
      refine wb_idiv hX dX6_indexOf_31 (by decide) (pq := 32) rfl ?_
      obtain ⟨hi_2, h⟩ := chk_some h
      refine wb_lald hX sh_25 hi_2 dX6_indexOf_32 (pq := 33) rfl ?_
      refine wb_aload_n 0 hX dX6_indexOf_33 rfl (pq := 34) rfl ?_
      refine wb_getI hX fl_199 sh_23 rfl dX6_indexOf_34 (pq := 37) rfl ?_
      refine wb_iconst (v := iI (4)) hX dX6_indexOf_37 rfl (pq := 38) rfl ?_
      refine wb_irem hX dX6_indexOf_38 (by decide) (pq := 39) rfl ?_
      refine wb_bipush (v := iI (16)) hX dX6_indexOf_39 (by decide) (pq := 41) rfl ?_
      refine wb_imul hX dX6_indexOf_41 (pq := 42) rfl ?_
      refine wb_lushr hX dX6_indexOf_42 (pq := 43) rfl ?_
      refine wb_topl (fun y_3 ey_3 => ?_)
      have h := nmL_s h y_3 ey_3
      refine wb_lstore (loc' := [(4, .long y_3), (0, .ref (G.1 23)), (1, .long x1), (3, .int x3)]) hX hN dX6_indexOf_43 (by decide) rfl (pq := 45) rfl ?_
      refine wb_lload 0 hX dX6_indexOf_45 rfl (pq := 47) rfl ?_
      refine wb_ldc2 (v := (65535 : Int64)) hX k_684 dX6_indexOf_47 (pq := 50) rfl ?_
      refine wb_land hX dX6_indexOf_50 (pq := 51) rfl ?_
      refine wb_l2i hX dX6_indexOf_51 (pq := 52) rfl ?_
      refine wb_iconst (v := iI (1)) hX dX6_indexOf_52 rfl (pq := 53) rfl ?_
      refine wb_isub hX dX6_indexOf_53 (pq := 54) rfl ?_
      refine wb_topi (fun y_4 ey_4 => ?_)
      have h := nmI_s h y_4 ey_4
      refine wb_istore (loc' := [(6, .int y_4), (4, .long y_3), (0, .ref (G.1 23)), (1, .long x1), (3, .int x3)]) hX hN dX6_indexOf_54 (by decide) rfl (pq := 56) rfl ?_
      refine wb_iload 0 hX dX6_indexOf_56 rfl (pq := 58) rfl ?_
      refine wb_if_lt (tgt := 82) hX dX6_indexOf_58 (by decide) (fun c_5 => ?_) (pq := 61) rfl (fun c_5 => ?_)
      · have h := ite_t c_5 h
        refine wb_sub [0] (loc' := [(6, .int y_4)]) rfl ?_
        exact tSe_indexOf_J82 hX hQ hN h
      · have h := ite_f c_5 h
        refine wb_iload 0 hX dX6_indexOf_61 rfl (pq := 63) rfl ?_
        refine wb_aload_n 2 hX dX6_indexOf_63 rfl (pq := 64) rfl ?_
        refine wb_getI hX fl_196 sh_23 rfl dX6_indexOf_64 (pq := 67) rfl ?_
        refine wb_icmp_ge (tgt := 85) hX dX6_indexOf_67 (by decide) (fun c_6 => ?_) (pq := 70) rfl (fun c_6 => ?_)
        · have h := ite_t c_6 h
          refine wb_sub [2, 3, 4] (loc' := [(0, .ref (G.1 23)), (1, .long x1), (3, .int x3)]) rfl ?_
          exact tSe_indexOf_J85 hX hQ hN hk15 h
        · have h := ite_f c_6 h
          refine wb_aload_n 2 hX dX6_indexOf_70 rfl (pq := 71) rfl ?_
          refine wb_getR hX fl_194 sh_23 rfl dX6_indexOf_71 (pq := 74) rfl ?_
          refine wb_iload 0 hX dX6_indexOf_74 rfl (pq := 76) rfl ?_
          obtain ⟨hi_7, h⟩ := chk_some h
          refine wb_lald hX sh_24 hi_7 dX6_indexOf_76 (pq := 77) rfl ?_
          refine wb_lload_n 3 hX dX6_indexOf_77 rfl (pq := 78) rfl ?_
          refine wb_lcmp hX dX6_indexOf_78 (pq := 79) rfl ?_
          refine wb_if_ne (tgt := 85) hX dX6_indexOf_79 (by decide) (pq := 82) rfl (fun c_8 => ?_) (fun c_8 => ?_)
          · have h := ite_t c_8 h
            refine wb_sub [0] (loc' := [(6, .int y_4)]) rfl ?_
            exact tSe_indexOf_J82 hX hQ hN h
          · have h := ite_f c_8 h
            refine wb_sub [2, 3, 4] (loc' := [(0, .ref (G.1 23)), (1, .long x1), (3, .int x3)]) rfl ?_
            exact tSe_indexOf_J85 hX hQ hN hk15 h
set_option maxHeartbeats 4000000 in
set_option maxRecDepth 100000 in
theorem tSe_indexOf {l : Launch} {G : wG} {s : wM} {x1 : Int64} {r0 : Int32} {s1 : wM} (h : fSe_indexOf s x1 = some (r0, s1)) : wMet l G yX6_indexOf cX6_indexOf 7 (some .int) 0 [.ref (G.1 23), .long x1] s (wQi G r0 s1) := by
  refine wMet_of (own := RX6) (by decide +kernel) rfl (Nat.le_of_ble_eq_true rfl) ?_
  intro X hX hQ hN hl
  show WB G X 0 [(0, .ref (G.1 23)), (1, .long x1)] [] s
  unfold fSe_indexOf at h
  refine wb_aload_n 0 hX dX6_indexOf_0 rfl (pq := 1) rfl ?_
  refine wb_lload_n 1 hX dX6_indexOf_1 rfl (pq := 2) rfl ?_
  refine wb_ldc2 (v := (-7046029254386353131 : Int64)) hX k_683 dX6_indexOf_2 (pq := 5) rfl ?_
  refine wb_lmul hX dX6_indexOf_5 (pq := 6) rfl ?_
  refine wb_bipush (v := iI (51)) hX dX6_indexOf_6 (by decide) (pq := 8) rfl ?_
  refine wb_lushr hX dX6_indexOf_8 (pq := 9) rfl ?_
  refine wb_l2i hX dX6_indexOf_9 (pq := 10) rfl ?_
  refine wb_putI hX fp_199 sh_23 rfl dX6_indexOf_10 rfl rfl (pq := 13) rfl ?_
  refine wb_mem (fun s_1 es_1 => ?_)
  have h := nmM_s h s_1 es_1
  refine wb_iconst (v := iI (0)) hX dX6_indexOf_13 rfl (pq := 14) rfl ?_
  refine wb_istore_n (loc' := [(3, .int (iI (0))), (0, .ref (G.1 23)), (1, .long x1)]) hX hN dX6_indexOf_14 (by decide) rfl (pq := 15) rfl ?_
  refine wb_sub [1, 2, 0] (loc' := [(0, .ref (G.1 23)), (1, .long x1), (3, .int (iI (0)))]) rfl ?_
  exact tSe_indexOf_L15 hX hQ hN 100000 _ _ h
set_option maxHeartbeats 4000000 in
set_option maxRecDepth 100000 in
theorem tSe_add_J19 {G : wG} {X : wX} {s : wM} {r0 : Int32} {s1 : wM} (hX : wOK G X cX6_add RX6 (some .boolean) 1) (hQ : wRt G X (wQi G r0 s1)) (hN : wNl X = 3) (h : fSe_add_J19 s = some (r0, s1)) : WB G X 19 [] [] s := by
  unfold fSe_add_J19 at h
  refine wb_iconst (v := iI (0)) hX dX6_add_19 rfl (pq := 20) rfl ?_
  exact wb_zret hX hQ h nar01.1.1 dX6_add_20
set_option maxHeartbeats 4000000 in
set_option maxRecDepth 100000 in
theorem tSe_add {l : Launch} {G : wG} {s : wM} {x1 : Int64} {r0 : Int32} {s1 : wM} (h : fSe_add s x1 = some (r0, s1)) : wMet l G yX6_add cX6_add 3 (some .boolean) 1 [.ref (G.1 23), .long x1] s (wQi G r0 s1) := by
  refine wMet_of (own := RX6) (by decide +kernel) rfl (Nat.le_of_ble_eq_true rfl) ?_
  intro X hX hQ hN hl
  show WB G X 0 [(0, .ref (G.1 23)), (1, .long x1)] [] s
  unfold fSe_add at h
  refine wb_aload_n 0 hX dX6_add_0 rfl (pq := 1) rfl ?_
  refine wb_getI hX fl_196 sh_23 rfl dX6_add_1 (pq := 4) rfl ?_
  refine wb_sipush (v := iI (3000)) hX dX6_add_4 (by decide) (pq := 7) rfl ?_
  refine wb_icmp_ge (tgt := 19) hX dX6_add_7 (by decide) (fun c_1 => ?_) (pq := 10) rfl (fun c_1 => ?_)
  · have h := ite_t c_1 h
    refine wb_sub [] (loc' := []) rfl ?_
    exact tSe_add_J19 hX hQ hN h
  · have h := ite_f c_1 h
    refine wb_aload_n 0 hX dX6_add_10 rfl (pq := 11) rfl ?_
    refine wb_lload_n 1 hX dX6_add_11 rfl (pq := 12) rfl ?_
    obtain ⟨q_3, hc_2, h⟩ := bind_s h
    refine wb_callVi (r0 := q_3.1) (s1 := q_3.2) [.long x1] hX sh_23 ml_679 (tSe_indexOf hc_2) (by decide) rfl rfl (Nat.le_of_ble_eq_true rfl) dX6_add_12 (pq := 15) rfl ?_
    refine wb_iconst (v := iI (-1)) hX dX6_add_15 rfl (pq := 16) rfl ?_
    refine wb_icmp_eq (tgt := 21) hX dX6_add_16 (by decide) (fun c_4 => ?_) (pq := 19) rfl (fun c_4 => ?_)
    · have h := ite_t c_4 h
      refine wb_aload_n 0 hX dX6_add_21 rfl (pq := 22) rfl ?_
      refine wb_getR hX fl_198 sh_23 rfl dX6_add_22 (pq := 25) rfl ?_
      refine wb_aload_n 0 hX dX6_add_25 rfl (pq := 26) rfl ?_
      refine wb_getI hX fl_199 sh_23 rfl dX6_add_26 (pq := 29) rfl ?_
      refine wb_iconst (v := iI (4)) hX dX6_add_29 rfl (pq := 30) rfl ?_
      refine wb_idiv hX dX6_add_30 (by decide) (pq := 31) rfl ?_
      refine wb_dup2 hX dX6_add_31 rfl rfl (pq := 32) rfl ?_
      obtain ⟨hi_5, h⟩ := chk_some h
      refine wb_lald hX sh_25 hi_5 dX6_add_32 (pq := 33) rfl ?_
      refine wb_aload_n 0 hX dX6_add_33 rfl (pq := 34) rfl ?_
      refine wb_getI hX fl_196 sh_23 rfl dX6_add_34 (pq := 37) rfl ?_
      refine wb_i2l hX dX6_add_37 (pq := 38) rfl ?_
      refine wb_lconst (v := (1 : Int64)) hX dX6_add_38 rfl (pq := 39) rfl ?_
      refine wb_ladd hX dX6_add_39 (pq := 40) rfl ?_
      refine wb_aload_n 0 hX dX6_add_40 rfl (pq := 41) rfl ?_
      refine wb_getI hX fl_199 sh_23 rfl dX6_add_41 (pq := 44) rfl ?_
      refine wb_iconst (v := iI (4)) hX dX6_add_44 rfl (pq := 45) rfl ?_
      refine wb_irem hX dX6_add_45 (by decide) (pq := 46) rfl ?_
      refine wb_bipush (v := iI (16)) hX dX6_add_46 (by decide) (pq := 48) rfl ?_
      refine wb_imul hX dX6_add_48 (pq := 49) rfl ?_
      refine wb_lshl hX dX6_add_49 (pq := 50) rfl ?_
      refine wb_lor hX dX6_add_50 (pq := 51) rfl ?_
      refine wb_last hX sh_25 hi_5 dX6_add_51 (pq := 52) rfl ?_
      refine wb_mem (fun s_6 es_6 => ?_)
      have h := nmM_s h s_6 es_6
      refine wb_aload_n 0 hX dX6_add_52 rfl (pq := 53) rfl ?_
      refine wb_getR hX fl_194 sh_23 rfl dX6_add_53 (pq := 56) rfl ?_
      refine wb_aload_n 0 hX dX6_add_56 rfl (pq := 57) rfl ?_
      refine wb_getI hX fl_196 sh_23 rfl dX6_add_57 (pq := 60) rfl ?_
      refine wb_lload_n 1 hX dX6_add_60 rfl (pq := 61) rfl ?_
      obtain ⟨hi_7, h⟩ := chk_some h
      refine wb_last hX sh_24 hi_7 dX6_add_61 (pq := 62) rfl ?_
      refine wb_mem (fun s_8 es_8 => ?_)
      have h := nmM_s h s_8 es_8
      refine wb_aload_n 0 hX dX6_add_62 rfl (pq := 63) rfl ?_
      refine wb_dup hX dX6_add_63 rfl (pq := 64) rfl ?_
      refine wb_getI hX fl_196 sh_23 rfl dX6_add_64 (pq := 67) rfl ?_
      refine wb_iconst (v := iI (1)) hX dX6_add_67 rfl (pq := 68) rfl ?_
      refine wb_iadd hX dX6_add_68 (pq := 69) rfl ?_
      refine wb_putI hX fp_196 sh_23 rfl dX6_add_69 rfl rfl (pq := 72) rfl ?_
      refine wb_mem (fun s_9 es_9 => ?_)
      have h := nmM_s h s_9 es_9
      refine wb_iconst (v := iI (1)) hX dX6_add_72 rfl (pq := 73) rfl ?_
      exact wb_zret hX hQ h nar01.2.1 dX6_add_73
    · have h := ite_f c_4 h
      refine wb_sub [] (loc' := []) rfl ?_
      exact tSe_add_J19 hX hQ hN h
set_option maxHeartbeats 4000000 in
set_option maxRecDepth 100000 in
theorem tSe_start {l : Launch} {G : wG} {s : wM} {x1 : Int64} {s1 : wM} (h : fSe_start s x1 = some s1) : wMet l G yX6_start cX6_start 3 none 2 [.ref (G.1 23), .long x1] s (wQv G s1) := by
  refine wMet_of (own := RX6) (by decide +kernel) rfl (Nat.le_of_ble_eq_true rfl) ?_
  intro X hX hQ hN hl
  show WB G X 0 [(0, .ref (G.1 23)), (1, .long x1)] [] s
  unfold fSe_start at h
  refine wb_aload_n 0 hX dX6_start_0 rfl (pq := 1) rfl ?_
  refine wb_getR hX fl_198 sh_23 rfl dX6_start_1 (pq := 4) rfl ?_
  refine wb_lconst (v := (0 : Int64)) hX dX6_start_4 rfl (pq := 5) rfl ?_
  refine wb_callSv [.ref (G.1 25), .long (0 : Int64)] hX ml_672 (tFillL sh_25) (by decide) rfl rfl (Nat.le_of_ble_eq_true rfl) dX6_start_5 (pq := 8) rfl ?_
  refine wb_mem (fun s_1 es_1 => ?_)
  have h := nmM_s h s_1 es_1
  refine wb_aload_n 0 hX dX6_start_8 rfl (pq := 9) rfl ?_
  refine wb_iconst (v := iI (0)) hX dX6_start_9 rfl (pq := 10) rfl ?_
  refine wb_putI hX fp_196 sh_23 rfl dX6_start_10 rfl rfl (pq := 13) rfl ?_
  refine wb_mem (fun s_2 es_2 => ?_)
  have h := nmM_s h s_2 es_2
  refine wb_aload_n 0 hX dX6_start_13 rfl (pq := 14) rfl ?_
  refine wb_iconst (v := iI (0)) hX dX6_start_14 rfl (pq := 15) rfl ?_
  refine wb_putI hX fp_204 sh_23 rfl dX6_start_15 rfl rfl (pq := 18) rfl ?_
  refine wb_mem (fun s_3 es_3 => ?_)
  have h := nmM_s h s_3 es_3
  refine wb_aload_n 0 hX dX6_start_18 rfl (pq := 19) rfl ?_
  refine wb_iconst (v := iI (0)) hX dX6_start_19 rfl (pq := 20) rfl ?_
  refine wb_putI hX fp_205 sh_23 rfl dX6_start_20 rfl rfl (pq := 23) rfl ?_
  refine wb_mem (fun s_4 es_4 => ?_)
  have h := nmM_s h s_4 es_4
  refine wb_aload_n 0 hX dX6_start_23 rfl (pq := 24) rfl ?_
  refine wb_iconst (v := iI (0)) hX dX6_start_24 rfl (pq := 25) rfl ?_
  refine wb_putI hX fp_206 sh_23 rfl dX6_start_25 nar01.1.1 nar01.1.2.1 (pq := 28) rfl ?_
  refine wb_mem (fun s_5 es_5 => ?_)
  have h := nmM_s h s_5 es_5
  refine wb_aload_n 0 hX dX6_start_28 rfl (pq := 29) rfl ?_
  refine wb_lload_n 1 hX dX6_start_29 rfl (pq := 30) rfl ?_
  obtain ⟨q_7, hc_6, h⟩ := bind_s h
  refine wb_callVi (r0 := q_7.1) (s1 := q_7.2) [.long x1] hX sh_23 ml_675 (tSe_add hc_6) (by decide) rfl rfl (Nat.le_of_ble_eq_true rfl) dX6_start_30 (pq := 33) rfl ?_
  refine wb_pop hX dX6_start_33 rfl (pq := 34) rfl ?_
  exact wb_vret hX hQ h dX6_start_34
set_option maxHeartbeats 4000000 in
set_option maxRecDepth 100000 in
theorem tSe_carried_J63 {G : wG} {X : wX} {s : wM} {r0 : Int64} (hX : wOK G X cX6_carried RX6 (some .long) 0) (hQ : wRt G X (wQl G r0 s)) (hN : wNl X = 8) (h : fSe_carried_J63 s = some r0) : WB G X 63 [] [] s := by
  unfold fSe_carried_J63 at h
  refine wb_ldc2 (v := (-1 : Int64)) hX k_693 dX6_carried_63 (pq := 66) rfl ?_
  exact wb_lretP hX hQ h dX6_carried_66
set_option maxHeartbeats 4000000 in
set_option maxRecDepth 100000 in
theorem tSe_carried {l : Launch} {G : wG} {s : wM} {x1 : Int64} {x3 : Int32} {r0 : Int64} (h : fSe_carried s x1 x3 = some r0) : wMet l G yX6_carried cX6_carried 8 (some .long) 0 [.ref (G.1 23), .long x1, .int x3] s (wQl G r0 s) := by
  refine wMet_of (own := RX6) (by decide +kernel) rfl (Nat.le_of_ble_eq_true rfl) ?_
  intro X hX hQ hN hl
  show WB G X 0 [(0, .ref (G.1 23)), (1, .long x1), (3, .int x3)] [] s
  unfold fSe_carried at h
  refine wb_bipush (v := iI (7)) hX dX6_carried_0 (by decide) (pq := 2) rfl ?_
  refine wb_aload_n 0 hX dX6_carried_2 rfl (pq := 3) rfl ?_
  refine wb_getR hX fl_200 sh_23 rfl dX6_carried_3 (pq := 6) rfl ?_
  refine wb_iload_n 2 hX dX6_carried_6 rfl (pq := 7) rfl ?_
  obtain ⟨hi_1, h⟩ := chk_some h
  refine wb_iald hX sh_26 hi_1 dX6_carried_7 (pq := 8) rfl ?_
  refine wb_imul hX dX6_carried_8 (pq := 9) rfl ?_
  refine wb_istore (loc' := [(4, .int ((iI (7)) * (s.1 26 x3.toNatClampNeg))), (0, .ref (G.1 23)), (1, .long x1), (3, .int x3)]) hX hN dX6_carried_9 (by decide) rfl (pq := 11) rfl ?_
  refine wb_bipush (v := iI (7)) hX dX6_carried_11 (by decide) (pq := 13) rfl ?_
  refine wb_aload_n 1 hX dX6_carried_13 rfl (pq := 14) rfl ?_
  refine wb_getR hX fl_201 sh_23 rfl dX6_carried_14 (pq := 17) rfl ?_
  refine wb_iload_n 3 hX dX6_carried_17 rfl (pq := 18) rfl ?_
  refine wb_iald hX sh_27 hi_1 dX6_carried_18 (pq := 19) rfl ?_
  refine wb_imul hX dX6_carried_19 (pq := 20) rfl ?_
  refine wb_istore (loc' := [(5, .int ((iI (7)) * (s.1 27 x3.toNatClampNeg))), (4, .int ((iI (7)) * (s.1 26 x3.toNatClampNeg))), (0, .ref (G.1 23)), (1, .long x1), (3, .int x3)]) hX hN dX6_carried_20 (by decide) rfl (pq := 22) rfl ?_
  refine wb_lload_n 3 hX dX6_carried_22 rfl (pq := 23) rfl ?_
  refine wb_iload 1 hX dX6_carried_23 rfl (pq := 25) rfl ?_
  refine wb_lushr hX dX6_carried_25 (pq := 26) rfl ?_
  refine wb_l2i hX dX6_carried_26 (pq := 27) rfl ?_
  refine wb_bipush (v := iI (127)) hX dX6_carried_27 (by decide) (pq := 29) rfl ?_
  refine wb_iand hX dX6_carried_29 (pq := 30) rfl ?_
  refine wb_topi (fun y_2 ey_2 => ?_)
  have h := nmI_s h y_2 ey_2
  refine wb_istore (loc' := [(6, .int y_2), (5, .int ((iI (7)) * (s.1 27 x3.toNatClampNeg))), (4, .int ((iI (7)) * (s.1 26 x3.toNatClampNeg))), (0, .ref (G.1 23)), (1, .long x1), (3, .int x3)]) hX hN dX6_carried_30 (by decide) rfl (pq := 32) rfl ?_
  refine wb_lload_n 4 hX dX6_carried_32 rfl (pq := 33) rfl ?_
  refine wb_iload 1 hX dX6_carried_33 rfl (pq := 35) rfl ?_
  refine wb_lushr hX dX6_carried_35 (pq := 36) rfl ?_
  refine wb_l2i hX dX6_carried_36 (pq := 37) rfl ?_
  refine wb_bipush (v := iI (127)) hX dX6_carried_37 (by decide) (pq := 39) rfl ?_
  refine wb_iand hX dX6_carried_39 (pq := 40) rfl ?_
  refine wb_topi (fun y_3 ey_3 => ?_)
  have h := nmI_s h y_3 ey_3
  refine wb_istore (loc' := [(7, .int y_3), (6, .int y_2), (5, .int ((iI (7)) * (s.1 27 x3.toNatClampNeg))), (4, .int ((iI (7)) * (s.1 26 x3.toNatClampNeg))), (0, .ref (G.1 23)), (1, .long x1), (3, .int x3)]) hX hN dX6_carried_40 (by decide) rfl (pq := 42) rfl ?_
  refine wb_iload 1 hX dX6_carried_42 rfl (pq := 44) rfl ?_
  refine wb_aload_n 4 hX dX6_carried_44 rfl (pq := 45) rfl ?_
  refine wb_getI hX fl_203 sh_23 rfl dX6_carried_45 (pq := 48) rfl ?_
  refine wb_icmp_lt (tgt := 63) hX dX6_carried_48 (by decide) (fun c_4 => ?_) (pq := 51) rfl (fun c_4 => ?_)
  · have h := ite_t c_4 h
    refine wb_sub [] (loc' := []) rfl ?_
    exact tSe_carried_J63 hX hQ hN h
  · have h := ite_f c_4 h
    refine wb_iload 0 hX dX6_carried_51 rfl (pq := 53) rfl ?_
    refine wb_bipush (v := iI (99)) hX dX6_carried_53 (by decide) (pq := 55) rfl ?_
    refine wb_aload_n 4 hX dX6_carried_55 rfl (pq := 56) rfl ?_
    refine wb_getI hX fl_203 sh_23 rfl dX6_carried_56 (pq := 59) rfl ?_
    refine wb_isub hX dX6_carried_59 (pq := 60) rfl ?_
    refine wb_icmp_le (tgt := 67) hX dX6_carried_60 (by decide) (fun c_5 => ?_) (pq := 63) rfl (fun c_5 => ?_)
    · have h := ite_t c_5 h
      refine wb_lload_n 5 hX dX6_carried_67 rfl (pq := 68) rfl ?_
      refine wb_aload_n 4 hX dX6_carried_68 rfl (pq := 69) rfl ?_
      refine wb_getI hX fl_203 sh_23 rfl dX6_carried_69 (pq := 72) rfl ?_
      refine wb_i2l hX dX6_carried_72 (pq := 73) rfl ?_
      refine wb_iload 3 hX dX6_carried_73 rfl (pq := 75) rfl ?_
      refine wb_lshl hX dX6_carried_75 (pq := 76) rfl ?_
      refine wb_lsub hX dX6_carried_76 (pq := 77) rfl ?_
      refine wb_aload_n 4 hX dX6_carried_77 rfl (pq := 78) rfl ?_
      refine wb_getI hX fl_203 sh_23 rfl dX6_carried_78 (pq := 81) rfl ?_
      refine wb_i2l hX dX6_carried_81 (pq := 82) rfl ?_
      refine wb_iload 2 hX dX6_carried_82 rfl (pq := 84) rfl ?_
      refine wb_lshl hX dX6_carried_84 (pq := 85) rfl ?_
      refine wb_ladd hX dX6_carried_85 (pq := 86) rfl ?_
      exact wb_lretP hX hQ h dX6_carried_86
    · have h := ite_f c_5 h
      refine wb_sub [] (loc' := []) rfl ?_
      exact tSe_carried_J63 hX hQ hN h
set_option maxHeartbeats 4000000 in
set_option maxRecDepth 100000 in
theorem tSe_findOne_J104 {G : wG} {X : wX} {v0 : Int32} {s : wM} {r0 : Int32} {s1 : wM} (hX : wOK G X cX6_findOne RX6 (some .boolean) 2) (hQ : wRt G X (wQi G r0 s1)) (hN : wNl X = 4) (h : fSe_findOne_J104 v0 s = some (r0, s1)) : WB G X 104 [] [.int v0] s := by
  unfold fSe_findOne_J104 at h
  obtain ⟨hz_1, h⟩ := chkZ_some h
  exact wb_zret hX hQ h hz_1.1 dX6_findOne_104
set_option maxHeartbeats 4000000 in
set_option maxRecDepth 100000 in
theorem tSe_findOne_J103 {G : wG} {X : wX} {s : wM} {r0 : Int32} {s1 : wM} (hX : wOK G X cX6_findOne RX6 (some .boolean) 2) (hQ : wRt G X (wQi G r0 s1)) (hN : wNl X = 4) (h : fSe_findOne_J103 s = some (r0, s1)) : WB G X 103 [] [] s := by
  unfold fSe_findOne_J103 at h
  refine wb_iconst (v := iI (0)) hX dX6_findOne_103 rfl (pq := 104) rfl ?_
  exact tSe_findOne_J104 hX hQ hN h
set_option maxHeartbeats 4000000 in
set_option maxRecDepth 100000 in
theorem tSe_findOne_J81 {G : wG} {X : wX} {x2 : Int64} {v0 : Int32} {s : wM} {r0 : Int32} {s1 : wM} (hX : wOK G X cX6_findOne RX6 (some .boolean) 2) (hQ : wRt G X (wQi G r0 s1)) (hN : wNl X = 4) (h : fSe_findOne_J81 x2 v0 s = some (r0, s1)) : WB G X 81 [(0, .ref (G.1 23)), (2, .long x2)] [.int v0, .ref (G.1 23)] s := by
  unfold fSe_findOne_J81 at h
  obtain ⟨hz_1, h⟩ := chkZ_some h
  refine wb_putI hX fp_206 sh_23 rfl dX6_findOne_81 hz_1.1 hz_1.2.1 (pq := 84) rfl ?_
  refine wb_mem (fun s_2 es_2 => ?_)
  have h := nmM_s h s_2 es_2
  refine wb_aload_n 0 hX dX6_findOne_84 rfl (pq := 85) rfl ?_
  refine wb_getI hX fl_206 sh_23 rfl dX6_findOne_85 (pq := 88) rfl ?_
  refine wb_if_ne (tgt := 103) hX dX6_findOne_88 (by decide) (pq := 91) rfl (fun c_3 => ?_) (fun c_3 => ?_)
  · have h := ite_t c_3 h
    refine wb_aload_n 0 hX dX6_findOne_91 rfl (pq := 92) rfl ?_
    refine wb_lload_n 1 hX dX6_findOne_92 rfl (pq := 93) rfl ?_
    obtain ⟨q_5, hc_4, h⟩ := bind_s h
    refine wb_callVi (r0 := q_5.1) (s1 := q_5.2) [.long x2] hX sh_23 ml_675 (tSe_add hc_4) (by decide) rfl rfl (Nat.le_of_ble_eq_true rfl) dX6_findOne_93 (pq := 96) rfl ?_
    refine wb_if_eq (tgt := 103) hX dX6_findOne_96 (by decide) (fun c_6 => ?_) (pq := 99) rfl (fun c_6 => ?_)
    · have h := ite_t c_6 h
      refine wb_sub [] (loc' := []) rfl ?_
      exact tSe_findOne_J103 hX hQ hN h
    · have h := ite_f c_6 h
      refine wb_iconst (v := iI (1)) hX dX6_findOne_99 rfl (pq := 100) rfl ?_
      refine wb_goto (tgt := 104) hX dX6_findOne_100 (by decide) ?_
      refine wb_sub [] (loc' := []) rfl ?_
      exact tSe_findOne_J104 hX hQ hN h
  · have h := ite_f c_3 h
    refine wb_sub [] (loc' := []) rfl ?_
    exact tSe_findOne_J103 hX hQ hN h
set_option maxHeartbeats 4000000 in
set_option maxRecDepth 100000 in
theorem tSe_findOne_J105 {G : wG} {X : wX} {k0 : wM → Option (Int32 × wM)} {k19 : wM → Option (Int32 × wM)} {x1 : Int32} {s : wM} {r0 : Int32} {s1 : wM} (hX : wOK G X cX6_findOne RX6 (some .boolean) 2) (hQ : wRt G X (wQi G r0 s1)) (hN : wNl X = 4) (hk0 : ∀ (s : wM), k0 s = some (r0, s1) → WB G X 0 [(0, .ref (G.1 23)), (1, .int x1)] [] s) (hk19 : ∀ (s : wM), k19 s = some (r0, s1) → WB G X 19 [(0, .ref (G.1 23)), (1, .int x1)] [] s) (h : fSe_findOne_J105 k0 k19 x1 s = some (r0, s1)) : WB G X 105 [(0, .ref (G.1 23)), (1, .int x1)] [] s := by
  unfold fSe_findOne_J105 at h
  refine wb_aload_n 0 hX dX6_findOne_105 rfl (pq := 106) rfl ?_
  refine wb_dup hX dX6_findOne_106 rfl (pq := 107) rfl ?_
  refine wb_getI hX fl_205 sh_23 rfl dX6_findOne_107 (pq := 110) rfl ?_
  refine wb_iconst (v := iI (1)) hX dX6_findOne_110 rfl (pq := 111) rfl ?_
  refine wb_iadd hX dX6_findOne_111 (pq := 112) rfl ?_
  refine wb_putI hX fp_205 sh_23 rfl dX6_findOne_112 rfl rfl (pq := 115) rfl ?_
  refine wb_mem (fun s_1 es_1 => ?_)
  have h := nmM_s h s_1 es_1
  refine wb_goto (tgt := 19) hX dX6_findOne_115 (by decide) ?_
  exact hk19 _ h
set_option maxHeartbeats 4000000 in
set_option maxRecDepth 100000 in
theorem tSe_findOne_L19 {G : wG} {X : wX} {k0 : wM → Option (Int32 × wM)} {x1 : Int32} {r0 : Int32} {s1 : wM} (hX : wOK G X cX6_findOne RX6 (some .boolean) 2) (hQ : wRt G X (wQi G r0 s1)) (hN : wNl X = 4) (hk0 : ∀ (s : wM), k0 s = some (r0, s1) → WB G X 0 [(0, .ref (G.1 23)), (1, .int x1)] [] s) : ∀ (n : Nat) (s : wM), wh1 (fSe_findOne_L19 k0 x1) n s = some (r0, s1) → WB G X 19 [(0, .ref (G.1 23)), (1, .int x1)] [] s := by
  intro n
  induction n with
  | zero => intro s h; cases h
  | succ n hk19 =>
    intro s h
    have h : fSe_findOne_L19 k0 x1 s (wh1 (fSe_findOne_L19 k0 x1) n) = some (r0, s1) := h
    unfold fSe_findOne_L19 at h
    refine wb_aload_n 0 hX dX6_findOne_19 rfl (pq := 20) rfl ?_
    refine wb_getI hX fl_205 sh_23 rfl dX6_findOne_20 (pq := 23) rfl ?_
    refine wb_aload_n 0 hX dX6_findOne_23 rfl (pq := 24) rfl ?_
    refine wb_getI hX fl_202 sh_23 rfl dX6_findOne_24 (pq := 27) rfl ?_
    refine wb_icmp_ge (tgt := 118) hX dX6_findOne_27 (by decide) (fun c_1 => ?_) (pq := 30) rfl (fun c_1 => ?_)
    · have h := ite_t c_1 h
      refine wb_aload_n 0 hX dX6_findOne_118 rfl (pq := 119) rfl ?_
      refine wb_iconst (v := iI (0)) hX dX6_findOne_119 rfl (pq := 120) rfl ?_
      refine wb_putI hX fp_205 sh_23 rfl dX6_findOne_120 rfl rfl (pq := 123) rfl ?_
      refine wb_mem (fun s_2 es_2 => ?_)
      have h := nmM_s h s_2 es_2
      refine wb_aload_n 0 hX dX6_findOne_123 rfl (pq := 124) rfl ?_
      refine wb_dup hX dX6_findOne_124 rfl (pq := 125) rfl ?_
      refine wb_getI hX fl_204 sh_23 rfl dX6_findOne_125 (pq := 128) rfl ?_
      refine wb_iconst (v := iI (1)) hX dX6_findOne_128 rfl (pq := 129) rfl ?_
      refine wb_iadd hX dX6_findOne_129 (pq := 130) rfl ?_
      refine wb_putI hX fp_204 sh_23 rfl dX6_findOne_130 rfl rfl (pq := 133) rfl ?_
      refine wb_mem (fun s_3 es_3 => ?_)
      have h := nmM_s h s_3 es_3
      refine wb_goto (tgt := 0) hX dX6_findOne_133 (by decide) ?_
      exact hk0 _ h
    · have h := ite_f c_1 h
      refine wb_aload_n 0 hX dX6_findOne_30 rfl (pq := 31) rfl ?_
      refine wb_aload_n 0 hX dX6_findOne_31 rfl (pq := 32) rfl ?_
      refine wb_getR hX fl_194 sh_23 rfl dX6_findOne_32 (pq := 35) rfl ?_
      refine wb_aload_n 0 hX dX6_findOne_35 rfl (pq := 36) rfl ?_
      refine wb_getI hX fl_204 sh_23 rfl dX6_findOne_36 (pq := 39) rfl ?_
      obtain ⟨hi_4, h⟩ := chk_some h
      refine wb_lald hX sh_24 hi_4 dX6_findOne_39 (pq := 40) rfl ?_
      refine wb_aload_n 0 hX dX6_findOne_40 rfl (pq := 41) rfl ?_
      refine wb_getI hX fl_205 sh_23 rfl dX6_findOne_41 (pq := 44) rfl ?_
      obtain ⟨q_6, hc_5, h⟩ := bind_s h
      refine wb_callVl (r0 := q_6) (s1 := s) [.long (s.2 24 (s.1 23 8).toNatClampNeg), .int (s.1 23 9)] hX sh_23 ml_689 (tSe_carried hc_5) (by decide) rfl rfl (Nat.le_of_ble_eq_true rfl) dX6_findOne_44 (pq := 47) rfl ?_
      refine wb_lstore_n (loc' := [(2, .long q_6), (0, .ref (G.1 23)), (1, .int x1)]) hX hN dX6_findOne_47 (by decide) rfl (pq := 48) rfl ?_
      refine wb_lload_n 0 hX dX6_findOne_48 rfl (pq := 49) rfl ?_
      refine wb_ldc2 (v := (-1 : Int64)) hX k_693 dX6_findOne_49 (pq := 52) rfl ?_
      refine wb_lcmp hX dX6_findOne_52 (pq := 53) rfl ?_
      refine wb_if_eq (tgt := 105) hX dX6_findOne_53 (by decide) (fun c_7 => ?_) (pq := 56) rfl (fun c_7 => ?_)
      · have h := ite_t c_7 h
        refine wb_sub [1, 2] (loc' := [(0, .ref (G.1 23)), (1, .int x1)]) rfl ?_
        exact tSe_findOne_J105 hX hQ hN hk0 hk19 h
      · have h := ite_f c_7 h
        refine wb_aload_n 1 hX dX6_findOne_56 rfl (pq := 57) rfl ?_
        refine wb_lload_n 0 hX dX6_findOne_57 rfl (pq := 58) rfl ?_
        obtain ⟨q_9, hc_8, h⟩ := bind_s h
        refine wb_callVi (r0 := q_9.1) (s1 := q_9.2) [.long q_6] hX sh_23 ml_679 (tSe_indexOf hc_8) (by decide) rfl rfl (Nat.le_of_ble_eq_true rfl) dX6_findOne_58 (pq := 61) rfl ?_
        refine wb_iconst (v := iI (-1)) hX dX6_findOne_61 rfl (pq := 62) rfl ?_
        refine wb_icmp_ne (tgt := 105) hX dX6_findOne_62 (by decide) (pq := 65) rfl (fun c_10 => ?_) (fun c_10 => ?_)
        · have h := ite_t c_10 h
          refine wb_aload_n 1 hX dX6_findOne_65 rfl (pq := 66) rfl ?_
          refine wb_aload_n 1 hX dX6_findOne_66 rfl (pq := 67) rfl ?_
          refine wb_getI hX fl_196 sh_23 rfl dX6_findOne_67 (pq := 70) rfl ?_
          refine wb_sipush (v := iI (3000)) hX dX6_findOne_70 (by decide) (pq := 73) rfl ?_
          refine wb_icmp_ne (tgt := 80) hX dX6_findOne_73 (by decide) (pq := 76) rfl (fun c_11 => ?_) (fun c_11 => ?_)
          · have h := ite_t c_11 h
            refine wb_iconst (v := iI (1)) hX dX6_findOne_76 rfl (pq := 77) rfl ?_
            refine wb_goto (tgt := 81) hX dX6_findOne_77 (by decide) ?_
            refine wb_sub [1, 0] (loc' := [(0, .ref (G.1 23)), (2, .long q_6)]) rfl ?_
            exact tSe_findOne_J81 hX hQ hN h
          · have h := ite_f c_11 h
            refine wb_iconst (v := iI (0)) hX dX6_findOne_80 rfl (pq := 81) rfl ?_
            refine wb_sub [1, 0] (loc' := [(0, .ref (G.1 23)), (2, .long q_6)]) rfl ?_
            exact tSe_findOne_J81 hX hQ hN h
        · have h := ite_f c_10 h
          refine wb_sub [1, 2] (loc' := [(0, .ref (G.1 23)), (1, .int x1)]) rfl ?_
          exact tSe_findOne_J105 hX hQ hN hk0 hk19 h
set_option maxHeartbeats 4000000 in
set_option maxRecDepth 100000 in
theorem tSe_findOne_J136 {G : wG} {X : wX} {s : wM} {r0 : Int32} {s1 : wM} (hX : wOK G X cX6_findOne RX6 (some .boolean) 2) (hQ : wRt G X (wQi G r0 s1)) (hN : wNl X = 4) (h : fSe_findOne_J136 s = some (r0, s1)) : WB G X 136 [] [] s := by
  unfold fSe_findOne_J136 at h
  refine wb_iconst (v := iI (0)) hX dX6_findOne_136 rfl (pq := 137) rfl ?_
  exact wb_zret hX hQ h nar01.1.1 dX6_findOne_137
set_option maxHeartbeats 4000000 in
set_option maxRecDepth 100000 in
theorem tSe_findOne_L0 {G : wG} {X : wX} {x1 : Int32} {r0 : Int32} {s1 : wM} (hX : wOK G X cX6_findOne RX6 (some .boolean) 2) (hQ : wRt G X (wQi G r0 s1)) (hN : wNl X = 4) : ∀ (n : Nat) (s : wM), wh1 (fSe_findOne_L0 x1) n s = some (r0, s1) → WB G X 0 [(0, .ref (G.1 23)), (1, .int x1)] [] s := by
  intro n
  induction n with
  | zero => intro s h; cases h
  | succ n hk0 =>
    intro s h
    have h : fSe_findOne_L0 x1 s (wh1 (fSe_findOne_L0 x1) n) = some (r0, s1) := h
    unfold fSe_findOne_L0 at h
    refine wb_aload_n 0 hX dX6_findOne_0 rfl (pq := 1) rfl ?_
    refine wb_getI hX fl_204 sh_23 rfl dX6_findOne_1 (pq := 4) rfl ?_
    refine wb_iload_n 1 hX dX6_findOne_4 rfl (pq := 5) rfl ?_
    refine wb_icmp_ge (tgt := 136) hX dX6_findOne_5 (by decide) (fun c_1 => ?_) (pq := 8) rfl (fun c_1 => ?_)
    · have h := ite_t c_1 h
      refine wb_sub [] (loc' := []) rfl ?_
      exact tSe_findOne_J136 hX hQ hN h
    · have h := ite_f c_1 h
      refine wb_aload_n 0 hX dX6_findOne_8 rfl (pq := 9) rfl ?_
      refine wb_getI hX fl_204 sh_23 rfl dX6_findOne_9 (pq := 12) rfl ?_
      refine wb_aload_n 0 hX dX6_findOne_12 rfl (pq := 13) rfl ?_
      refine wb_getI hX fl_196 sh_23 rfl dX6_findOne_13 (pq := 16) rfl ?_
      refine wb_icmp_ge (tgt := 136) hX dX6_findOne_16 (by decide) (fun c_2 => ?_) (pq := 19) rfl (fun c_2 => ?_)
      · have h := ite_t c_2 h
        refine wb_sub [] (loc' := []) rfl ?_
        exact tSe_findOne_J136 hX hQ hN h
      · have h := ite_f c_2 h
        exact tSe_findOne_L19 hX hQ hN hk0 100000 _ h
set_option maxHeartbeats 4000000 in
set_option maxRecDepth 100000 in
theorem tSe_findOne {l : Launch} {G : wG} {s : wM} {x1 : Int32} {r0 : Int32} {s1 : wM} (h : fSe_findOne s x1 = some (r0, s1)) : wMet l G yX6_findOne cX6_findOne 4 (some .boolean) 2 [.ref (G.1 23), .int x1] s (wQi G r0 s1) := by
  refine wMet_of (own := RX6) (by decide +kernel) rfl (Nat.le_of_ble_eq_true rfl) ?_
  intro X hX hQ hN hl
  show WB G X 0 [(0, .ref (G.1 23)), (1, .int x1)] [] s
  unfold fSe_findOne at h
  exact tSe_findOne_L0 hX hQ hN 100000 _ h
set_option maxHeartbeats 4000000 in
set_option maxRecDepth 100000 in
theorem tSe_firstSuch_J74 {G : wG} {X : wX} {x4 : Int32} {s : wM} {r0 : Int32} {s1 : wM} (hX : wOK G X cX6_firstSuch RX6 (some .int) 3) (hQ : wRt G X (wQi G r0 s1)) (hN : wNl X = 5) (h : fSe_firstSuch_J74 x4 s = some (r0, s1)) : WB G X 74 [(4, .int x4)] [] s := by
  unfold fSe_firstSuch_J74 at h
  refine wb_iload 0 hX dX6_firstSuch_74 rfl (pq := 76) rfl ?_
  exact wb_iret hX hQ h dX6_firstSuch_76
set_option maxHeartbeats 4000000 in
set_option maxRecDepth 100000 in
theorem tSe_firstSuch_J77 {G : wG} {X : wX} {k11 : Int32 → wM → Option (Int32 × wM)} {x2 : Int32} {x3 : Int32} {x4 : Int32} {s : wM} {r0 : Int32} {s1 : wM} (hX : wOK G X cX6_firstSuch RX6 (some .int) 3) (hQ : wRt G X (wQi G r0 s1)) (hN : wNl X = 5) (hk11 : ∀ (x4 : Int32) (s : wM), k11 x4 s = some (r0, s1) → WB G X 11 [(0, .ref (G.1 23)), (1, .ref (G.1 13)), (2, .int x2), (3, .int x3), (4, .int x4)] [] s) (h : fSe_firstSuch_J77 k11 x2 x3 x4 s = some (r0, s1)) : WB G X 77 [(0, .ref (G.1 23)), (1, .ref (G.1 13)), (2, .int x2), (3, .int x3), (4, .int x4)] [] s := by
  unfold fSe_firstSuch_J77 at h
  refine wb_iinc (v := (x4 + iI (1))) (loc' := [(4, .int (x4 + iI (1))), (0, .ref (G.1 23)), (1, .ref (G.1 13)), (2, .int x2), (3, .int x3)]) 4 hX hN dX6_firstSuch_77 rfl rfl (by decide) rfl (pq := 80) rfl ?_
  refine wb_goto (tgt := 11) hX dX6_firstSuch_80 (by decide) ?_
  refine wb_sub [1, 2, 3, 4, 0] (loc' := [(0, .ref (G.1 23)), (1, .ref (G.1 13)), (2, .int x2), (3, .int x3), (4, .int (x4 + iI (1)))]) rfl ?_
  exact hk11 _ _ h
set_option maxHeartbeats 4000000 in
set_option maxRecDepth 100000 in
theorem tSe_firstSuch_J38 {G : wG} {X : wX} {k11 : Int32 → wM → Option (Int32 × wM)} {x2 : Int32} {x3 : Int32} {x4 : Int32} {s : wM} {r0 : Int32} {s1 : wM} (hX : wOK G X cX6_firstSuch RX6 (some .int) 3) (hQ : wRt G X (wQi G r0 s1)) (hN : wNl X = 5) (hk11 : ∀ (x4 : Int32) (s : wM), k11 x4 s = some (r0, s1) → WB G X 11 [(0, .ref (G.1 23)), (1, .ref (G.1 13)), (2, .int x2), (3, .int x3), (4, .int x4)] [] s) (h : fSe_firstSuch_J38 k11 x2 x3 x4 s = some (r0, s1)) : WB G X 38 [(0, .ref (G.1 23)), (1, .ref (G.1 13)), (2, .int x2), (3, .int x3), (4, .int x4)] [] s := by
  unfold fSe_firstSuch_J38 at h
  refine wb_aload_n 1 hX dX6_firstSuch_38 rfl (pq := 39) rfl ?_
  refine wb_aload_n 0 hX dX6_firstSuch_39 rfl (pq := 40) rfl ?_
  refine wb_getR hX fl_194 sh_23 rfl dX6_firstSuch_40 (pq := 43) rfl ?_
  refine wb_iload 4 hX dX6_firstSuch_43 rfl (pq := 45) rfl ?_
  obtain ⟨hi_1, h⟩ := chk_some h
  refine wb_lald hX sh_24 hi_1 dX6_firstSuch_45 (pq := 46) rfl ?_
  obtain ⟨q_3, hc_2, h⟩ := bind_s h
  refine wb_callVv (s1 := q_3) [.long (s.2 24 x4.toNatClampNeg)] hX sh_13 ml_694 (tAh_unpack hc_2) (by decide) rfl rfl (Nat.le_of_ble_eq_true rfl) dX6_firstSuch_46 (pq := 49) rfl ?_
  refine wb_iload_n 2 hX dX6_firstSuch_49 rfl (pq := 50) rfl ?_
  refine wb_iconst (v := iI (-1)) hX dX6_firstSuch_50 rfl (pq := 51) rfl ?_
  refine wb_icmp_ne (tgt := 64) hX dX6_firstSuch_51 (by decide) (pq := 54) rfl (fun c_4 => ?_) (fun c_4 => ?_)
  · have h := ite_t c_4 h
    refine wb_aload_n 1 hX dX6_firstSuch_54 rfl (pq := 55) rfl ?_
    obtain ⟨q_6, hc_5, h⟩ := bind_s h
    refine wb_callVi (r0 := q_6) (s1 := q_3) [] hX sh_13 ml_698 (tAh_isLawful hc_5) (by decide) rfl rfl (Nat.le_of_ble_eq_true rfl) dX6_firstSuch_55 (pq := 58) rfl ?_
    refine wb_if_eq (tgt := 77) hX dX6_firstSuch_58 (by decide) (fun c_7 => ?_) (pq := 61) rfl (fun c_7 => ?_)
    · have h := ite_t c_7 h
      exact tSe_firstSuch_J77 hX hQ hN hk11 h
    · have h := ite_f c_7 h
      refine wb_goto (tgt := 74) hX dX6_firstSuch_61 (by decide) ?_
      refine wb_sub [4] (loc' := [(4, .int x4)]) rfl ?_
      exact tSe_firstSuch_J74 hX hQ hN h
  · have h := ite_f c_4 h
    refine wb_aload_n 1 hX dX6_firstSuch_64 rfl (pq := 65) rfl ?_
    refine wb_getR hX fl_136 sh_13 rfl dX6_firstSuch_65 (pq := 68) rfl ?_
    refine wb_iload_n 2 hX dX6_firstSuch_68 rfl (pq := 69) rfl ?_
    obtain ⟨hi_8, h⟩ := chk_some h
    refine wb_iald hX sh_14 hi_8 dX6_firstSuch_69 (pq := 70) rfl ?_
    refine wb_iload_n 3 hX dX6_firstSuch_70 rfl (pq := 71) rfl ?_
    refine wb_icmp_lt (tgt := 77) hX dX6_firstSuch_71 (by decide) (fun c_9 => ?_) (pq := 74) rfl (fun c_9 => ?_)
    · have h := ite_t c_9 h
      exact tSe_firstSuch_J77 hX hQ hN hk11 h
    · have h := ite_f c_9 h
      refine wb_sub [4] (loc' := [(4, .int x4)]) rfl ?_
      exact tSe_firstSuch_J74 hX hQ hN h
set_option maxHeartbeats 4000000 in
set_option maxRecDepth 100000 in
theorem tSe_firstSuch_J105 {G : wG} {X : wX} {v0 : Int32} {s : wM} {r0 : Int32} {s1 : wM} (hX : wOK G X cX6_firstSuch RX6 (some .int) 3) (hQ : wRt G X (wQi G r0 s1)) (hN : wNl X = 5) (h : fSe_firstSuch_J105 v0 s = some (r0, s1)) : WB G X 105 [] [.int v0] s := by
  unfold fSe_firstSuch_J105 at h
  exact wb_iret hX hQ h dX6_firstSuch_105
set_option maxHeartbeats 4000000 in
set_option maxRecDepth 100000 in
theorem tSe_firstSuch_J83 {G : wG} {X : wX} {s : wM} {r0 : Int32} {s1 : wM} (hX : wOK G X cX6_firstSuch RX6 (some .int) 3) (hQ : wRt G X (wQi G r0 s1)) (hN : wNl X = 5) (h : fSe_firstSuch_J83 s = some (r0, s1)) : WB G X 83 [(0, .ref (G.1 23))] [] s := by
  unfold fSe_firstSuch_J83 at h
  refine wb_aload_n 0 hX dX6_firstSuch_83 rfl (pq := 84) rfl ?_
  refine wb_sipush (v := iI (3000)) hX dX6_firstSuch_84 (by decide) (pq := 87) rfl ?_
  obtain ⟨q_2, hc_1, h⟩ := bind_s h
  refine wb_callVi (r0 := q_2.1) (s1 := q_2.2) [.int (iI (3000))] hX sh_23 ml_685 (tSe_findOne hc_1) (by decide) rfl rfl (Nat.le_of_ble_eq_true rfl) dX6_firstSuch_87 (pq := 90) rfl ?_
  refine wb_pop hX dX6_firstSuch_90 rfl (pq := 91) rfl ?_
  refine wb_aload_n 0 hX dX6_firstSuch_91 rfl (pq := 92) rfl ?_
  refine wb_getI hX fl_206 sh_23 rfl dX6_firstSuch_92 (pq := 95) rfl ?_
  refine wb_if_eq (tgt := 103) hX dX6_firstSuch_95 (by decide) (fun c_3 => ?_) (pq := 98) rfl (fun c_3 => ?_)
  · have h := ite_t c_3 h
    refine wb_bipush (v := iI (-2)) hX dX6_firstSuch_103 (by decide) (pq := 105) rfl ?_
    refine wb_sub [] (loc' := []) rfl ?_
    exact tSe_firstSuch_J105 hX hQ hN h
  · have h := ite_f c_3 h
    refine wb_bipush (v := iI (-3)) hX dX6_firstSuch_98 (by decide) (pq := 100) rfl ?_
    refine wb_goto (tgt := 105) hX dX6_firstSuch_100 (by decide) ?_
    refine wb_sub [] (loc' := []) rfl ?_
    exact tSe_firstSuch_J105 hX hQ hN h
set_option maxHeartbeats 4000000 in
set_option maxRecDepth 100000 in
theorem tSe_firstSuch_L11 {G : wG} {X : wX} {x2 : Int32} {x3 : Int32} {r0 : Int32} {s1 : wM} (hX : wOK G X cX6_firstSuch RX6 (some .int) 3) (hQ : wRt G X (wQi G r0 s1)) (hN : wNl X = 5) : ∀ (n : Nat) (x4 : Int32) (s : wM), wh2 (fSe_firstSuch_L11 x2 x3) n x4 s = some (r0, s1) → WB G X 11 [(0, .ref (G.1 23)), (1, .ref (G.1 13)), (2, .int x2), (3, .int x3), (4, .int x4)] [] s := by
  intro n
  induction n with
  | zero => intro x4 s h; cases h
  | succ n hk11 =>
    intro x4 s h
    have h : fSe_firstSuch_L11 x2 x3 x4 s (wh2 (fSe_firstSuch_L11 x2 x3) n) = some (r0, s1) := h
    unfold fSe_firstSuch_L11 at h
    refine wb_iload 4 hX dX6_firstSuch_11 rfl (pq := 13) rfl ?_
    refine wb_sipush (v := iI (3000)) hX dX6_firstSuch_13 (by decide) (pq := 16) rfl ?_
    refine wb_icmp_ge (tgt := 83) hX dX6_firstSuch_16 (by decide) (fun c_1 => ?_) (pq := 19) rfl (fun c_1 => ?_)
    · have h := ite_t c_1 h
      refine wb_sub [0] (loc' := [(0, .ref (G.1 23))]) rfl ?_
      exact tSe_firstSuch_J83 hX hQ hN h
    · have h := ite_f c_1 h
      refine wb_iload 4 hX dX6_firstSuch_19 rfl (pq := 21) rfl ?_
      refine wb_aload_n 0 hX dX6_firstSuch_21 rfl (pq := 22) rfl ?_
      refine wb_getI hX fl_196 sh_23 rfl dX6_firstSuch_22 (pq := 25) rfl ?_
      refine wb_icmp_lt (tgt := 38) hX dX6_firstSuch_25 (by decide) (fun c_2 => ?_) (pq := 28) rfl (fun c_2 => ?_)
      · have h := ite_t c_2 h
        exact tSe_firstSuch_J38 hX hQ hN hk11 h
      · have h := ite_f c_2 h
        refine wb_aload_n 0 hX dX6_firstSuch_28 rfl (pq := 29) rfl ?_
        refine wb_sipush (v := iI (3000)) hX dX6_firstSuch_29 (by decide) (pq := 32) rfl ?_
        obtain ⟨q_4, hc_3, h⟩ := bind_s h
        refine wb_callVi (r0 := q_4.1) (s1 := q_4.2) [.int (iI (3000))] hX sh_23 ml_685 (tSe_findOne hc_3) (by decide) rfl rfl (Nat.le_of_ble_eq_true rfl) dX6_firstSuch_32 (pq := 35) rfl ?_
        refine wb_if_eq (tgt := 83) hX dX6_firstSuch_35 (by decide) (fun c_5 => ?_) (pq := 38) rfl (fun c_5 => ?_)
        · have h := ite_t c_5 h
          refine wb_sub [0] (loc' := [(0, .ref (G.1 23))]) rfl ?_
          exact tSe_firstSuch_J83 hX hQ hN h
        · have h := ite_f c_5 h
          exact tSe_firstSuch_J38 hX hQ hN hk11 h
set_option maxHeartbeats 4000000 in
set_option maxRecDepth 100000 in
theorem tSe_firstSuch {l : Launch} {G : wG} {s : wM} {x2 : Int32} {x3 : Int32} {r0 : Int32} {s1 : wM} (h : fSe_firstSuch s x2 x3 = some (r0, s1)) : wMet l G yX6_firstSuch cX6_firstSuch 5 (some .int) 3 [.ref (G.1 23), .ref (G.1 13), .int x2, .int x3] s (wQi G r0 s1) := by
  refine wMet_of (own := RX6) (by decide +kernel) rfl (Nat.le_of_ble_eq_true rfl) ?_
  intro X hX hQ hN hl
  show WB G X 0 [(0, .ref (G.1 23)), (1, .ref (G.1 13)), (2, .int x2), (3, .int x3)] [] s
  unfold fSe_firstSuch at h
  refine wb_aload_n 0 hX dX6_firstSuch_0 rfl (pq := 1) rfl ?_
  refine wb_aload_n 1 hX dX6_firstSuch_1 rfl (pq := 2) rfl ?_
  obtain ⟨q_2, hc_1, h⟩ := bind_s h
  refine wb_callVl (r0 := q_2) (s1 := s) [] hX sh_13 ml_664 (tAh_pack hc_1) (by decide) rfl rfl (Nat.le_of_ble_eq_true rfl) dX6_firstSuch_2 (pq := 5) rfl ?_
  obtain ⟨q_4, hc_3, h⟩ := bind_s h
  refine wb_callVv (s1 := q_4) [.long q_2] hX sh_23 ml_668 (tSe_start hc_3) (by decide) rfl rfl (Nat.le_of_ble_eq_true rfl) dX6_firstSuch_5 (pq := 8) rfl ?_
  refine wb_iconst (v := iI (0)) hX dX6_firstSuch_8 rfl (pq := 9) rfl ?_
  refine wb_istore (loc' := [(4, .int (iI (0))), (0, .ref (G.1 23)), (1, .ref (G.1 13)), (2, .int x2), (3, .int x3)]) hX hN dX6_firstSuch_9 (by decide) rfl (pq := 11) rfl ?_
  refine wb_sub [1, 2, 3, 4, 0] (loc' := [(0, .ref (G.1 23)), (1, .ref (G.1 13)), (2, .int x2), (3, .int x3), (4, .int (iI (0)))]) rfl ?_
  exact tSe_firstSuch_L11 hX hQ hN 100000 _ _ h
set_option maxHeartbeats 4000000 in
set_option maxRecDepth 100000 in
theorem tSe_findWithin_J60 {G : wG} {X : wX} {k8 : Int32 → wM → Option (Int32 × wM)} {x3 : Int32} {x4 : Int32} {s : wM} {r0 : Int32} {s1 : wM} (hX : wOK G X cX6_findWithin RX6 (some .boolean) 3) (hQ : wRt G X (wQi G r0 s1)) (hN : wNl X = 8) (hk8 : ∀ (x4 : Int32) (s : wM), k8 x4 s = some (r0, s1) → WB G X 8 [(0, .ref (G.1 23)), (3, .int x3), (4, .int x4)] [] s) (h : fSe_findWithin_J60 k8 x3 x4 s = some (r0, s1)) : WB G X 60 [(0, .ref (G.1 23)), (3, .int x3), (4, .int x4)] [] s := by
  unfold fSe_findWithin_J60 at h
  refine wb_iinc (v := (x4 + iI (1))) (loc' := [(4, .int (x4 + iI (1))), (0, .ref (G.1 23)), (3, .int x3)]) 2 hX hN dX6_findWithin_60 rfl rfl (by decide) rfl (pq := 63) rfl ?_
  refine wb_goto (tgt := 8) hX dX6_findWithin_63 (by decide) ?_
  refine wb_sub [1, 2, 0] (loc' := [(0, .ref (G.1 23)), (3, .int x3), (4, .int (x4 + iI (1)))]) rfl ?_
  exact hk8 _ _ h
set_option maxHeartbeats 4000000 in
set_option maxRecDepth 100000 in
theorem tSe_findWithin_L33 {G : wG} {X : wX} {k8 : Int32 → wM → Option (Int32 × wM)} {x3 : Int32} {x4 : Int32} {x5 : Int32} {r0 : Int32} {s1 : wM} (hX : wOK G X cX6_findWithin RX6 (some .boolean) 3) (hQ : wRt G X (wQi G r0 s1)) (hN : wNl X = 8) (hk8 : ∀ (x4 : Int32) (s : wM), k8 x4 s = some (r0, s1) → WB G X 8 [(0, .ref (G.1 23)), (3, .int x3), (4, .int x4)] [] s) : ∀ (n : Nat) (x6 : Int32) (x7 : Int32) (s : wM), wh3 (fSe_findWithin_L33 k8 x3 x4 x5) n x6 x7 s = some (r0, s1) → WB G X 33 [(0, .ref (G.1 23)), (3, .int x3), (4, .int x4), (5, .int x5), (6, .int x6), (7, .int x7)] [] s := by
  intro n
  induction n with
  | zero => intro x6 x7 s h; cases h
  | succ n hk33 =>
    intro x6 x7 s h
    have h : fSe_findWithin_L33 k8 x3 x4 x5 x6 x7 s (wh3 (fSe_findWithin_L33 k8 x3 x4 x5) n) = some (r0, s1) := h
    unfold fSe_findWithin_L33 at h
    refine wb_iload 5 hX dX6_findWithin_33 rfl (pq := 35) rfl ?_
    refine wb_sipush (v := iI (3000)) hX dX6_findWithin_35 (by decide) (pq := 38) rfl ?_
    refine wb_icmp_gt (tgt := 60) hX dX6_findWithin_38 (by decide) (fun c_1 => ?_) (pq := 41) rfl (fun c_1 => ?_)
    · have h := ite_t c_1 h
      refine wb_sub [0, 1, 2] (loc' := [(0, .ref (G.1 23)), (3, .int x3), (4, .int x4)]) rfl ?_
      exact tSe_findWithin_J60 hX hQ hN hk8 h
    · have h := ite_f c_1 h
      refine wb_iload 4 hX dX6_findWithin_41 rfl (pq := 43) rfl ?_
      refine wb_if_eq (tgt := 60) hX dX6_findWithin_43 (by decide) (fun c_2 => ?_) (pq := 46) rfl (fun c_2 => ?_)
      · have h := ite_t c_2 h
        refine wb_sub [0, 1, 2] (loc' := [(0, .ref (G.1 23)), (3, .int x3), (4, .int x4)]) rfl ?_
        exact tSe_findWithin_J60 hX hQ hN hk8 h
      · have h := ite_f c_2 h
        refine wb_aload_n 0 hX dX6_findWithin_46 rfl (pq := 47) rfl ?_
        refine wb_iload 3 hX dX6_findWithin_47 rfl (pq := 49) rfl ?_
        obtain ⟨q_4, hc_3, h⟩ := bind_s h
        refine wb_callVi (r0 := q_4.1) (s1 := q_4.2) [.int x5] hX sh_23 ml_685 (tSe_findOne hc_3) (by decide) rfl rfl (Nat.le_of_ble_eq_true rfl) dX6_findWithin_49 (pq := 52) rfl ?_
        refine wb_istore (loc' := [(6, .int q_4.1), (0, .ref (G.1 23)), (3, .int x3), (4, .int x4), (5, .int x5), (7, .int x7)]) hX hN dX6_findWithin_52 (by decide) rfl (pq := 54) rfl ?_
        refine wb_iinc (v := (x7 + iI (1))) (loc' := [(7, .int (x7 + iI (1))), (6, .int q_4.1), (0, .ref (G.1 23)), (3, .int x3), (4, .int x4), (5, .int x5)]) 5 hX hN dX6_findWithin_54 rfl rfl (by decide) rfl (pq := 57) rfl ?_
        refine wb_goto (tgt := 33) hX dX6_findWithin_57 (by decide) ?_
        refine wb_sub [2, 3, 4, 5, 1, 0] (loc' := [(0, .ref (G.1 23)), (3, .int x3), (4, .int x4), (5, .int x5), (6, .int q_4.1), (7, .int (x7 + iI (1)))]) rfl ?_
        exact hk33 _ _ _ h
set_option maxHeartbeats 4000000 in
set_option maxRecDepth 100000 in
theorem tSe_findWithin_J78 {G : wG} {X : wX} {v0 : Int32} {s : wM} {r0 : Int32} {s1 : wM} (hX : wOK G X cX6_findWithin RX6 (some .boolean) 3) (hQ : wRt G X (wQi G r0 s1)) (hN : wNl X = 8) (h : fSe_findWithin_J78 v0 s = some (r0, s1)) : WB G X 78 [] [.int v0] s := by
  unfold fSe_findWithin_J78 at h
  obtain ⟨hz_1, h⟩ := chkZ_some h
  exact wb_zret hX hQ h hz_1.1 dX6_findWithin_78
set_option maxHeartbeats 4000000 in
set_option maxRecDepth 100000 in
theorem tSe_findWithin_J66 {G : wG} {X : wX} {s : wM} {r0 : Int32} {s1 : wM} (hX : wOK G X cX6_findWithin RX6 (some .boolean) 3) (hQ : wRt G X (wQi G r0 s1)) (hN : wNl X = 8) (h : fSe_findWithin_J66 s = some (r0, s1)) : WB G X 66 [(0, .ref (G.1 23))] [] s := by
  unfold fSe_findWithin_J66 at h
  refine wb_aload_n 0 hX dX6_findWithin_66 rfl (pq := 67) rfl ?_
  refine wb_getI hX fl_206 sh_23 rfl dX6_findWithin_67 (pq := 70) rfl ?_
  refine wb_if_ne (tgt := 77) hX dX6_findWithin_70 (by decide) (pq := 73) rfl (fun c_1 => ?_) (fun c_1 => ?_)
  · have h := ite_t c_1 h
    refine wb_iconst (v := iI (1)) hX dX6_findWithin_73 rfl (pq := 74) rfl ?_
    refine wb_goto (tgt := 78) hX dX6_findWithin_74 (by decide) ?_
    refine wb_sub [] (loc' := []) rfl ?_
    exact tSe_findWithin_J78 hX hQ hN h
  · have h := ite_f c_1 h
    refine wb_iconst (v := iI (0)) hX dX6_findWithin_77 rfl (pq := 78) rfl ?_
    refine wb_sub [] (loc' := []) rfl ?_
    exact tSe_findWithin_J78 hX hQ hN h
set_option maxHeartbeats 4000000 in
set_option maxRecDepth 100000 in
theorem tSe_findWithin_L8 {G : wG} {X : wX} {x3 : Int32} {r0 : Int32} {s1 : wM} (hX : wOK G X cX6_findWithin RX6 (some .boolean) 3) (hQ : wRt G X (wQi G r0 s1)) (hN : wNl X = 8) : ∀ (n : Nat) (x4 : Int32) (s : wM), wh2 (fSe_findWithin_L8 x3) n x4 s = some (r0, s1) → WB G X 8 [(0, .ref (G.1 23)), (3, .int x3), (4, .int x4)] [] s := by
  intro n
  induction n with
  | zero => intro x4 s h; cases h
  | succ n hk8 =>
    intro x4 s h
    have h : fSe_findWithin_L8 x3 x4 s (wh2 (fSe_findWithin_L8 x3) n) = some (r0, s1) := h
    unfold fSe_findWithin_L8 at h
    refine wb_iload 2 hX dX6_findWithin_8 rfl (pq := 10) rfl ?_
    refine wb_iload_n 1 hX dX6_findWithin_10 rfl (pq := 11) rfl ?_
    refine wb_icmp_ge (tgt := 66) hX dX6_findWithin_11 (by decide) (fun c_1 => ?_) (pq := 14) rfl (fun c_1 => ?_)
    · have h := ite_t c_1 h
      refine wb_sub [0] (loc' := [(0, .ref (G.1 23))]) rfl ?_
      exact tSe_findWithin_J66 hX hQ hN h
    · have h := ite_f c_1 h
      refine wb_aload_n 0 hX dX6_findWithin_14 rfl (pq := 15) rfl ?_
      refine wb_getI hX fl_206 sh_23 rfl dX6_findWithin_15 (pq := 18) rfl ?_
      refine wb_if_ne (tgt := 66) hX dX6_findWithin_18 (by decide) (pq := 21) rfl (fun c_2 => ?_) (fun c_2 => ?_)
      · have h := ite_t c_2 h
        refine wb_aload_n 0 hX dX6_findWithin_21 rfl (pq := 22) rfl ?_
        refine wb_getI hX fl_196 sh_23 rfl dX6_findWithin_22 (pq := 25) rfl ?_
        refine wb_istore (loc' := [(5, .int (s.1 23 1)), (0, .ref (G.1 23)), (3, .int x3), (4, .int x4)]) hX hN dX6_findWithin_25 (by decide) rfl (pq := 27) rfl ?_
        refine wb_iconst (v := iI (1)) hX dX6_findWithin_27 rfl (pq := 28) rfl ?_
        refine wb_istore (loc' := [(6, .int (iI (1))), (5, .int (s.1 23 1)), (0, .ref (G.1 23)), (3, .int x3), (4, .int x4)]) hX hN dX6_findWithin_28 (by decide) rfl (pq := 30) rfl ?_
        refine wb_iconst (v := iI (0)) hX dX6_findWithin_30 rfl (pq := 31) rfl ?_
        refine wb_istore (loc' := [(7, .int (iI (0))), (6, .int (iI (1))), (5, .int (s.1 23 1)), (0, .ref (G.1 23)), (3, .int x3), (4, .int x4)]) hX hN dX6_findWithin_31 (by decide) rfl (pq := 33) rfl ?_
        refine wb_sub [3, 4, 5, 2, 1, 0] (loc' := [(0, .ref (G.1 23)), (3, .int x3), (4, .int x4), (5, .int (s.1 23 1)), (6, .int (iI (1))), (7, .int (iI (0)))]) rfl ?_
        exact tSe_findWithin_L33 hX hQ hN hk8 100000 _ _ _ h
      · have h := ite_f c_2 h
        refine wb_sub [0] (loc' := [(0, .ref (G.1 23))]) rfl ?_
        exact tSe_findWithin_J66 hX hQ hN h
set_option maxHeartbeats 4000000 in
set_option maxRecDepth 100000 in
theorem tSe_findWithin {l : Launch} {G : wG} {s : wM} {x1 : Int64} {x3 : Int32} {r0 : Int32} {s1 : wM} (h : fSe_findWithin s x1 x3 = some (r0, s1)) : wMet l G yX6_findWithin cX6_findWithin 8 (some .boolean) 3 [.ref (G.1 23), .long x1, .int x3] s (wQi G r0 s1) := by
  refine wMet_of (own := RX6) (by decide +kernel) rfl (Nat.le_of_ble_eq_true rfl) ?_
  intro X hX hQ hN hl
  show WB G X 0 [(0, .ref (G.1 23)), (1, .long x1), (3, .int x3)] [] s
  unfold fSe_findWithin at h
  refine wb_aload_n 0 hX dX6_findWithin_0 rfl (pq := 1) rfl ?_
  refine wb_lload_n 1 hX dX6_findWithin_1 rfl (pq := 2) rfl ?_
  obtain ⟨q_2, hc_1, h⟩ := bind_s h
  refine wb_callVv (s1 := q_2) [.long x1] hX sh_23 ml_668 (tSe_start hc_1) (by decide) rfl rfl (Nat.le_of_ble_eq_true rfl) dX6_findWithin_2 (pq := 5) rfl ?_
  refine wb_iconst (v := iI (0)) hX dX6_findWithin_5 rfl (pq := 6) rfl ?_
  refine wb_istore (loc' := [(4, .int (iI (0))), (0, .ref (G.1 23)), (1, .long x1), (3, .int x3)]) hX hN dX6_findWithin_6 (by decide) rfl (pq := 8) rfl ?_
  refine wb_sub [1, 3, 0] (loc' := [(0, .ref (G.1 23)), (3, .int x3), (4, .int (iI (0)))]) rfl ?_
  exact tSe_findWithin_L8 hX hQ hN 100000 _ _ h
set_option maxHeartbeats 4000000 in
set_option maxRecDepth 100000 in
theorem tSe_firstLawfulOnSunday_L2 {G : wG} {X : wX} {r0 : Int32} {s1 : wM} (hX : wOK G X cX6_firstLawfulOnSunday RX6 (some .int) 3) (hQ : wRt G X (wQi G r0 s1)) (hN : wNl X = 3) : ∀ (n : Nat) (x2 : Int32) (s : wM), wh2 (fSe_firstLawfulOnSunday_L2) n x2 s = some (r0, s1) → WB G X 2 [(0, .ref (G.1 23)), (1, .ref (G.1 13)), (2, .int x2)] [] s := by
  intro n
  induction n with
  | zero => intro x2 s h; cases h
  | succ n hk2 =>
    intro x2 s h
    have h : fSe_firstLawfulOnSunday_L2 x2 s (wh2 (fSe_firstLawfulOnSunday_L2) n) = some (r0, s1) := h
    unfold fSe_firstLawfulOnSunday_L2 at h
    refine wb_iload_n 2 hX dX6_firstLawfulOnSunday_2 rfl (pq := 3) rfl ?_
    refine wb_aload_n 0 hX dX6_firstLawfulOnSunday_3 rfl (pq := 4) rfl ?_
    refine wb_getI hX fl_196 sh_23 rfl dX6_firstLawfulOnSunday_4 (pq := 7) rfl ?_
    refine wb_icmp_ge (tgt := 41) hX dX6_firstLawfulOnSunday_7 (by decide) (fun c_1 => ?_) (pq := 10) rfl (fun c_1 => ?_)
    · have h := ite_t c_1 h
      refine wb_iconst (v := iI (-1)) hX dX6_firstLawfulOnSunday_41 rfl (pq := 42) rfl ?_
      exact wb_iret hX hQ h dX6_firstLawfulOnSunday_42
    · have h := ite_f c_1 h
      refine wb_aload_n 1 hX dX6_firstLawfulOnSunday_10 rfl (pq := 11) rfl ?_
      refine wb_aload_n 0 hX dX6_firstLawfulOnSunday_11 rfl (pq := 12) rfl ?_
      refine wb_getR hX fl_194 sh_23 rfl dX6_firstLawfulOnSunday_12 (pq := 15) rfl ?_
      refine wb_iload_n 2 hX dX6_firstLawfulOnSunday_15 rfl (pq := 16) rfl ?_
      obtain ⟨hi_2, h⟩ := chk_some h
      refine wb_lald hX sh_24 hi_2 dX6_firstLawfulOnSunday_16 (pq := 17) rfl ?_
      obtain ⟨q_4, hc_3, h⟩ := bind_s h
      refine wb_callVv (s1 := q_4) [.long (s.2 24 x2.toNatClampNeg)] hX sh_13 ml_694 (tAh_unpack hc_3) (by decide) rfl rfl (Nat.le_of_ble_eq_true rfl) dX6_firstLawfulOnSunday_17 (pq := 20) rfl ?_
      refine wb_aload_n 1 hX dX6_firstLawfulOnSunday_20 rfl (pq := 21) rfl ?_
      refine wb_iconst (v := iI (0)) hX dX6_firstLawfulOnSunday_21 rfl (pq := 22) rfl ?_
      refine wb_iconst (v := iI (0)) hX dX6_firstLawfulOnSunday_22 rfl (pq := 23) rfl ?_
      obtain ⟨q_6, hc_5, h⟩ := bind_s h
      refine wb_callVv (s1 := q_6) [.int (iI (0)), .int (iI (0))] hX sh_13 ml_853 (tAh_pass hc_5) (by decide) rfl rfl (Nat.le_of_ble_eq_true rfl) dX6_firstLawfulOnSunday_23 (pq := 26) rfl ?_
      refine wb_aload_n 1 hX dX6_firstLawfulOnSunday_26 rfl (pq := 27) rfl ?_
      obtain ⟨q_8, hc_7, h⟩ := bind_s h
      refine wb_callVi (r0 := q_8) (s1 := q_6) [] hX sh_13 ml_698 (tAh_isLawful hc_7) (by decide) rfl rfl (Nat.le_of_ble_eq_true rfl) dX6_firstLawfulOnSunday_27 (pq := 30) rfl ?_
      refine wb_if_eq (tgt := 35) hX dX6_firstLawfulOnSunday_30 (by decide) (fun c_9 => ?_) (pq := 33) rfl (fun c_9 => ?_)
      · have h := ite_t c_9 h
        refine wb_iinc (v := (x2 + iI (1))) (loc' := [(2, .int (x2 + iI (1))), (0, .ref (G.1 23)), (1, .ref (G.1 13))]) 2 hX hN dX6_firstLawfulOnSunday_35 rfl rfl (by decide) rfl (pq := 38) rfl ?_
        refine wb_goto (tgt := 2) hX dX6_firstLawfulOnSunday_38 (by decide) ?_
        refine wb_sub [1, 2, 0] (loc' := [(0, .ref (G.1 23)), (1, .ref (G.1 13)), (2, .int (x2 + iI (1)))]) rfl ?_
        exact hk2 _ _ h
      · have h := ite_f c_9 h
        refine wb_iload_n 2 hX dX6_firstLawfulOnSunday_33 rfl (pq := 34) rfl ?_
        exact wb_iret hX hQ h dX6_firstLawfulOnSunday_34
set_option maxHeartbeats 4000000 in
set_option maxRecDepth 100000 in
theorem tSe_firstLawfulOnSunday {l : Launch} {G : wG} {s : wM} {r0 : Int32} {s1 : wM} (h : fSe_firstLawfulOnSunday s = some (r0, s1)) : wMet l G yX6_firstLawfulOnSunday cX6_firstLawfulOnSunday 3 (some .int) 3 [.ref (G.1 23), .ref (G.1 13)] s (wQi G r0 s1) := by
  refine wMet_of (own := RX6) (by decide +kernel) rfl (Nat.le_of_ble_eq_true rfl) ?_
  intro X hX hQ hN hl
  show WB G X 0 [(0, .ref (G.1 23)), (1, .ref (G.1 13))] [] s
  unfold fSe_firstLawfulOnSunday at h
  refine wb_iconst (v := iI (0)) hX dX6_firstLawfulOnSunday_0 rfl (pq := 1) rfl ?_
  refine wb_istore_n (loc' := [(2, .int (iI (0))), (0, .ref (G.1 23)), (1, .ref (G.1 13))]) hX hN dX6_firstLawfulOnSunday_1 (by decide) rfl (pq := 2) rfl ?_
  refine wb_sub [1, 2, 0] (loc' := [(0, .ref (G.1 23)), (1, .ref (G.1 13)), (2, .int (iI (0)))]) rfl ?_
  exact tSe_firstLawfulOnSunday_L2 hX hQ hN 100000 _ _ h
set_option maxHeartbeats 4000000 in
set_option maxRecDepth 100000 in
theorem tSe_moveBack_J69 {G : wG} {X : wX} {k7 : Int32 → Int32 → Int32 → wM → Option (Int32 × wM)} {x1 : Int32} {x2 : Int32} {x3 : Int32} {x4 : Int32} {s : wM} {r0 : Int32} {s1 : wM} (hX : wOK G X cX6_moveBack RX6 (some .int) 1) (hQ : wRt G X (wQi G r0 s1)) (hN : wNl X = 8) (hk7 : ∀ (x2 : Int32) (x3 : Int32) (x4 : Int32) (s : wM), k7 x2 x3 x4 s = some (r0, s1) → WB G X 7 [(0, .ref (G.1 23)), (1, .int x1), (2, .int x2), (3, .int x3), (4, .int x4)] [] s) (h : fSe_moveBack_J69 k7 x1 x2 x3 x4 s = some (r0, s1)) : WB G X 69 [(0, .ref (G.1 23)), (1, .int x1), (2, .int x2), (3, .int x3), (4, .int x4)] [] s := by
  unfold fSe_moveBack_J69 at h
  refine wb_iinc (v := (x4 + iI (1))) (loc' := [(4, .int (x4 + iI (1))), (0, .ref (G.1 23)), (1, .int x1), (2, .int x2), (3, .int x3)]) 4 hX hN dX6_moveBack_69 rfl rfl (by decide) rfl (pq := 72) rfl ?_
  refine wb_goto (tgt := 7) hX dX6_moveBack_72 (by decide) ?_
  refine wb_sub [1, 2, 3, 4, 0] (loc' := [(0, .ref (G.1 23)), (1, .int x1), (2, .int x2), (3, .int x3), (4, .int (x4 + iI (1)))]) rfl ?_
  exact hk7 _ _ _ _ h
set_option maxHeartbeats 4000000 in
set_option maxRecDepth 100000 in
theorem tSe_moveBack_J49 {G : wG} {X : wX} {k7 : Int32 → Int32 → Int32 → wM → Option (Int32 × wM)} {x1 : Int32} {x2 : Int32} {x3 : Int32} {x4 : Int32} {v0 : Int32} {s : wM} {r0 : Int32} {s1 : wM} (hX : wOK G X cX6_moveBack RX6 (some .int) 1) (hQ : wRt G X (wQi G r0 s1)) (hN : wNl X = 8) (hk7 : ∀ (x2 : Int32) (x3 : Int32) (x4 : Int32) (s : wM), k7 x2 x3 x4 s = some (r0, s1) → WB G X 7 [(0, .ref (G.1 23)), (1, .int x1), (2, .int x2), (3, .int x3), (4, .int x4)] [] s) (h : fSe_moveBack_J49 k7 x1 x2 x3 x4 v0 s = some (r0, s1)) : WB G X 49 [(0, .ref (G.1 23)), (1, .int x1), (2, .int x2), (3, .int x3), (4, .int x4)] [.int v0] s := by
  unfold fSe_moveBack_J49 at h
  refine wb_istore (loc' := [(7, .int v0), (0, .ref (G.1 23)), (1, .int x1), (2, .int x2), (3, .int x3), (4, .int x4)]) hX hN dX6_moveBack_49 (by decide) rfl (pq := 51) rfl ?_
  refine wb_iload 0 hX dX6_moveBack_51 rfl (pq := 53) rfl ?_
  refine wb_iconst (v := iI (-1)) hX dX6_moveBack_53 rfl (pq := 54) rfl ?_
  refine wb_icmp_eq (tgt := 69) hX dX6_moveBack_54 (by decide) (fun c_1 => ?_) (pq := 57) rfl (fun c_1 => ?_)
  · have h := ite_t c_1 h
    refine wb_sub [1, 2, 3, 4, 5] (loc' := [(0, .ref (G.1 23)), (1, .int x1), (2, .int x2), (3, .int x3), (4, .int x4)]) rfl ?_
    exact tSe_moveBack_J69 hX hQ hN hk7 h
  · have h := ite_f c_1 h
    refine wb_iload 0 hX dX6_moveBack_57 rfl (pq := 59) rfl ?_
    refine wb_iload_n 4 hX dX6_moveBack_59 rfl (pq := 60) rfl ?_
    refine wb_icmp_ge (tgt := 69) hX dX6_moveBack_60 (by decide) (fun c_2 => ?_) (pq := 63) rfl (fun c_2 => ?_)
    · have h := ite_t c_2 h
      refine wb_sub [1, 2, 3, 4, 5] (loc' := [(0, .ref (G.1 23)), (1, .int x1), (2, .int x2), (3, .int x3), (4, .int x4)]) rfl ?_
      exact tSe_moveBack_J69 hX hQ hN hk7 h
    · have h := ite_f c_2 h
      refine wb_iload 0 hX dX6_moveBack_63 rfl (pq := 65) rfl ?_
      refine wb_istore_n (loc' := [(3, .int v0), (7, .int v0), (0, .ref (G.1 23)), (1, .int x1), (2, .int x2), (4, .int x4)]) hX hN dX6_moveBack_65 (by decide) rfl (pq := 66) rfl ?_
      refine wb_iload 5 hX dX6_moveBack_66 rfl (pq := 68) rfl ?_
      refine wb_istore_n (loc' := [(2, .int x4), (3, .int v0), (7, .int v0), (0, .ref (G.1 23)), (1, .int x1), (4, .int x4)]) hX hN dX6_moveBack_68 (by decide) rfl (pq := 69) rfl ?_
      refine wb_sub [3, 4, 0, 1, 5] (loc' := [(0, .ref (G.1 23)), (1, .int x1), (2, .int x4), (3, .int v0), (4, .int x4)]) rfl ?_
      exact tSe_moveBack_J69 hX hQ hN hk7 h
set_option maxHeartbeats 4000000 in
set_option maxRecDepth 100000 in
theorem tSe_moveBack_L7 {G : wG} {X : wX} {x1 : Int32} {r0 : Int32} {s1 : wM} (hX : wOK G X cX6_moveBack RX6 (some .int) 1) (hQ : wRt G X (wQi G r0 s1)) (hN : wNl X = 8) : ∀ (n : Nat) (x2 : Int32) (x3 : Int32) (x4 : Int32) (s : wM), wh4 (fSe_moveBack_L7 x1) n x2 x3 x4 s = some (r0, s1) → WB G X 7 [(0, .ref (G.1 23)), (1, .int x1), (2, .int x2), (3, .int x3), (4, .int x4)] [] s := by
  intro n
  induction n with
  | zero => intro x2 x3 x4 s h; cases h
  | succ n hk7 =>
    intro x2 x3 x4 s h
    have h : fSe_moveBack_L7 x1 x2 x3 x4 s (wh4 (fSe_moveBack_L7 x1) n) = some (r0, s1) := h
    unfold fSe_moveBack_L7 at h
    refine wb_iload 4 hX dX6_moveBack_7 rfl (pq := 9) rfl ?_
    refine wb_aload_n 0 hX dX6_moveBack_9 rfl (pq := 10) rfl ?_
    refine wb_getI hX fl_202 sh_23 rfl dX6_moveBack_10 (pq := 13) rfl ?_
    refine wb_icmp_ge (tgt := 75) hX dX6_moveBack_13 (by decide) (fun c_1 => ?_) (pq := 16) rfl (fun c_1 => ?_)
    · have h := ite_t c_1 h
      refine wb_iload_n 2 hX dX6_moveBack_75 rfl (pq := 76) rfl ?_
      exact wb_iret hX hQ h dX6_moveBack_76
    · have h := ite_f c_1 h
      refine wb_aload_n 0 hX dX6_moveBack_16 rfl (pq := 17) rfl ?_
      refine wb_aload_n 0 hX dX6_moveBack_17 rfl (pq := 18) rfl ?_
      refine wb_getR hX fl_194 sh_23 rfl dX6_moveBack_18 (pq := 21) rfl ?_
      refine wb_iload_n 1 hX dX6_moveBack_21 rfl (pq := 22) rfl ?_
      obtain ⟨hi_2, h⟩ := chk_some h
      refine wb_lald hX sh_24 hi_2 dX6_moveBack_22 (pq := 23) rfl ?_
      refine wb_iload 4 hX dX6_moveBack_23 rfl (pq := 25) rfl ?_
      obtain ⟨q_4, hc_3, h⟩ := bind_s h
      refine wb_callVl (r0 := q_4) (s1 := s) [.long (s.2 24 x1.toNatClampNeg), .int x4] hX sh_23 ml_689 (tSe_carried hc_3) (by decide) rfl rfl (Nat.le_of_ble_eq_true rfl) dX6_moveBack_25 (pq := 28) rfl ?_
      refine wb_lstore (loc' := [(5, .long q_4), (0, .ref (G.1 23)), (1, .int x1), (2, .int x2), (3, .int x3), (4, .int x4)]) hX hN dX6_moveBack_28 (by decide) rfl (pq := 30) rfl ?_
      refine wb_lload 0 hX dX6_moveBack_30 rfl (pq := 32) rfl ?_
      refine wb_ldc2 (v := (-1 : Int64)) hX k_693 dX6_moveBack_32 (pq := 35) rfl ?_
      refine wb_lcmp hX dX6_moveBack_35 (pq := 36) rfl ?_
      refine wb_if_ne (tgt := 43) hX dX6_moveBack_36 (by decide) (pq := 39) rfl (fun c_5 => ?_) (fun c_5 => ?_)
      · have h := ite_t c_5 h
        refine wb_iconst (v := iI (-1)) hX dX6_moveBack_39 rfl (pq := 40) rfl ?_
        refine wb_goto (tgt := 49) hX dX6_moveBack_40 (by decide) ?_
        refine wb_sub [1, 2, 3, 4, 5] (loc' := [(0, .ref (G.1 23)), (1, .int x1), (2, .int x2), (3, .int x3), (4, .int x4)]) rfl ?_
        exact tSe_moveBack_J49 hX hQ hN hk7 h
      · have h := ite_f c_5 h
        refine wb_aload_n 1 hX dX6_moveBack_43 rfl (pq := 44) rfl ?_
        refine wb_lload 0 hX dX6_moveBack_44 rfl (pq := 46) rfl ?_
        obtain ⟨q_7, hc_6, h⟩ := bind_s h
        refine wb_callVi (r0 := q_7.1) (s1 := q_7.2) [.long q_4] hX sh_23 ml_679 (tSe_indexOf hc_6) (by decide) rfl rfl (Nat.le_of_ble_eq_true rfl) dX6_moveBack_46 (pq := 49) rfl ?_
        refine wb_sub [1, 2, 3, 4, 5] (loc' := [(0, .ref (G.1 23)), (1, .int x1), (2, .int x2), (3, .int x3), (4, .int x4)]) rfl ?_
        exact tSe_moveBack_J49 hX hQ hN hk7 h
set_option maxHeartbeats 4000000 in
set_option maxRecDepth 100000 in
theorem tSe_moveBack {l : Launch} {G : wG} {s : wM} {x1 : Int32} {r0 : Int32} {s1 : wM} (h : fSe_moveBack s x1 = some (r0, s1)) : wMet l G yX6_moveBack cX6_moveBack 8 (some .int) 1 [.ref (G.1 23), .int x1] s (wQi G r0 s1) := by
  refine wMet_of (own := RX6) (by decide +kernel) rfl (Nat.le_of_ble_eq_true rfl) ?_
  intro X hX hQ hN hl
  show WB G X 0 [(0, .ref (G.1 23)), (1, .int x1)] [] s
  unfold fSe_moveBack at h
  refine wb_iconst (v := iI (-1)) hX dX6_moveBack_0 rfl (pq := 1) rfl ?_
  refine wb_istore_n (loc' := [(2, .int (iI (-1))), (0, .ref (G.1 23)), (1, .int x1)]) hX hN dX6_moveBack_1 (by decide) rfl (pq := 2) rfl ?_
  refine wb_iload_n 2 hX dX6_moveBack_2 rfl (pq := 3) rfl ?_
  refine wb_istore_n (loc' := [(3, .int x1), (2, .int (iI (-1))), (0, .ref (G.1 23)), (1, .int x1)]) hX hN dX6_moveBack_3 (by decide) rfl (pq := 4) rfl ?_
  refine wb_iconst (v := iI (0)) hX dX6_moveBack_4 rfl (pq := 5) rfl ?_
  refine wb_istore (loc' := [(4, .int (iI (0))), (3, .int x1), (2, .int (iI (-1))), (0, .ref (G.1 23)), (1, .int x1)]) hX hN dX6_moveBack_5 (by decide) rfl (pq := 7) rfl ?_
  refine wb_sub [3, 4, 2, 1, 0] (loc' := [(0, .ref (G.1 23)), (1, .int x1), (2, .int (iI (-1))), (3, .int x1), (4, .int (iI (0)))]) rfl ?_
  exact tSe_moveBack_L7 hX hQ hN 100000 _ _ _ _ h
set_option maxHeartbeats 4000000 in
set_option maxRecDepth 100000 in
theorem tSe_cameFrom_J30 {G : wG} {X : wX} {v0 : Int32} {s : wM} {r0 : Int32} {s1 : wM} (hX : wOK G X cX6_cameFrom RX6 (some .int) 2) (hQ : wRt G X (wQi G r0 s1)) (hN : wNl X = 3) (h : fSe_cameFrom_J30 v0 s = some (r0, s1)) : WB G X 30 [] [.int v0] s := by
  unfold fSe_cameFrom_J30 at h
  exact wb_iret hX hQ h dX6_cameFrom_30
set_option maxHeartbeats 4000000 in
set_option maxRecDepth 100000 in
theorem tSe_cameFrom {l : Launch} {G : wG} {s : wM} {x1 : Int32} {r0 : Int32} {s1 : wM} (h : fSe_cameFrom s x1 = some (r0, s1)) : wMet l G yX6_cameFrom cX6_cameFrom 3 (some .int) 2 [.ref (G.1 23), .int x1] s (wQi G r0 s1) := by
  refine wMet_of (own := RX6) (by decide +kernel) rfl (Nat.le_of_ble_eq_true rfl) ?_
  intro X hX hQ hN hl
  show WB G X 0 [(0, .ref (G.1 23)), (1, .int x1)] [] s
  unfold fSe_cameFrom at h
  refine wb_aload_n 0 hX dX6_cameFrom_0 rfl (pq := 1) rfl ?_
  refine wb_iload_n 1 hX dX6_cameFrom_1 rfl (pq := 2) rfl ?_
  obtain ⟨q_2, hc_1, h⟩ := bind_s h
  refine wb_callVi (r0 := q_2.1) (s1 := q_2.2) [.int x1] hX sh_23 ml_708 (tSe_moveBack hc_1) (by decide) rfl rfl (Nat.le_of_ble_eq_true rfl) dX6_cameFrom_2 (pq := 5) rfl ?_
  refine wb_istore_n (loc' := [(2, .int q_2.1), (0, .ref (G.1 23)), (1, .int x1)]) hX hN dX6_cameFrom_5 (by decide) rfl (pq := 6) rfl ?_
  refine wb_iload_n 0 hX dX6_cameFrom_6 rfl (pq := 7) rfl ?_
  refine wb_iconst (v := iI (-1)) hX dX6_cameFrom_7 rfl (pq := 8) rfl ?_
  refine wb_icmp_ne (tgt := 15) hX dX6_cameFrom_8 (by decide) (pq := 11) rfl (fun c_3 => ?_) (fun c_3 => ?_)
  · have h := ite_t c_3 h
    refine wb_iconst (v := iI (0)) hX dX6_cameFrom_11 rfl (pq := 12) rfl ?_
    refine wb_goto (tgt := 30) hX dX6_cameFrom_12 (by decide) ?_
    refine wb_sub [] (loc' := []) rfl ?_
    exact tSe_cameFrom_J30 hX hQ hN h
  · have h := ite_f c_3 h
    refine wb_aload_n 1 hX dX6_cameFrom_15 rfl (pq := 16) rfl ?_
    refine wb_aload_n 1 hX dX6_cameFrom_16 rfl (pq := 17) rfl ?_
    refine wb_aload_n 1 hX dX6_cameFrom_17 rfl (pq := 18) rfl ?_
    refine wb_getR hX fl_194 sh_23 rfl dX6_cameFrom_18 (pq := 21) rfl ?_
    refine wb_iload_n 2 hX dX6_cameFrom_21 rfl (pq := 22) rfl ?_
    obtain ⟨hi_4, h⟩ := chk_some h
    refine wb_lald hX sh_24 hi_4 dX6_cameFrom_22 (pq := 23) rfl ?_
    refine wb_iload_n 0 hX dX6_cameFrom_23 rfl (pq := 24) rfl ?_
    obtain ⟨q_6, hc_5, h⟩ := bind_s h
    refine wb_callVl (r0 := q_6) (s1 := q_2.2) [.long (q_2.2.2 24 x1.toNatClampNeg), .int q_2.1] hX sh_23 ml_689 (tSe_carried hc_5) (by decide) rfl rfl (Nat.le_of_ble_eq_true rfl) dX6_cameFrom_24 (pq := 27) rfl ?_
    obtain ⟨q_8, hc_7, h⟩ := bind_s h
    refine wb_callVi (r0 := q_8.1) (s1 := q_8.2) [.long q_6] hX sh_23 ml_679 (tSe_indexOf hc_7) (by decide) rfl rfl (Nat.le_of_ble_eq_true rfl) dX6_cameFrom_27 (pq := 30) rfl ?_
    refine wb_sub [] (loc' := []) rfl ?_
    exact tSe_cameFrom_J30 hX hQ hN h
set_option maxHeartbeats 4000000 in
set_option maxRecDepth 100000 in
theorem tSe_stepsTo_J27 {G : wG} {X : wX} {x2 : Int32} {s : wM} {r0 : Int32} {s1 : wM} (hX : wOK G X cX6_stepsTo RX6 (some .int) 3) (hQ : wRt G X (wQi G r0 s1)) (hN : wNl X = 4) (h : fSe_stepsTo_J27 x2 s = some (r0, s1)) : WB G X 27 [(2, .int x2)] [] s := by
  unfold fSe_stepsTo_J27 at h
  refine wb_iload_n 0 hX dX6_stepsTo_27 rfl (pq := 28) rfl ?_
  exact wb_iret hX hQ h dX6_stepsTo_28
set_option maxHeartbeats 4000000 in
set_option maxRecDepth 100000 in
theorem tSe_stepsTo_L4 {G : wG} {X : wX} {r0 : Int32} {s1 : wM} (hX : wOK G X cX6_stepsTo RX6 (some .int) 3) (hQ : wRt G X (wQi G r0 s1)) (hN : wNl X = 4) : ∀ (n : Nat) (x2 : Int32) (x3 : Int32) (s : wM), wh3 (fSe_stepsTo_L4) n x2 x3 s = some (r0, s1) → WB G X 4 [(0, .ref (G.1 23)), (2, .int x2), (3, .int x3)] [] s := by
  intro n
  induction n with
  | zero => intro x2 x3 s h; cases h
  | succ n hk4 =>
    intro x2 x3 s h
    have h : fSe_stepsTo_L4 x2 x3 s (wh3 (fSe_stepsTo_L4) n) = some (r0, s1) := h
    unfold fSe_stepsTo_L4 at h
    refine wb_iload_n 2 hX dX6_stepsTo_4 rfl (pq := 5) rfl ?_
    refine wb_if_le (tgt := 27) hX dX6_stepsTo_5 (by decide) (fun c_1 => ?_) (pq := 8) rfl (fun c_1 => ?_)
    · have h := ite_t c_1 h
      refine wb_sub [1] (loc' := [(2, .int x2)]) rfl ?_
      exact tSe_stepsTo_J27 hX hQ hN h
    · have h := ite_f c_1 h
      refine wb_iload_n 1 hX dX6_stepsTo_8 rfl (pq := 9) rfl ?_
      refine wb_sipush (v := iI (3000)) hX dX6_stepsTo_9 (by decide) (pq := 12) rfl ?_
      refine wb_icmp_ge (tgt := 27) hX dX6_stepsTo_12 (by decide) (fun c_2 => ?_) (pq := 15) rfl (fun c_2 => ?_)
      · have h := ite_t c_2 h
        refine wb_sub [1] (loc' := [(2, .int x2)]) rfl ?_
        exact tSe_stepsTo_J27 hX hQ hN h
      · have h := ite_f c_2 h
        refine wb_iinc (v := (x2 + iI (1))) (loc' := [(2, .int (x2 + iI (1))), (0, .ref (G.1 23)), (3, .int x3)]) 1 hX hN dX6_stepsTo_15 rfl rfl (by decide) rfl (pq := 18) rfl ?_
        refine wb_aload_n 1 hX dX6_stepsTo_18 rfl (pq := 19) rfl ?_
        refine wb_iload_n 2 hX dX6_stepsTo_19 rfl (pq := 20) rfl ?_
        obtain ⟨q_4, hc_3, h⟩ := bind_s h
        refine wb_callVi (r0 := q_4.1) (s1 := q_4.2) [.int x3] hX sh_23 ml_717 (tSe_cameFrom hc_3) (by decide) rfl rfl (Nat.le_of_ble_eq_true rfl) dX6_stepsTo_20 (pq := 23) rfl ?_
        refine wb_istore_n (loc' := [(3, .int q_4.1), (2, .int (x2 + iI (1))), (0, .ref (G.1 23))]) hX hN dX6_stepsTo_23 (by decide) rfl (pq := 24) rfl ?_
        refine wb_goto (tgt := 4) hX dX6_stepsTo_24 (by decide) ?_
        refine wb_sub [2, 1, 0] (loc' := [(0, .ref (G.1 23)), (2, .int (x2 + iI (1))), (3, .int q_4.1)]) rfl ?_
        exact hk4 _ _ _ h
set_option maxHeartbeats 4000000 in
set_option maxRecDepth 100000 in
theorem tSe_stepsTo {l : Launch} {G : wG} {s : wM} {x1 : Int32} {r0 : Int32} {s1 : wM} (h : fSe_stepsTo s x1 = some (r0, s1)) : wMet l G yX6_stepsTo cX6_stepsTo 4 (some .int) 3 [.ref (G.1 23), .int x1] s (wQi G r0 s1) := by
  refine wMet_of (own := RX6) (by decide +kernel) rfl (Nat.le_of_ble_eq_true rfl) ?_
  intro X hX hQ hN hl
  show WB G X 0 [(0, .ref (G.1 23)), (1, .int x1)] [] s
  unfold fSe_stepsTo at h
  refine wb_iconst (v := iI (0)) hX dX6_stepsTo_0 rfl (pq := 1) rfl ?_
  refine wb_istore_n (loc' := [(2, .int (iI (0))), (0, .ref (G.1 23)), (1, .int x1)]) hX hN dX6_stepsTo_1 (by decide) rfl (pq := 2) rfl ?_
  refine wb_iload_n 2 hX dX6_stepsTo_2 rfl (pq := 3) rfl ?_
  refine wb_istore_n (loc' := [(3, .int x1), (2, .int (iI (0))), (0, .ref (G.1 23)), (1, .int x1)]) hX hN dX6_stepsTo_3 (by decide) rfl (pq := 4) rfl ?_
  refine wb_sub [2, 1, 0] (loc' := [(0, .ref (G.1 23)), (2, .int (iI (0))), (3, .int x1)]) rfl ?_
  exact tSe_stepsTo_L4 hX hQ hN 100000 _ _ _ h
set_option maxHeartbeats 4000000 in
set_option maxRecDepth 100000 in
theorem tSe_tellWay_J57 {G : wG} {X : wX} {k9 : Int32 → Int32 → wM → Option (Int32 × wM)} {x3 : Int32} {x4 : Int32} {s : wM} {r0 : Int32} {s1 : wM} (hX : wOK G X cX6_tellWay RX6 (some .int) 3) (hQ : wRt G X (wQi G r0 s1)) (hN : wNl X = 6) (hk9 : ∀ (x3 : Int32) (x4 : Int32) (s : wM), k9 x3 x4 s = some (r0, s1) → WB G X 9 [(0, .ref (G.1 23)), (2, .ref (G.1 32)), (3, .int x3), (4, .int x4)] [] s) (h : fSe_tellWay_J57 k9 x3 x4 s = some (r0, s1)) : WB G X 57 [(0, .ref (G.1 23)), (2, .ref (G.1 32)), (3, .int x3), (4, .int x4)] [] s := by
  unfold fSe_tellWay_J57 at h
  refine wb_iinc (v := (x3 + iI (1))) (loc' := [(3, .int (x3 + iI (1))), (0, .ref (G.1 23)), (2, .ref (G.1 32)), (4, .int x4)]) 2 hX hN dX6_tellWay_57 rfl rfl (by decide) rfl (pq := 60) rfl ?_
  refine wb_aload_n 1 hX dX6_tellWay_60 rfl (pq := 61) rfl ?_
  refine wb_iload 3 hX dX6_tellWay_61 rfl (pq := 63) rfl ?_
  obtain ⟨q_2, hc_1, h⟩ := bind_s h
  refine wb_callVi (r0 := q_2.1) (s1 := q_2.2) [.int x4] hX sh_23 ml_717 (tSe_cameFrom hc_1) (by decide) rfl rfl (Nat.le_of_ble_eq_true rfl) dX6_tellWay_63 (pq := 66) rfl ?_
  refine wb_istore (loc' := [(4, .int q_2.1), (3, .int (x3 + iI (1))), (0, .ref (G.1 23)), (2, .ref (G.1 32))]) hX hN dX6_tellWay_66 (by decide) rfl (pq := 68) rfl ?_
  refine wb_goto (tgt := 9) hX dX6_tellWay_68 (by decide) ?_
  refine wb_sub [2, 3, 1, 0] (loc' := [(0, .ref (G.1 23)), (2, .ref (G.1 32)), (3, .int (x3 + iI (1))), (4, .int q_2.1)]) rfl ?_
  exact hk9 _ _ _ h
set_option maxHeartbeats 4000000 in
set_option maxRecDepth 100000 in
theorem tSe_tellWay_J71 {G : wG} {X : wX} {x3 : Int32} {s : wM} {r0 : Int32} {s1 : wM} (hX : wOK G X cX6_tellWay RX6 (some .int) 3) (hQ : wRt G X (wQi G r0 s1)) (hN : wNl X = 6) (h : fSe_tellWay_J71 x3 s = some (r0, s1)) : WB G X 71 [(3, .int x3)] [] s := by
  unfold fSe_tellWay_J71 at h
  refine wb_iload_n 0 hX dX6_tellWay_71 rfl (pq := 72) rfl ?_
  exact wb_iret hX hQ h dX6_tellWay_72
set_option maxHeartbeats 4000000 in
set_option maxRecDepth 100000 in
theorem tSe_tellWay_L9 {G : wG} {X : wX} {r0 : Int32} {s1 : wM} (hX : wOK G X cX6_tellWay RX6 (some .int) 3) (hQ : wRt G X (wQi G r0 s1)) (hN : wNl X = 6) : ∀ (n : Nat) (x3 : Int32) (x4 : Int32) (s : wM), wh3 (fSe_tellWay_L9) n x3 x4 s = some (r0, s1) → WB G X 9 [(0, .ref (G.1 23)), (2, .ref (G.1 32)), (3, .int x3), (4, .int x4)] [] s := by
  intro n
  induction n with
  | zero => intro x3 x4 s h; cases h
  | succ n hk9 =>
    intro x3 x4 s h
    have h : fSe_tellWay_L9 x3 x4 s (wh3 (fSe_tellWay_L9) n) = some (r0, s1) := h
    unfold fSe_tellWay_L9 at h
    refine wb_iload 3 hX dX6_tellWay_9 rfl (pq := 11) rfl ?_
    refine wb_if_le (tgt := 71) hX dX6_tellWay_11 (by decide) (fun c_1 => ?_) (pq := 14) rfl (fun c_1 => ?_)
    · have h := ite_t c_1 h
      refine wb_sub [2] (loc' := [(3, .int x3)]) rfl ?_
      exact tSe_tellWay_J71 hX hQ hN h
    · have h := ite_f c_1 h
      refine wb_iload_n 2 hX dX6_tellWay_14 rfl (pq := 15) rfl ?_
      refine wb_sipush (v := iI (3000)) hX dX6_tellWay_15 (by decide) (pq := 18) rfl ?_
      refine wb_icmp_ge (tgt := 71) hX dX6_tellWay_18 (by decide) (fun c_2 => ?_) (pq := 21) rfl (fun c_2 => ?_)
      · have h := ite_t c_2 h
        refine wb_sub [2] (loc' := [(3, .int x3)]) rfl ?_
        exact tSe_tellWay_J71 hX hQ hN h
      · have h := ite_f c_2 h
        refine wb_aload_n 0 hX dX6_tellWay_21 rfl (pq := 22) rfl ?_
        refine wb_iload 3 hX dX6_tellWay_22 rfl (pq := 24) rfl ?_
        obtain ⟨q_4, hc_3, h⟩ := bind_s h
        refine wb_callVi (r0 := q_4.1) (s1 := q_4.2) [.int x4] hX sh_23 ml_708 (tSe_moveBack hc_3) (by decide) rfl rfl (Nat.le_of_ble_eq_true rfl) dX6_tellWay_24 (pq := 27) rfl ?_
        refine wb_istore (loc' := [(5, .int q_4.1), (0, .ref (G.1 23)), (2, .ref (G.1 32)), (3, .int x3), (4, .int x4)]) hX hN dX6_tellWay_27 (by decide) rfl (pq := 29) rfl ?_
        refine wb_iload 0 hX dX6_tellWay_29 rfl (pq := 31) rfl ?_
        refine wb_iconst (v := iI (-1)) hX dX6_tellWay_31 rfl (pq := 32) rfl ?_
        refine wb_icmp_eq (tgt := 57) hX dX6_tellWay_32 (by decide) (fun c_5 => ?_) (pq := 35) rfl (fun c_5 => ?_)
        · have h := ite_t c_5 h
          refine wb_sub [1, 2, 3, 4] (loc' := [(0, .ref (G.1 23)), (2, .ref (G.1 32)), (3, .int x3), (4, .int x4)]) rfl ?_
          exact tSe_tellWay_J57 hX hQ hN hk9 h
        · have h := ite_f c_5 h
          refine wb_aload_n 2 hX dX6_tellWay_35 rfl (pq := 36) rfl ?_
          refine wb_bipush (v := iI (10)) hX dX6_tellWay_36 (by decide) (pq := 38) rfl ?_
          refine wb_aload_n 1 hX dX6_tellWay_38 rfl (pq := 39) rfl ?_
          refine wb_getR hX fl_201 sh_23 rfl dX6_tellWay_39 (pq := 42) rfl ?_
          refine wb_iload 0 hX dX6_tellWay_42 rfl (pq := 44) rfl ?_
          obtain ⟨hi_6, h⟩ := chk_some h
          refine wb_iald hX sh_27 hi_6 dX6_tellWay_44 (pq := 45) rfl ?_
          refine wb_imul hX dX6_tellWay_45 (pq := 46) rfl ?_
          refine wb_aload_n 1 hX dX6_tellWay_46 rfl (pq := 47) rfl ?_
          refine wb_getR hX fl_200 sh_23 rfl dX6_tellWay_47 (pq := 50) rfl ?_
          refine wb_iload 0 hX dX6_tellWay_50 rfl (pq := 52) rfl ?_
          refine wb_iald hX sh_26 hi_6 dX6_tellWay_52 (pq := 53) rfl ?_
          refine wb_iadd hX dX6_tellWay_53 (pq := 54) rfl ?_
          obtain ⟨q_8, hc_7, h⟩ := bind_s h
          refine wb_callVv (s1 := q_8) [.int (((iI (10)) * (q_4.2.1 27 q_4.1.toNatClampNeg)) + (q_4.2.1 26 q_4.1.toNatClampNeg))] hX sh_32 ml_712 (tNum_addAhead hc_7) (by decide) rfl rfl (Nat.le_of_ble_eq_true rfl) dX6_tellWay_54 (pq := 57) rfl ?_
          refine wb_sub [1, 2, 3, 4] (loc' := [(0, .ref (G.1 23)), (2, .ref (G.1 32)), (3, .int x3), (4, .int x4)]) rfl ?_
          exact tSe_tellWay_J57 hX hQ hN hk9 h
set_option maxHeartbeats 4000000 in
set_option maxRecDepth 100000 in
theorem tSe_tellWay {l : Launch} {G : wG} {s : wM} {x1 : Int32} {r0 : Int32} {s1 : wM} (h : fSe_tellWay s x1 = some (r0, s1)) : wMet l G yX6_tellWay cX6_tellWay 6 (some .int) 3 [.ref (G.1 23), .int x1, .ref (G.1 32)] s (wQi G r0 s1) := by
  refine wMet_of (own := RX6) (by decide +kernel) rfl (Nat.le_of_ble_eq_true rfl) ?_
  intro X hX hQ hN hl
  show WB G X 0 [(0, .ref (G.1 23)), (1, .int x1), (2, .ref (G.1 32))] [] s
  unfold fSe_tellWay at h
  refine wb_aload_n 2 hX dX6_tellWay_0 rfl (pq := 1) rfl ?_
  obtain ⟨q_2, hc_1, h⟩ := bind_s h
  refine wb_callVv (s1 := q_2) [] hX sh_32 ml_707 (tNum_clear hc_1) (by decide) rfl rfl (Nat.le_of_ble_eq_true rfl) dX6_tellWay_1 (pq := 4) rfl ?_
  refine wb_iconst (v := iI (0)) hX dX6_tellWay_4 rfl (pq := 5) rfl ?_
  refine wb_istore_n (loc' := [(3, .int (iI (0))), (0, .ref (G.1 23)), (1, .int x1), (2, .ref (G.1 32))]) hX hN dX6_tellWay_5 (by decide) rfl (pq := 6) rfl ?_
  refine wb_iload_n 2 hX dX6_tellWay_6 rfl (pq := 7) rfl ?_
  refine wb_istore (loc' := [(4, .int x1), (3, .int (iI (0))), (0, .ref (G.1 23)), (1, .int x1), (2, .ref (G.1 32))]) hX hN dX6_tellWay_7 (by decide) rfl (pq := 9) rfl ?_
  refine wb_sub [2, 4, 1, 0] (loc' := [(0, .ref (G.1 23)), (2, .ref (G.1 32)), (3, .int (iI (0))), (4, .int x1)]) rfl ?_
  exact tSe_tellWay_L9 hX hQ hN 100000 _ _ _ h
set_option maxHeartbeats 4000000 in
set_option maxRecDepth 100000 in
theorem tSi_add_J39 {G : wG} {X : wX} {s : wM} {s1 : wM} (hX : wOK G X cX7_add RX7 none 0) (hQ : wRt G X (wQv G s1)) (hN : wNl X = 3) (h : fSi_add_J39 s = some s1) : WB G X 39 [] [] s := by
  unfold fSi_add_J39 at h
  exact wb_vret hX hQ h dX7_add_39
set_option maxHeartbeats 4000000 in
set_option maxRecDepth 100000 in
theorem tSi_add {l : Launch} {G : wG} {s : wM} {x1 : Int32} {x2 : Int32} {s1 : wM} (h : fSi_add s x1 x2 = some s1) : wMet l G yX7_add cX7_add 3 none 0 [.ref (G.1 142), .int x1, .int x2] s (wQv G s1) := by
  refine wMet_of (own := RX7) (by decide +kernel) rfl (Nat.le_of_ble_eq_true rfl) ?_
  intro X hX hQ hN hl
  show WB G X 0 [(0, .ref (G.1 142)), (1, .int x1), (2, .int x2)] [] s
  unfold fSi_add at h
  refine wb_aload_n 0 hX dX7_add_0 rfl (pq := 1) rfl ?_
  refine wb_getI hX fl_319 sh_142 rfl dX7_add_1 (pq := 4) rfl ?_
  refine wb_bipush (v := iI (10)) hX dX7_add_4 (by decide) (pq := 6) rfl ?_
  refine wb_icmp_ge (tgt := 39) hX dX7_add_6 (by decide) (fun c_1 => ?_) (pq := 9) rfl (fun c_1 => ?_)
  · have h := ite_t c_1 h
    refine wb_sub [] (loc' := []) rfl ?_
    exact tSi_add_J39 hX hQ hN h
  · have h := ite_f c_1 h
    refine wb_aload_n 0 hX dX7_add_9 rfl (pq := 10) rfl ?_
    refine wb_getR hX fl_321 sh_142 rfl dX7_add_10 (pq := 13) rfl ?_
    refine wb_aload_n 0 hX dX7_add_13 rfl (pq := 14) rfl ?_
    refine wb_getI hX fl_319 sh_142 rfl dX7_add_14 (pq := 17) rfl ?_
    refine wb_iload_n 1 hX dX7_add_17 rfl (pq := 18) rfl ?_
    obtain ⟨hi_2, h⟩ := chk_some h
    refine wb_iast hX sh_143 hi_2 dX7_add_18 (pq := 19) rfl ?_
    refine wb_mem (fun s_3 es_3 => ?_)
    have h := nmM_s h s_3 es_3
    refine wb_aload_n 0 hX dX7_add_19 rfl (pq := 20) rfl ?_
    refine wb_getR hX fl_322 sh_142 rfl dX7_add_20 (pq := 23) rfl ?_
    refine wb_aload_n 0 hX dX7_add_23 rfl (pq := 24) rfl ?_
    refine wb_getI hX fl_319 sh_142 rfl dX7_add_24 (pq := 27) rfl ?_
    refine wb_iload_n 2 hX dX7_add_27 rfl (pq := 28) rfl ?_
    obtain ⟨hi_4, h⟩ := chk_some h
    refine wb_iast hX sh_144 hi_4 dX7_add_28 (pq := 29) rfl ?_
    refine wb_mem (fun s_5 es_5 => ?_)
    have h := nmM_s h s_5 es_5
    refine wb_aload_n 0 hX dX7_add_29 rfl (pq := 30) rfl ?_
    refine wb_dup hX dX7_add_30 rfl (pq := 31) rfl ?_
    refine wb_getI hX fl_319 sh_142 rfl dX7_add_31 (pq := 34) rfl ?_
    refine wb_iconst (v := iI (1)) hX dX7_add_34 rfl (pq := 35) rfl ?_
    refine wb_iadd hX dX7_add_35 (pq := 36) rfl ?_
    refine wb_putI hX fp_319 sh_142 rfl dX7_add_36 rfl rfl (pq := 39) rfl ?_
    refine wb_mem (fun s_6 es_6 => ?_)
    have h := nmM_s h s_6 es_6
    refine wb_sub [] (loc' := []) rfl ?_
    exact tSi_add_J39 hX hQ hN h
set_option maxHeartbeats 4000000 in
set_option maxRecDepth 100000 in
theorem tSi_holdFor_J81 {G : wG} {X : wX} {k31 : Int32 → wM → Option (Int32 × wM)} {k45 : Int32 → Option (Int32 × wM)} {x2 : Int32} {x3 : Int32} {x4 : Int32} {s : wM} {r0 : Int32} {s1 : wM} (hX : wOK G X cX7_holdFor RX7 (some .boolean) 3) (hQ : wRt G X (wQi G r0 s1)) (hN : wNl X = 5) (hk31 : ∀ (x3 : Int32) (s : wM), k31 x3 s = some (r0, s1) → WB G X 31 [(0, .ref (G.1 142)), (1, .ref (G.1 13)), (2, .int x2), (3, .int x3)] [] s) (hk45 : ∀ (x4 : Int32), k45 x4 = some (r0, s1) → WB G X 45 [(0, .ref (G.1 142)), (1, .ref (G.1 13)), (2, .int x2), (3, .int x3), (4, .int x4)] [] s) (h : fSi_holdFor_J81 k31 k45 x2 x3 x4 s = some (r0, s1)) : WB G X 81 [(0, .ref (G.1 142)), (1, .ref (G.1 13)), (2, .int x2), (3, .int x3), (4, .int x4)] [] s := by
  unfold fSi_holdFor_J81 at h
  refine wb_iinc (v := (x4 + iI (1))) (loc' := [(4, .int (x4 + iI (1))), (0, .ref (G.1 142)), (1, .ref (G.1 13)), (2, .int x2), (3, .int x3)]) 4 hX hN dX7_holdFor_81 rfl rfl (by decide) rfl (pq := 84) rfl ?_
  refine wb_goto (tgt := 45) hX dX7_holdFor_84 (by decide) ?_
  refine wb_sub [1, 2, 3, 4, 0] (loc' := [(0, .ref (G.1 142)), (1, .ref (G.1 13)), (2, .int x2), (3, .int x3), (4, .int (x4 + iI (1)))]) rfl ?_
  exact hk45 _ h
set_option maxHeartbeats 4000000 in
set_option maxRecDepth 100000 in
theorem tSi_holdFor_L45 {G : wG} {X : wX} {k31 : Int32 → wM → Option (Int32 × wM)} {x2 : Int32} {x3 : Int32} {s : wM} {r0 : Int32} {s1 : wM} (hX : wOK G X cX7_holdFor RX7 (some .boolean) 3) (hQ : wRt G X (wQi G r0 s1)) (hN : wNl X = 5) (hk31 : ∀ (x3 : Int32) (s : wM), k31 x3 s = some (r0, s1) → WB G X 31 [(0, .ref (G.1 142)), (1, .ref (G.1 13)), (2, .int x2), (3, .int x3)] [] s) : ∀ (n : Nat) (x4 : Int32), wh1 (fSi_holdFor_L45 k31 x2 x3 s) n x4 = some (r0, s1) → WB G X 45 [(0, .ref (G.1 142)), (1, .ref (G.1 13)), (2, .int x2), (3, .int x3), (4, .int x4)] [] s := by
  intro n
  induction n with
  | zero => intro x4 h; cases h
  | succ n hk45 =>
    intro x4 h
    have h : fSi_holdFor_L45 k31 x2 x3 s x4 (wh1 (fSi_holdFor_L45 k31 x2 x3 s) n) = some (r0, s1) := h
    unfold fSi_holdFor_L45 at h
    refine wb_iload 4 hX dX7_holdFor_45 rfl (pq := 47) rfl ?_
    refine wb_aload_n 0 hX dX7_holdFor_47 rfl (pq := 48) rfl ?_
    refine wb_getI hX fl_319 sh_142 rfl dX7_holdFor_48 (pq := 51) rfl ?_
    refine wb_icmp_ge (tgt := 87) hX dX7_holdFor_51 (by decide) (fun c_1 => ?_) (pq := 54) rfl (fun c_1 => ?_)
    · have h := ite_t c_1 h
      refine wb_iinc (v := (x3 + iI (1))) (loc' := [(3, .int (x3 + iI (1))), (0, .ref (G.1 142)), (1, .ref (G.1 13)), (2, .int x2), (4, .int x4)]) 3 hX hN dX7_holdFor_87 rfl rfl (by decide) rfl (pq := 90) rfl ?_
      refine wb_goto (tgt := 31) hX dX7_holdFor_90 (by decide) ?_
      refine wb_sub [1, 2, 3, 0] (loc' := [(0, .ref (G.1 142)), (1, .ref (G.1 13)), (2, .int x2), (3, .int (x3 + iI (1)))]) rfl ?_
      exact hk31 _ _ h
    · have h := ite_f c_1 h
      refine wb_aload_n 0 hX dX7_holdFor_54 rfl (pq := 55) rfl ?_
      refine wb_getR hX fl_321 sh_142 rfl dX7_holdFor_55 (pq := 58) rfl ?_
      refine wb_iload 4 hX dX7_holdFor_58 rfl (pq := 60) rfl ?_
      obtain ⟨hi_2, h⟩ := chk_some h
      refine wb_iald hX sh_143 hi_2 dX7_holdFor_60 (pq := 61) rfl ?_
      refine wb_iload_n 3 hX dX7_holdFor_61 rfl (pq := 62) rfl ?_
      refine wb_icmp_ne (tgt := 81) hX dX7_holdFor_62 (by decide) (pq := 65) rfl (fun c_3 => ?_) (fun c_3 => ?_)
      · have h := ite_t c_3 h
        refine wb_aload_n 0 hX dX7_holdFor_65 rfl (pq := 66) rfl ?_
        refine wb_getR hX fl_322 sh_142 rfl dX7_holdFor_66 (pq := 69) rfl ?_
        refine wb_iload 4 hX dX7_holdFor_69 rfl (pq := 71) rfl ?_
        refine wb_iald hX sh_144 hi_2 dX7_holdFor_71 (pq := 72) rfl ?_
        refine wb_aload_n 1 hX dX7_holdFor_72 rfl (pq := 73) rfl ?_
        obtain ⟨q_5, hc_4, h⟩ := bind_s h
        refine wb_callVi (r0 := q_5) (s1 := s) [] hX sh_13 ml_969 (tAh_evenPairs hc_4) (by decide) rfl rfl (Nat.le_of_ble_eq_true rfl) dX7_holdFor_73 (pq := 76) rfl ?_
        refine wb_icmp_eq (tgt := 81) hX dX7_holdFor_76 (by decide) (fun c_6 => ?_) (pq := 79) rfl (fun c_6 => ?_)
        · have h := ite_t c_6 h
          exact tSi_holdFor_J81 hX hQ hN hk31 hk45 h
        · have h := ite_f c_6 h
          refine wb_iconst (v := iI (0)) hX dX7_holdFor_79 rfl (pq := 80) rfl ?_
          exact wb_zret hX hQ h nar01.1.1 dX7_holdFor_80
      · have h := ite_f c_3 h
        exact tSi_holdFor_J81 hX hQ hN hk31 hk45 h
set_option maxHeartbeats 4000000 in
set_option maxRecDepth 100000 in
theorem tSi_holdFor_L31 {G : wG} {X : wX} {x2 : Int32} {r0 : Int32} {s1 : wM} (hX : wOK G X cX7_holdFor RX7 (some .boolean) 3) (hQ : wRt G X (wQi G r0 s1)) (hN : wNl X = 5) : ∀ (n : Nat) (x3 : Int32) (s : wM), wh2 (fSi_holdFor_L31 x2) n x3 s = some (r0, s1) → WB G X 31 [(0, .ref (G.1 142)), (1, .ref (G.1 13)), (2, .int x2), (3, .int x3)] [] s := by
  intro n
  induction n with
  | zero => intro x3 s h; cases h
  | succ n hk31 =>
    intro x3 s h
    have h : fSi_holdFor_L31 x2 x3 s (wh2 (fSi_holdFor_L31 x2) n) = some (r0, s1) := h
    unfold fSi_holdFor_L31 at h
    refine wb_iload_n 3 hX dX7_holdFor_31 rfl (pq := 32) rfl ?_
    refine wb_iload_n 2 hX dX7_holdFor_32 rfl (pq := 33) rfl ?_
    refine wb_icmp_gt (tgt := 93) hX dX7_holdFor_33 (by decide) (fun c_1 => ?_) (pq := 36) rfl (fun c_1 => ?_)
    · have h := ite_t c_1 h
      refine wb_iconst (v := iI (1)) hX dX7_holdFor_93 rfl (pq := 94) rfl ?_
      exact wb_zret hX hQ h nar01.2.1 dX7_holdFor_94
    · have h := ite_f c_1 h
      refine wb_aload_n 1 hX dX7_holdFor_36 rfl (pq := 37) rfl ?_
      refine wb_iconst (v := iI (0)) hX dX7_holdFor_37 rfl (pq := 38) rfl ?_
      refine wb_iconst (v := iI (0)) hX dX7_holdFor_38 rfl (pq := 39) rfl ?_
      obtain ⟨q_3, hc_2, h⟩ := bind_s h
      refine wb_callVv (s1 := q_3) [.int (iI (0)), .int (iI (0))] hX sh_13 ml_968 (tAh_pass hc_2) (by decide) rfl rfl (Nat.le_of_ble_eq_true rfl) dX7_holdFor_39 (pq := 42) rfl ?_
      refine wb_iconst (v := iI (0)) hX dX7_holdFor_42 rfl (pq := 43) rfl ?_
      refine wb_istore (loc' := [(4, .int (iI (0))), (0, .ref (G.1 142)), (1, .ref (G.1 13)), (2, .int x2), (3, .int x3)]) hX hN dX7_holdFor_43 (by decide) rfl (pq := 45) rfl ?_
      refine wb_sub [1, 2, 3, 4, 0] (loc' := [(0, .ref (G.1 142)), (1, .ref (G.1 13)), (2, .int x2), (3, .int x3), (4, .int (iI (0)))]) rfl ?_
      exact tSi_holdFor_L45 hX hQ hN hk31 100000 _ h
set_option maxHeartbeats 4000000 in
set_option maxRecDepth 100000 in
theorem tSi_holdFor_L4 {G : wG} {X : wX} {s : wM} {r0 : Int32} {s1 : wM} (hX : wOK G X cX7_holdFor RX7 (some .boolean) 3) (hQ : wRt G X (wQi G r0 s1)) (hN : wNl X = 5) : ∀ (n : Nat) (x2 : Int32) (x3 : Int32), wh2 (fSi_holdFor_L4 s) n x2 x3 = some (r0, s1) → WB G X 4 [(0, .ref (G.1 142)), (1, .ref (G.1 13)), (2, .int x2), (3, .int x3)] [] s := by
  intro n
  induction n with
  | zero => intro x2 x3 h; cases h
  | succ n hk4 =>
    intro x2 x3 h
    have h : fSi_holdFor_L4 s x2 x3 (wh2 (fSi_holdFor_L4 s) n) = some (r0, s1) := h
    unfold fSi_holdFor_L4 at h
    refine wb_iload_n 3 hX dX7_holdFor_4 rfl (pq := 5) rfl ?_
    refine wb_aload_n 0 hX dX7_holdFor_5 rfl (pq := 6) rfl ?_
    refine wb_getI hX fl_319 sh_142 rfl dX7_holdFor_6 (pq := 9) rfl ?_
    refine wb_icmp_ge (tgt := 29) hX dX7_holdFor_9 (by decide) (fun c_1 => ?_) (pq := 12) rfl (fun c_1 => ?_)
    · have h := ite_t c_1 h
      refine wb_iconst (v := iI (1)) hX dX7_holdFor_29 rfl (pq := 30) rfl ?_
      refine wb_istore_n (loc' := [(3, .int (iI (1))), (0, .ref (G.1 142)), (1, .ref (G.1 13)), (2, .int x2)]) hX hN dX7_holdFor_30 (by decide) rfl (pq := 31) rfl ?_
      refine wb_sub [1, 2, 3, 0] (loc' := [(0, .ref (G.1 142)), (1, .ref (G.1 13)), (2, .int x2), (3, .int (iI (1)))]) rfl ?_
      exact tSi_holdFor_L31 hX hQ hN 100000 _ _ h
    · have h := ite_f c_1 h
      refine wb_iload_n 2 hX dX7_holdFor_12 rfl (pq := 13) rfl ?_
      refine wb_aload_n 0 hX dX7_holdFor_13 rfl (pq := 14) rfl ?_
      refine wb_getR hX fl_321 sh_142 rfl dX7_holdFor_14 (pq := 17) rfl ?_
      refine wb_iload_n 3 hX dX7_holdFor_17 rfl (pq := 18) rfl ?_
      obtain ⟨hi_2, h⟩ := chk_some h
      refine wb_iald hX sh_143 hi_2 dX7_holdFor_18 (pq := 19) rfl ?_
      refine wb_mmax hX k_967 k_491 k_14 k_492 (Nat.le_of_ble_eq_true rfl) dX7_holdFor_19 (pq := 22) rfl ?_
      refine wb_istore_n (loc' := [(2, .int (iMax x2 (s.1 143 x3.toNatClampNeg))), (0, .ref (G.1 142)), (1, .ref (G.1 13)), (3, .int x3)]) hX hN dX7_holdFor_22 (by decide) rfl (pq := 23) rfl ?_
      refine wb_iinc (v := (x3 + iI (1))) (loc' := [(3, .int (x3 + iI (1))), (2, .int (iMax x2 (s.1 143 x3.toNatClampNeg))), (0, .ref (G.1 142)), (1, .ref (G.1 13))]) 3 hX hN dX7_holdFor_23 rfl rfl (by decide) rfl (pq := 26) rfl ?_
      refine wb_goto (tgt := 4) hX dX7_holdFor_26 (by decide) ?_
      refine wb_sub [2, 3, 1, 0] (loc' := [(0, .ref (G.1 142)), (1, .ref (G.1 13)), (2, .int (iMax x2 (s.1 143 x3.toNatClampNeg))), (3, .int (x3 + iI (1)))]) rfl ?_
      exact hk4 _ _ h
set_option maxHeartbeats 4000000 in
set_option maxRecDepth 100000 in
theorem tSi_holdFor {l : Launch} {G : wG} {s : wM} {r0 : Int32} {s1 : wM} (h : fSi_holdFor s = some (r0, s1)) : wMet l G yX7_holdFor cX7_holdFor 5 (some .boolean) 3 [.ref (G.1 142), .ref (G.1 13)] s (wQi G r0 s1) := by
  refine wMet_of (own := RX7) (by decide +kernel) rfl (Nat.le_of_ble_eq_true rfl) ?_
  intro X hX hQ hN hl
  show WB G X 0 [(0, .ref (G.1 142)), (1, .ref (G.1 13))] [] s
  unfold fSi_holdFor at h
  refine wb_iconst (v := iI (0)) hX dX7_holdFor_0 rfl (pq := 1) rfl ?_
  refine wb_istore_n (loc' := [(2, .int (iI (0))), (0, .ref (G.1 142)), (1, .ref (G.1 13))]) hX hN dX7_holdFor_1 (by decide) rfl (pq := 2) rfl ?_
  refine wb_iconst (v := iI (0)) hX dX7_holdFor_2 rfl (pq := 3) rfl ?_
  refine wb_istore_n (loc' := [(3, .int (iI (0))), (2, .int (iI (0))), (0, .ref (G.1 142)), (1, .ref (G.1 13))]) hX hN dX7_holdFor_3 (by decide) rfl (pq := 4) rfl ?_
  refine wb_sub [2, 3, 1, 0] (loc' := [(0, .ref (G.1 142)), (1, .ref (G.1 13)), (2, .int (iI (0))), (3, .int (iI (0)))]) rfl ?_
  exact tSi_holdFor_L4 hX hQ hN 100000 _ _ h
set_option maxHeartbeats 4000000 in
set_option maxRecDepth 100000 in
theorem tSn_giveSpringsAndLaw {l : Launch} {G : wG} {s : wM} {x0 : Nat} {s1 : wM} (hx0 : wSnap x0) (h : fSn_giveSpringsAndLaw s x0 = some s1) : wMet l G yX8_giveSpringsAndLaw cX8_giveSpringsAndLaw 2 none 0 [.ref (G.1 x0), .ref (G.1 7)] s (wQv G s1) := by
  refine wMet_of (own := RX8) (by decide +kernel) rfl (Nat.le_of_ble_eq_true rfl) ?_
  intro X hX hQ hN hl
  show WB G X 0 [(0, .ref (G.1 x0)), (1, .ref (G.1 7))] [] s
  unfold fSn_giveSpringsAndLaw at h
  refine wb_aload_n 0 hX dX8_giveSpringsAndLaw_0 rfl (pq := 1) rfl ?_
  refine wb_getR hX fl_282 hx0.1 rfl dX8_giveSpringsAndLaw_1 (pq := 4) rfl ?_
  refine wb_iconst (v := iI (0)) hX dX8_giveSpringsAndLaw_4 rfl (pq := 5) rfl ?_
  refine wb_aload_n 1 hX dX8_giveSpringsAndLaw_5 rfl (pq := 6) rfl ?_
  refine wb_getR hX fl_93 sh_7 rfl dX8_giveSpringsAndLaw_6 (pq := 9) rfl ?_
  refine wb_iconst (v := iI (0)) hX dX8_giveSpringsAndLaw_9 rfl (pq := 10) rfl ?_
  refine wb_bipush (v := iI (9)) hX dX8_giveSpringsAndLaw_10 (by decide) (pq := 12) rfl ?_
  obtain ⟨hc_1, h⟩ := chkC_some h
  refine wb_copy hX k_515 k_517 k_516 k_19 hx0.2.2.1 sh_9 hc_1 (Nat.le_of_ble_eq_true rfl) dX8_giveSpringsAndLaw_12 (pq := 15) rfl ?_
  refine wb_mem (fun s_2 es_2 => ?_)
  have h := nmM_s h s_2 es_2
  refine wb_aload_n 0 hX dX8_giveSpringsAndLaw_15 rfl (pq := 16) rfl ?_
  refine wb_getR hX fl_284 hx0.1 rfl dX8_giveSpringsAndLaw_16 (pq := 19) rfl ?_
  refine wb_iconst (v := iI (0)) hX dX8_giveSpringsAndLaw_19 rfl (pq := 20) rfl ?_
  refine wb_aload_n 1 hX dX8_giveSpringsAndLaw_20 rfl (pq := 21) rfl ?_
  refine wb_getR hX fl_102 sh_7 rfl dX8_giveSpringsAndLaw_21 (pq := 24) rfl ?_
  refine wb_iconst (v := iI (0)) hX dX8_giveSpringsAndLaw_24 rfl (pq := 25) rfl ?_
  refine wb_iconst (v := iI (3)) hX dX8_giveSpringsAndLaw_25 rfl (pq := 26) rfl ?_
  obtain ⟨hc_3, h⟩ := chkC_some h
  refine wb_copy hX k_515 k_517 k_516 k_19 hx0.2.2.2.2 sh_11 hc_3 (Nat.le_of_ble_eq_true rfl) dX8_giveSpringsAndLaw_26 (pq := 29) rfl ?_
  refine wb_mem (fun s_4 es_4 => ?_)
  have h := nmM_s h s_4 es_4
  exact wb_vret hX hQ h dX8_giveSpringsAndLaw_29
set_option maxHeartbeats 4000000 in
set_option maxRecDepth 100000 in
theorem tTx_append_L16 {G : wG} {X : wX} {x1 : Int32} {r0 : Int32} {s1 : wM} (hX : wOK G X cX9_append RX9 (some .boolean) 0) (hQ : wRt G X (wQi G r0 s1)) (hN : wNl X = 3) : ∀ (n : Nat) (x2 : Int32) (s : wM), wh2 (fTx_append_L16 x1) n x2 s = some (r0, s1) → WB G X 16 [(0, .ref (G.1 1)), (1, .int x1), (2, .int x2)] [] s := by
  intro n
  induction n with
  | zero => intro x2 s h; cases h
  | succ n hk16 =>
    intro x2 s h
    have h : fTx_append_L16 x1 x2 s (wh2 (fTx_append_L16 x1) n) = some (r0, s1) := h
    unfold fTx_append_L16 at h
    refine wb_iload_n 2 hX dX9_append_16 rfl (pq := 17) rfl ?_
    refine wb_if_lt (tgt := 53) hX dX9_append_17 (by decide) (fun c_1 => ?_) (pq := 20) rfl (fun c_1 => ?_)
    · have h := ite_t c_1 h
      refine wb_iconst (v := iI (1)) hX dX9_append_53 rfl (pq := 54) rfl ?_
      exact wb_zret hX hQ h nar01.2.1 dX9_append_54
    · have h := ite_f c_1 h
      refine wb_aload_n 0 hX dX9_append_20 rfl (pq := 21) rfl ?_
      refine wb_getR hX fl_35 sh_1 rfl dX9_append_21 (pq := 24) rfl ?_
      refine wb_aload_n 0 hX dX9_append_24 rfl (pq := 25) rfl ?_
      refine wb_getI hX fl_37 sh_1 rfl dX9_append_25 (pq := 28) rfl ?_
      refine wb_iload_n 1 hX dX9_append_28 rfl (pq := 29) rfl ?_
      refine wb_iload_n 2 hX dX9_append_29 rfl (pq := 30) rfl ?_
      refine wb_iushr hX dX9_append_30 (pq := 31) rfl ?_
      refine wb_sipush (v := iI (255)) hX dX9_append_31 (by decide) (pq := 34) rfl ?_
      refine wb_iand hX dX9_append_34 (pq := 35) rfl ?_
      refine wb_i2c hX dX9_append_35 (pq := 36) rfl ?_
      obtain ⟨hi_2, h⟩ := chk_some h
      refine wb_cast hX sh_2 hi_2 (nar_iC _) dX9_append_36 (pq := 37) rfl ?_
      refine wb_mem (fun s_3 es_3 => ?_)
      have h := nmM_s h s_3 es_3
      refine wb_aload_n 0 hX dX9_append_37 rfl (pq := 38) rfl ?_
      refine wb_dup hX dX9_append_38 rfl (pq := 39) rfl ?_
      refine wb_getI hX fl_37 sh_1 rfl dX9_append_39 (pq := 42) rfl ?_
      refine wb_iconst (v := iI (1)) hX dX9_append_42 rfl (pq := 43) rfl ?_
      refine wb_iadd hX dX9_append_43 (pq := 44) rfl ?_
      refine wb_putI hX fp_37 sh_1 rfl dX9_append_44 rfl rfl (pq := 47) rfl ?_
      refine wb_mem (fun s_4 es_4 => ?_)
      have h := nmM_s h s_4 es_4
      refine wb_iinc (v := (x2 + iI (-8))) (loc' := [(2, .int (x2 + iI (-8))), (0, .ref (G.1 1)), (1, .int x1)]) 2 hX hN dX9_append_47 rfl rfl (by decide) rfl (pq := 50) rfl ?_
      refine wb_goto (tgt := 16) hX dX9_append_50 (by decide) ?_
      refine wb_sub [1, 2, 0] (loc' := [(0, .ref (G.1 1)), (1, .int x1), (2, .int (x2 + iI (-8)))]) rfl ?_
      exact hk16 _ _ h
set_option maxHeartbeats 4000000 in
set_option maxRecDepth 100000 in
theorem tTx_append {l : Launch} {G : wG} {s : wM} {x1 : Int32} {r0 : Int32} {s1 : wM} (h : fTx_append s x1 = some (r0, s1)) : wMet l G yX9_append cX9_append 3 (some .boolean) 0 [.ref (G.1 1), .int x1] s (wQi G r0 s1) := by
  refine wMet_of (own := RX9) (by decide +kernel) rfl (Nat.le_of_ble_eq_true rfl) ?_
  intro X hX hQ hN hl
  show WB G X 0 [(0, .ref (G.1 1)), (1, .int x1)] [] s
  unfold fTx_append at h
  refine wb_aload_n 0 hX dX9_append_0 rfl (pq := 1) rfl ?_
  refine wb_getI hX fl_37 sh_1 rfl dX9_append_1 (pq := 4) rfl ?_
  refine wb_iconst (v := iI (4)) hX dX9_append_4 rfl (pq := 5) rfl ?_
  refine wb_iadd hX dX9_append_5 (pq := 6) rfl ?_
  refine wb_bipush (v := iI (80)) hX dX9_append_6 (by decide) (pq := 8) rfl ?_
  refine wb_icmp_le (tgt := 13) hX dX9_append_8 (by decide) (fun c_1 => ?_) (pq := 11) rfl (fun c_1 => ?_)
  · have h := ite_t c_1 h
    refine wb_bipush (v := iI (24)) hX dX9_append_13 (by decide) (pq := 15) rfl ?_
    refine wb_istore_n (loc' := [(2, .int (iI (24))), (0, .ref (G.1 1)), (1, .int x1)]) hX hN dX9_append_15 (by decide) rfl (pq := 16) rfl ?_
    refine wb_sub [1, 2, 0] (loc' := [(0, .ref (G.1 1)), (1, .int x1), (2, .int (iI (24)))]) rfl ?_
    exact tTx_append_L16 hX hQ hN 100000 _ _ h
  · have h := ite_f c_1 h
    refine wb_iconst (v := iI (0)) hX dX9_append_11 rfl (pq := 12) rfl ?_
    exact wb_zret hX hQ h nar01.1.1 dX9_append_12
set_option maxHeartbeats 4000000 in
set_option maxRecDepth 100000 in
theorem tTx_cut_J12 {G : wG} {X : wX} {s : wM} {r0 : Int32} {s1 : wM} (hX : wOK G X cX9_cut RX9 (some .boolean) 0) (hQ : wRt G X (wQi G r0 s1)) (hN : wNl X = 2) (h : fTx_cut_J12 s = some (r0, s1)) : WB G X 12 [] [] s := by
  unfold fTx_cut_J12 at h
  refine wb_iconst (v := iI (0)) hX dX9_cut_12 rfl (pq := 13) rfl ?_
  exact wb_zret hX hQ h nar01.1.1 dX9_cut_13
set_option maxHeartbeats 4000000 in
set_option maxRecDepth 100000 in
theorem tTx_cut {l : Launch} {G : wG} {s : wM} {x1 : Int32} {r0 : Int32} {s1 : wM} (h : fTx_cut s x1 = some (r0, s1)) : wMet l G yX9_cut cX9_cut 2 (some .boolean) 0 [.ref (G.1 1), .int x1] s (wQi G r0 s1) := by
  refine wMet_of (own := RX9) (by decide +kernel) rfl (Nat.le_of_ble_eq_true rfl) ?_
  intro X hX hQ hN hl
  show WB G X 0 [(0, .ref (G.1 1)), (1, .int x1)] [] s
  unfold fTx_cut at h
  refine wb_iload_n 1 hX dX9_cut_0 rfl (pq := 1) rfl ?_
  refine wb_if_lt (tgt := 12) hX dX9_cut_1 (by decide) (fun c_1 => ?_) (pq := 4) rfl (fun c_1 => ?_)
  · have h := ite_t c_1 h
    refine wb_sub [] (loc' := []) rfl ?_
    exact tTx_cut_J12 hX hQ hN h
  · have h := ite_f c_1 h
    refine wb_iload_n 1 hX dX9_cut_4 rfl (pq := 5) rfl ?_
    refine wb_aload_n 0 hX dX9_cut_5 rfl (pq := 6) rfl ?_
    refine wb_getI hX fl_37 sh_1 rfl dX9_cut_6 (pq := 9) rfl ?_
    refine wb_icmp_le (tgt := 14) hX dX9_cut_9 (by decide) (fun c_2 => ?_) (pq := 12) rfl (fun c_2 => ?_)
    · have h := ite_t c_2 h
      refine wb_aload_n 0 hX dX9_cut_14 rfl (pq := 15) rfl ?_
      refine wb_iload_n 1 hX dX9_cut_15 rfl (pq := 16) rfl ?_
      refine wb_putI hX fp_37 sh_1 rfl dX9_cut_16 rfl rfl (pq := 19) rfl ?_
      refine wb_mem (fun s_3 es_3 => ?_)
      have h := nmM_s h s_3 es_3
      refine wb_iconst (v := iI (1)) hX dX9_cut_19 rfl (pq := 20) rfl ?_
      exact wb_zret hX hQ h nar01.2.1 dX9_cut_20
    · have h := ite_f c_2 h
      refine wb_sub [] (loc' := []) rfl ?_
      exact tTx_cut_J12 hX hQ hN h
set_option maxHeartbeats 4000000 in
set_option maxRecDepth 100000 in
theorem tW_sign_J22 {G : wG} {X : wX} {v0 : Int32} {s : wM} {r0 : Int32} {s1 : wM} (hX : wOK G X cX10_sign RX10 (some .int) 1) (hQ : wRt G X (wQi G r0 s1)) (hN : wNl X = 2) (h : fW_sign_J22 v0 s = some (r0, s1)) : WB G X 22 [] [.int v0] s := by
  unfold fW_sign_J22 at h
  exact wb_iret hX hQ h dX10_sign_22
set_option maxHeartbeats 4000000 in
set_option maxRecDepth 100000 in
theorem tW_sign {l : Launch} {G : wG} {s : wM} {x1 : Int32} {r0 : Int32} {s1 : wM} (h : fW_sign s x1 = some (r0, s1)) : wMet l G yX10_sign cX10_sign 2 (some .int) 1 [.ref (G.1 0), .int x1] s (wQi G r0 s1) := by
  refine wMet_of (own := RX10) (by decide +kernel) rfl (Nat.le_of_ble_eq_true rfl) ?_
  intro X hX hQ hN hl
  show WB G X 0 [(0, .ref (G.1 0)), (1, .int x1)] [] s
  unfold fW_sign at h
  refine wb_aload_n 0 hX dX10_sign_0 rfl (pq := 1) rfl ?_
  refine wb_getR hX fl_331 sh_0 rfl dX10_sign_1 (pq := 4) rfl ?_
  refine wb_iload_n 1 hX dX10_sign_4 rfl (pq := 5) rfl ?_
  obtain ⟨q_2, hc_1, h⟩ := bind_s h
  refine wb_callVi (r0 := q_2.1) (s1 := q_2.2) [.int x1] hX sh_1 ml_369 (tTx_append hc_1) (by decide) rfl rfl (Nat.le_of_ble_eq_true rfl) dX10_sign_5 (pq := 8) rfl ?_
  refine wb_if_eq (tgt := 21) hX dX10_sign_8 (by decide) (fun c_3 => ?_) (pq := 11) rfl (fun c_3 => ?_)
  · have h := ite_t c_3 h
    refine wb_iconst (v := iI (-1)) hX dX10_sign_21 rfl (pq := 22) rfl ?_
    refine wb_sub [] (loc' := []) rfl ?_
    exact tW_sign_J22 hX hQ hN h
  · have h := ite_f c_3 h
    refine wb_aload_n 0 hX dX10_sign_11 rfl (pq := 12) rfl ?_
    refine wb_getR hX fl_331 sh_0 rfl dX10_sign_12 (pq := 15) rfl ?_
    refine wb_getI hX fl_38 sh_1 rfl dX10_sign_15 (pq := 18) rfl ?_
    refine wb_goto (tgt := 22) hX dX10_sign_18 (by decide) ?_
    refine wb_sub [] (loc' := []) rfl ?_
    exact tW_sign_J22 hX hQ hN h
set_option maxHeartbeats 4000000 in
set_option maxRecDepth 100000 in
theorem tW_end {l : Launch} {G : wG} {s : wM} {x1 : Int32} {r0 : Int32} {s1 : wM} (h : fW_end s x1 = some (r0, s1)) : wMet l G yX10_end cX10_end 2 (some .boolean) 1 [.ref (G.1 0), .int x1] s (wQi G r0 s1) := by
  refine wMet_of (own := RX10) (by decide +kernel) rfl (Nat.le_of_ble_eq_true rfl) ?_
  intro X hX hQ hN hl
  show WB G X 0 [(0, .ref (G.1 0)), (1, .int x1)] [] s
  unfold fW_end at h
  refine wb_aload_n 0 hX dX10_end_0 rfl (pq := 1) rfl ?_
  refine wb_getR hX fl_331 sh_0 rfl dX10_end_1 (pq := 4) rfl ?_
  refine wb_iload_n 1 hX dX10_end_4 rfl (pq := 5) rfl ?_
  obtain ⟨q_2, hc_1, h⟩ := bind_s h
  refine wb_callVi (r0 := q_2.1) (s1 := q_2.2) [.int x1] hX sh_1 ml_377 (tTx_cut hc_1) (by decide) rfl rfl (Nat.le_of_ble_eq_true rfl) dX10_end_5 (pq := 8) rfl ?_
  obtain ⟨hz_3, h⟩ := chkZ_some h
  exact wb_zret hX hQ h hz_3.1 dX10_end_8
set_option maxHeartbeats 4000000 in
set_option maxRecDepth 100000 in
theorem tW_county_J143 {G : wG} {X : wX} {k56 : Int32 → wM → Option (Int32 × wM)} {x2 : Int32} {s : wM} {r0 : Int32} {s1 : wM} (hX : wOK G X cX10_county RX10 (some .int) 5) (hQ : wRt G X (wQi G r0 s1)) (hN : wNl X = 3) (hk56 : ∀ (x2 : Int32) (s : wM), k56 x2 s = some (r0, s1) → WB G X 56 [(0, .ref (G.1 0)), (2, .int x2)] [] s) (h : fW_county_J143 k56 x2 s = some (r0, s1)) : WB G X 143 [(0, .ref (G.1 0)), (2, .int x2)] [] s := by
  unfold fW_county_J143 at h
  refine wb_iinc (v := (x2 + iI (1))) (loc' := [(2, .int (x2 + iI (1))), (0, .ref (G.1 0))]) 1 hX hN dX10_county_143 rfl rfl (by decide) rfl (pq := 146) rfl ?_
  refine wb_goto (tgt := 56) hX dX10_county_146 (by decide) ?_
  refine wb_sub [1, 0] (loc' := [(0, .ref (G.1 0)), (2, .int (x2 + iI (1)))]) rfl ?_
  exact hk56 _ _ h
set_option maxHeartbeats 4000000 in
set_option maxRecDepth 100000 in
theorem tW_county_L56 {G : wG} {X : wX} {r0 : Int32} {s1 : wM} (hX : wOK G X cX10_county RX10 (some .int) 5) (hQ : wRt G X (wQi G r0 s1)) (hN : wNl X = 3) : ∀ (n : Nat) (x2 : Int32) (s : wM), wh2 (fW_county_L56) n x2 s = some (r0, s1) → WB G X 56 [(0, .ref (G.1 0)), (2, .int x2)] [] s := by
  intro n
  induction n with
  | zero => intro x2 s h; cases h
  | succ n hk56 =>
    intro x2 s h
    have h : fW_county_L56 x2 s (wh2 (fW_county_L56) n) = some (r0, s1) := h
    unfold fW_county_L56 at h
    refine wb_iload_n 1 hX dX10_county_56 rfl (pq := 57) rfl ?_
    refine wb_aload_n 0 hX dX10_county_57 rfl (pq := 58) rfl ?_
    refine wb_getR hX fl_332 sh_0 rfl dX10_county_58 (pq := 61) rfl ?_
    refine wb_getI hX fl_59 sh_3 rfl dX10_county_61 (pq := 64) rfl ?_
    refine wb_icmp_ge (tgt := 149) hX dX10_county_64 (by decide) (fun c_1 => ?_) (pq := 67) rfl (fun c_1 => ?_)
    · have h := ite_t c_1 h
      refine wb_aload_n 0 hX dX10_county_149 rfl (pq := 150) rfl ?_
      refine wb_getR hX fl_332 sh_0 rfl dX10_county_150 (pq := 153) rfl ?_
      refine wb_getI hX fl_59 sh_3 rfl dX10_county_153 (pq := 156) rfl ?_
      exact wb_iret hX hQ h dX10_county_156
    · have h := ite_f c_1 h
      refine wb_aload_n 0 hX dX10_county_67 rfl (pq := 68) rfl ?_
      refine wb_getR hX fl_332 sh_0 rfl dX10_county_68 (pq := 71) rfl ?_
      refine wb_getR hX fl_53 sh_3 rfl dX10_county_71 (pq := 74) rfl ?_
      refine wb_iload_n 1 hX dX10_county_74 rfl (pq := 75) rfl ?_
      obtain ⟨hi_2, h⟩ := chk_some h
      refine wb_iald hX sh_4 hi_2 dX10_county_75 (pq := 76) rfl ?_
      refine wb_iconst (v := iI (-1)) hX dX10_county_76 rfl (pq := 77) rfl ?_
      refine wb_icmp_ne (tgt := 109) hX dX10_county_77 (by decide) (pq := 80) rfl (fun c_3 => ?_) (fun c_3 => ?_)
      · have h := ite_t c_3 h
        refine wb_aload_n 0 hX dX10_county_80 rfl (pq := 81) rfl ?_
        refine wb_getR hX fl_333 sh_0 rfl dX10_county_81 (pq := 84) rfl ?_
        refine wb_aload_n 0 hX dX10_county_84 rfl (pq := 85) rfl ?_
        refine wb_getR hX fl_332 sh_0 rfl dX10_county_85 (pq := 88) rfl ?_
        refine wb_getR hX fl_55 sh_3 rfl dX10_county_88 (pq := 91) rfl ?_
        refine wb_iload_n 1 hX dX10_county_91 rfl (pq := 92) rfl ?_
        refine wb_iald hX sh_5 hi_2 dX10_county_92 (pq := 93) rfl ?_
        refine wb_aload_n 0 hX dX10_county_93 rfl (pq := 94) rfl ?_
        refine wb_getR hX fl_332 sh_0 rfl dX10_county_94 (pq := 97) rfl ?_
        refine wb_getR hX fl_57 sh_3 rfl dX10_county_97 (pq := 100) rfl ?_
        refine wb_iload_n 1 hX dX10_county_100 rfl (pq := 101) rfl ?_
        refine wb_iald hX sh_6 hi_2 dX10_county_101 (pq := 102) rfl ?_
        obtain ⟨q_5, hc_4, h⟩ := bind_s h
        refine wb_callVi (r0 := q_5.1) (s1 := q_5.2) [.int (s.1 5 x2.toNatClampNeg), .int (s.1 6 x2.toNatClampNeg)] hX sh_7 ml_439 (tLand_settle hc_4) (by decide) rfl rfl (Nat.le_of_ble_eq_true rfl) dX10_county_102 (pq := 105) rfl ?_
        refine wb_pop hX dX10_county_105 rfl (pq := 106) rfl ?_
        refine wb_goto (tgt := 143) hX dX10_county_106 (by decide) ?_
        exact tW_county_J143 hX hQ hN hk56 h
      · have h := ite_f c_3 h
        refine wb_aload_n 0 hX dX10_county_109 rfl (pq := 110) rfl ?_
        refine wb_getR hX fl_333 sh_0 rfl dX10_county_110 (pq := 113) rfl ?_
        refine wb_aload_n 0 hX dX10_county_113 rfl (pq := 114) rfl ?_
        refine wb_getR hX fl_332 sh_0 rfl dX10_county_114 (pq := 117) rfl ?_
        refine wb_getR hX fl_53 sh_3 rfl dX10_county_117 (pq := 120) rfl ?_
        refine wb_iload_n 1 hX dX10_county_120 rfl (pq := 121) rfl ?_
        refine wb_iald hX sh_4 hi_2 dX10_county_121 (pq := 122) rfl ?_
        refine wb_aload_n 0 hX dX10_county_122 rfl (pq := 123) rfl ?_
        refine wb_getR hX fl_332 sh_0 rfl dX10_county_123 (pq := 126) rfl ?_
        refine wb_getR hX fl_55 sh_3 rfl dX10_county_126 (pq := 129) rfl ?_
        refine wb_iload_n 1 hX dX10_county_129 rfl (pq := 130) rfl ?_
        refine wb_iald hX sh_5 hi_2 dX10_county_130 (pq := 131) rfl ?_
        refine wb_aload_n 0 hX dX10_county_131 rfl (pq := 132) rfl ?_
        refine wb_getR hX fl_332 sh_0 rfl dX10_county_132 (pq := 135) rfl ?_
        refine wb_getR hX fl_57 sh_3 rfl dX10_county_135 (pq := 138) rfl ?_
        refine wb_iload_n 1 hX dX10_county_138 rfl (pq := 139) rfl ?_
        refine wb_iald hX sh_6 hi_2 dX10_county_139 (pq := 140) rfl ?_
        obtain ⟨q_7, hc_6, h⟩ := bind_s h
        refine wb_callVv (s1 := q_7) [.int (s.1 4 x2.toNatClampNeg), .int (s.1 5 x2.toNatClampNeg), .int (s.1 6 x2.toNatClampNeg)] hX sh_7 ml_443 (tLand_join hc_6) (by decide) rfl rfl (Nat.le_of_ble_eq_true rfl) dX10_county_140 (pq := 143) rfl ?_
        exact tW_county_J143 hX hQ hN hk56 h
set_option maxHeartbeats 4000000 in
set_option maxRecDepth 100000 in
theorem tW_county_J54 {G : wG} {X : wX} {s : wM} {r0 : Int32} {s1 : wM} (hX : wOK G X cX10_county RX10 (some .int) 5) (hQ : wRt G X (wQi G r0 s1)) (hN : wNl X = 3) (h : fW_county_J54 s = some (r0, s1)) : WB G X 54 [(0, .ref (G.1 0))] [] s := by
  unfold fW_county_J54 at h
  refine wb_iconst (v := iI (0)) hX dX10_county_54 rfl (pq := 55) rfl ?_
  refine wb_istore_n (loc' := [(2, .int (iI (0))), (0, .ref (G.1 0))]) hX hN dX10_county_55 (by decide) rfl (pq := 56) rfl ?_
  refine wb_sub [1, 0] (loc' := [(0, .ref (G.1 0)), (2, .int (iI (0)))]) rfl ?_
  exact tW_county_L56 hX hQ hN 100000 _ _ h
set_option maxHeartbeats 4000000 in
set_option maxRecDepth 100000 in
theorem tW_county {l : Launch} {G : wG} {s : wM} {r0 : Int32} {s1 : wM} (h : fW_county s = some (r0, s1)) : wMet l G yX10_county cX10_county 3 (some .int) 5 [.ref (G.1 0)] s (wQi G r0 s1) := by
  refine wMet_of (own := RX10) (by decide +kernel) rfl (Nat.le_of_ble_eq_true rfl) ?_
  intro X hX hQ hN hl
  show WB G X 0 [(0, .ref (G.1 0))] [] s
  unfold fW_county at h
  refine wb_aload_n 0 hX dX10_county_0 rfl (pq := 1) rfl ?_
  refine wb_getR hX fl_332 sh_0 rfl dX10_county_1 (pq := 4) rfl ?_
  refine wb_aload_n 0 hX dX10_county_4 rfl (pq := 5) rfl ?_
  refine wb_getR hX fl_331 sh_0 rfl dX10_county_5 (pq := 8) rfl ?_
  refine wb_aload_n 0 hX dX10_county_8 rfl (pq := 9) rfl ?_
  refine wb_getR hX fl_333 sh_0 rfl dX10_county_9 (pq := 12) rfl ?_
  refine wb_getI hX fl_109 sh_7 rfl dX10_county_12 (pq := 15) rfl ?_
  obtain ⟨q_2, hc_1, h⟩ := bind_s h
  refine wb_callVi (r0 := q_2.1) (s1 := q_2.2) [.ref (G.1 1), .int (s.1 7 4)] hX sh_3 ml_385 (tRd_readCounty hc_1) (by decide) rfl rfl (Nat.le_of_ble_eq_true rfl) dX10_county_15 (pq := 18) rfl ?_
  refine wb_istore_n (loc' := [(1, .int q_2.1), (0, .ref (G.1 0))]) hX hN dX10_county_18 (by decide) rfl (pq := 19) rfl ?_
  refine wb_aload_n 1 hX dX10_county_19 rfl (pq := 20) rfl ?_
  refine wb_getR hX fl_331 sh_0 rfl dX10_county_20 (pq := 23) rfl ?_
  refine wb_iconst (v := iI (0)) hX dX10_county_23 rfl (pq := 24) rfl ?_
  obtain ⟨q_4, hc_3, h⟩ := bind_s h
  refine wb_callVi (r0 := q_4.1) (s1 := q_4.2) [.int (iI (0))] hX sh_1 ml_377 (tTx_cut hc_3) (by decide) rfl rfl (Nat.le_of_ble_eq_true rfl) dX10_county_24 (pq := 27) rfl ?_
  refine wb_pop hX dX10_county_27 rfl (pq := 28) rfl ?_
  refine wb_iload_n 0 hX dX10_county_28 rfl (pq := 29) rfl ?_
  refine wb_iconst (v := iI (-1)) hX dX10_county_29 rfl (pq := 30) rfl ?_
  refine wb_icmp_eq (tgt := 37) hX dX10_county_30 (by decide) (fun c_5 => ?_) (pq := 33) rfl (fun c_5 => ?_)
  · have h := ite_t c_5 h
    refine wb_aload_n 1 hX dX10_county_37 rfl (pq := 38) rfl ?_
    refine wb_getR hX fl_332 sh_0 rfl dX10_county_38 (pq := 41) rfl ?_
    refine wb_getI hX fl_59 sh_3 rfl dX10_county_41 (pq := 44) rfl ?_
    refine wb_if_le (tgt := 54) hX dX10_county_44 (by decide) (fun c_6 => ?_) (pq := 47) rfl (fun c_6 => ?_)
    · have h := ite_t c_6 h
      refine wb_sub [1] (loc' := [(0, .ref (G.1 0))]) rfl ?_
      exact tW_county_J54 hX hQ hN h
    · have h := ite_f c_6 h
      refine wb_aload_n 1 hX dX10_county_47 rfl (pq := 48) rfl ?_
      refine wb_getR hX fl_338 sh_0 rfl dX10_county_48 (pq := 51) rfl ?_
      obtain ⟨q_8, hc_7, h⟩ := bind_s h
      refine wb_callVv (s1 := q_8) [] hX sh_34 ml_435 (tPa_clear hc_7) (by decide) rfl rfl (Nat.le_of_ble_eq_true rfl) dX10_county_51 (pq := 54) rfl ?_
      refine wb_sub [1] (loc' := [(0, .ref (G.1 0))]) rfl ?_
      exact tW_county_J54 hX hQ hN h
  · have h := ite_f c_5 h
    refine wb_iconst (v := iI (-1)) hX dX10_county_33 rfl (pq := 34) rfl ?_
    refine wb_iload_n 0 hX dX10_county_34 rfl (pq := 35) rfl ?_
    refine wb_isub hX dX10_county_35 (pq := 36) rfl ?_
    exact wb_iret hX hQ h dX10_county_36
