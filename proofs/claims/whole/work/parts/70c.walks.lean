set_option maxHeartbeats 4000000 in
set_option maxRecDepth 100000 in
theorem tW_stone_J35 {G : wG} {X : wX} {v0 : Int32} {s : wM} {r0 : Int32} (hX : wOK G X cX10_stone RX10 (some .int) 2) (hQ : wRt G X (wQi G r0 s)) (hN : wNl X = 4) (h : fW_stone_J35 v0 s = some r0) : WB G X 35 [] [.int v0] s := by
  unfold fW_stone_J35 at h
  exact wb_iretP hX hQ h dX10_stone_35
set_option maxHeartbeats 4000000 in
set_option maxRecDepth 100000 in
theorem tW_stone {l : Launch} {G : wG} {s : wM} {x1 : Int32} {x2 : Int32} {r0 : Int32} (h : fW_stone s x1 x2 = some r0) : wMet l G yX10_stone cX10_stone 4 (some .int) 2 [.ref (G.1 0), .int x1, .int x2] s (wQi G r0 s) := by
  refine wMet_of (own := RX10) (by decide +kernel) rfl (Nat.le_of_ble_eq_true rfl) ?_
  intro X hX hQ hN hl
  show WB G X 0 [(0, .ref (G.1 0)), (1, .int x1), (2, .int x2)] [] s
  unfold fW_stone at h
  refine wb_aload_n 0 hX dX10_stone_0 rfl (pq := 1) rfl ?_
  refine wb_getR hX fl_333 sh_0 rfl dX10_stone_1 (pq := 4) rfl ?_
  refine wb_iload_n 1 hX dX10_stone_4 rfl (pq := 5) rfl ?_
  refine wb_iload_n 2 hX dX10_stone_5 rfl (pq := 6) rfl ?_
  obtain ⟨q_2, hc_1, h⟩ := bind_s h
  refine wb_callVi (r0 := q_2) (s1 := s) [.int x1, .int x2] hX sh_7 ml_451 (tLand_hasTwo hc_1) (by decide) rfl rfl (Nat.le_of_ble_eq_true rfl) dX10_stone_6 (pq := 9) rfl ?_
  refine wb_if_ne (tgt := 14) hX dX10_stone_9 (by decide) (pq := 12) rfl (fun c_3 => ?_) (fun c_3 => ?_)
  · have h := ite_t c_3 h
    refine wb_iconst (v := iI (-1)) hX dX10_stone_12 rfl (pq := 13) rfl ?_
    exact wb_iretP hX hQ h dX10_stone_13
  · have h := ite_f c_3 h
    refine wb_aload_n 0 hX dX10_stone_14 rfl (pq := 15) rfl ?_
    refine wb_getR hX fl_333 sh_0 rfl dX10_stone_15 (pq := 18) rfl ?_
    refine wb_iload_n 1 hX dX10_stone_18 rfl (pq := 19) rfl ?_
    refine wb_iload_n 2 hX dX10_stone_19 rfl (pq := 20) rfl ?_
    obtain ⟨q_5, hc_4, h⟩ := bind_s h
    refine wb_callVi (r0 := q_5) (s1 := s) [.int x1, .int x2] hX sh_7 ml_459 (tLand_between hc_4) (by decide) rfl rfl (Nat.le_of_ble_eq_true rfl) dX10_stone_20 (pq := 23) rfl ?_
    refine wb_istore_n (loc' := [(3, .int q_5), (0, .ref (G.1 0)), (1, .int x1), (2, .int x2)]) hX hN dX10_stone_23 (by decide) rfl (pq := 24) rfl ?_
    refine wb_iload_n 0 hX dX10_stone_24 rfl (pq := 25) rfl ?_
    refine wb_iconst (v := iI (-1)) hX dX10_stone_25 rfl (pq := 26) rfl ?_
    refine wb_icmp_ne (tgt := 34) hX dX10_stone_26 (by decide) (pq := 29) rfl (fun c_6 => ?_) (fun c_6 => ?_)
    · have h := ite_t c_6 h
      refine wb_bipush (v := iI (-2)) hX dX10_stone_29 (by decide) (pq := 31) rfl ?_
      refine wb_goto (tgt := 35) hX dX10_stone_31 (by decide) ?_
      refine wb_sub [] (loc' := []) rfl ?_
      exact tW_stone_J35 hX hQ hN h
    · have h := ite_f c_6 h
      refine wb_iload_n 0 hX dX10_stone_34 rfl (pq := 35) rfl ?_
      refine wb_sub [] (loc' := []) rfl ?_
      exact tW_stone_J35 hX hQ hN h
set_option maxHeartbeats 4000000 in
set_option maxRecDepth 100000 in
theorem tW_isWithin_J15 {G : wG} {X : wX} {v0 : Int32} {s : wM} {r0 : Int32} (hX : wOK G X cX10_isWithin RX10 (some .boolean) 0) (hQ : wRt G X (wQi G r0 s)) (hN : wNl X = 3) (h : fW_isWithin_J15 v0 s = some r0) : WB G X 15 [] [.int v0] s := by
  unfold fW_isWithin_J15 at h
  obtain ⟨hz_1, h⟩ := chkZ_some h
  exact wb_zretP hX hQ h hz_1.1 dX10_isWithin_15
set_option maxHeartbeats 4000000 in
set_option maxRecDepth 100000 in
theorem tW_isWithin_J14 {G : wG} {X : wX} {s : wM} {r0 : Int32} (hX : wOK G X cX10_isWithin RX10 (some .boolean) 0) (hQ : wRt G X (wQi G r0 s)) (hN : wNl X = 3) (h : fW_isWithin_J14 s = some r0) : WB G X 14 [] [] s := by
  unfold fW_isWithin_J14 at h
  refine wb_iconst (v := iI (0)) hX dX10_isWithin_14 rfl (pq := 15) rfl ?_
  exact tW_isWithin_J15 hX hQ hN h
set_option maxHeartbeats 4000000 in
set_option maxRecDepth 100000 in
theorem tW_isWithin {l : Launch} {G : wG} {s : wM} {x0 : Int32} {x1 : Int32} {x2 : Int32} {r0 : Int32} (h : fW_isWithin s x0 x1 x2 = some r0) : wMet l G yX10_isWithin cX10_isWithin 3 (some .boolean) 0 [.int x0, .int x1, .int x2] s (wQi G r0 s) := by
  refine wMet_of (own := RX10) (by decide +kernel) rfl (Nat.le_of_ble_eq_true rfl) ?_
  intro X hX hQ hN hl
  show WB G X 0 [(0, .int x0), (1, .int x1), (2, .int x2)] [] s
  unfold fW_isWithin at h
  refine wb_iload_n 0 hX dX10_isWithin_0 rfl (pq := 1) rfl ?_
  refine wb_iload_n 1 hX dX10_isWithin_1 rfl (pq := 2) rfl ?_
  refine wb_icmp_lt (tgt := 14) hX dX10_isWithin_2 (by decide) (fun c_1 => ?_) (pq := 5) rfl (fun c_1 => ?_)
  · have h := ite_t c_1 h
    refine wb_sub [] (loc' := []) rfl ?_
    exact tW_isWithin_J14 hX hQ hN h
  · have h := ite_f c_1 h
    refine wb_iload_n 0 hX dX10_isWithin_5 rfl (pq := 6) rfl ?_
    refine wb_iload_n 2 hX dX10_isWithin_6 rfl (pq := 7) rfl ?_
    refine wb_icmp_gt (tgt := 14) hX dX10_isWithin_7 (by decide) (fun c_2 => ?_) (pq := 10) rfl (fun c_2 => ?_)
    · have h := ite_t c_2 h
      refine wb_sub [] (loc' := []) rfl ?_
      exact tW_isWithin_J14 hX hQ hN h
    · have h := ite_f c_2 h
      refine wb_iconst (v := iI (1)) hX dX10_isWithin_10 rfl (pq := 11) rfl ?_
      refine wb_goto (tgt := 15) hX dX10_isWithin_11 (by decide) ?_
      refine wb_sub [] (loc' := []) rfl ?_
      exact tW_isWithin_J15 hX hQ hN h
set_option maxHeartbeats 4000000 in
set_option maxRecDepth 100000 in
theorem tW_touch_J22 {G : wG} {X : wX} {s : wM} {r0 : Int32} {s1 : wM} (hX : wOK G X cX10_touch RX10 (some .boolean) 2) (hQ : wRt G X (wQi G r0 s1)) (hN : wNl X = 4) (h : fW_touch_J22 s = some (r0, s1)) : WB G X 22 [] [] s := by
  unfold fW_touch_J22 at h
  refine wb_iconst (v := iI (0)) hX dX10_touch_22 rfl (pq := 23) rfl ?_
  exact wb_zret hX hQ h nar01.1.1 dX10_touch_23
set_option maxHeartbeats 4000000 in
set_option maxRecDepth 100000 in
theorem tW_touch {l : Launch} {G : wG} {s : wM} {x1 : Int32} {x2 : Int32} {x3 : Int32} {r0 : Int32} {s1 : wM} (h : fW_touch s x1 x2 x3 = some (r0, s1)) : wMet l G yX10_touch cX10_touch 4 (some .boolean) 2 [.ref (G.1 0), .int x1, .int x2, .int x3] s (wQi G r0 s1) := by
  refine wMet_of (own := RX10) (by decide +kernel) rfl (Nat.le_of_ble_eq_true rfl) ?_
  intro X hX hQ hN hl
  show WB G X 0 [(0, .ref (G.1 0)), (1, .int x1), (2, .int x2), (3, .int x3)] [] s
  unfold fW_touch at h
  refine wb_aload_n 0 hX dX10_touch_0 rfl (pq := 1) rfl ?_
  refine wb_getR hX fl_333 sh_0 rfl dX10_touch_1 (pq := 4) rfl ?_
  refine wb_iload_n 1 hX dX10_touch_4 rfl (pq := 5) rfl ?_
  refine wb_iload_n 2 hX dX10_touch_5 rfl (pq := 6) rfl ?_
  obtain ⟨q_2, hc_1, h⟩ := bind_s h
  refine wb_callVi (r0 := q_2) (s1 := s) [.int x1, .int x2] hX sh_7 ml_451 (tLand_hasTwo hc_1) (by decide) rfl rfl (Nat.le_of_ble_eq_true rfl) dX10_touch_6 (pq := 9) rfl ?_
  refine wb_if_eq (tgt := 22) hX dX10_touch_9 (by decide) (fun c_3 => ?_) (pq := 12) rfl (fun c_3 => ?_)
  · have h := ite_t c_3 h
    refine wb_sub [] (loc' := []) rfl ?_
    exact tW_touch_J22 hX hQ hN h
  · have h := ite_f c_3 h
    refine wb_iload_n 3 hX dX10_touch_12 rfl (pq := 13) rfl ?_
    refine wb_iconst (v := iI (-1)) hX dX10_touch_13 rfl (pq := 14) rfl ?_
    refine wb_bipush (v := iI (9)) hX dX10_touch_14 (by decide) (pq := 16) rfl ?_
    obtain ⟨q_5, hc_4, h⟩ := bind_s h
    refine wb_callSi (r0 := q_5) (s1 := s) [.int x3, .int (iI (-1)), .int (iI (9))] hX ml_467 (tW_isWithin hc_4) (by decide) rfl rfl (Nat.le_of_ble_eq_true rfl) dX10_touch_16 (pq := 19) rfl ?_
    refine wb_if_ne (tgt := 24) hX dX10_touch_19 (by decide) (pq := 22) rfl (fun c_6 => ?_) (fun c_6 => ?_)
    · have h := ite_t c_6 h
      refine wb_sub [] (loc' := []) rfl ?_
      exact tW_touch_J22 hX hQ hN h
    · have h := ite_f c_6 h
      refine wb_aload_n 0 hX dX10_touch_24 rfl (pq := 25) rfl ?_
      refine wb_getR hX fl_333 sh_0 rfl dX10_touch_25 (pq := 28) rfl ?_
      refine wb_iload_n 1 hX dX10_touch_28 rfl (pq := 29) rfl ?_
      refine wb_iload_n 2 hX dX10_touch_29 rfl (pq := 30) rfl ?_
      refine wb_iload_n 3 hX dX10_touch_30 rfl (pq := 31) rfl ?_
      obtain ⟨q_8, hc_7, h⟩ := bind_s h
      refine wb_callVv (s1 := q_8) [.int x1, .int x2, .int x3] hX sh_7 ml_443 (tLand_join hc_7) (by decide) rfl rfl (Nat.le_of_ble_eq_true rfl) dX10_touch_31 (pq := 34) rfl ?_
      refine wb_iconst (v := iI (1)) hX dX10_touch_34 rfl (pq := 35) rfl ?_
      exact wb_zret hX hQ h nar01.2.1 dX10_touch_35
set_option maxHeartbeats 4000000 in
set_option maxRecDepth 100000 in
theorem tW_law_J28 {G : wG} {X : wX} {s : wM} {r0 : Int32} {s1 : wM} (hX : wOK G X cX10_law RX10 (some .int) 1) (hQ : wRt G X (wQi G r0 s1)) (hN : wNl X = 4) (h : fW_law_J28 s = some (r0, s1)) : WB G X 28 [] [] s := by
  unfold fW_law_J28 at h
  refine wb_iconst (v := iI (-1)) hX dX10_law_28 rfl (pq := 29) rfl ?_
  exact wb_iret hX hQ h dX10_law_29
set_option maxHeartbeats 4000000 in
set_option maxRecDepth 100000 in
theorem tW_law_J20 {G : wG} {X : wX} {x1 : Int32} {x2 : Int32} {v0 : Int32} {v1 : Int32} {s : wM} {r0 : Int32} {s1 : wM} (hX : wOK G X cX10_law RX10 (some .int) 1) (hQ : wRt G X (wQi G r0 s1)) (hN : wNl X = 4) (h : fW_law_J20 x1 x2 v0 v1 s = some (r0, s1)) : WB G X 20 [(0, .ref (G.1 0)), (1, .int x1), (2, .int x2)] [.int v0, .int v1] s := by
  unfold fW_law_J20 at h
  refine wb_bipush (v := iI (9)) hX dX10_law_20 (by decide) (pq := 22) rfl ?_
  obtain ⟨q_2, hc_1, h⟩ := bind_s h
  refine wb_callSi (r0 := q_2) (s1 := s) [.int v1, .int v0, .int (iI (9))] hX ml_467 (tW_isWithin hc_1) (by decide) rfl rfl (Nat.le_of_ble_eq_true rfl) dX10_law_22 (pq := 25) rfl ?_
  refine wb_if_ne (tgt := 30) hX dX10_law_25 (by decide) (pq := 28) rfl (fun c_3 => ?_) (fun c_3 => ?_)
  · have h := ite_t c_3 h
    refine wb_sub [] (loc' := []) rfl ?_
    exact tW_law_J28 hX hQ hN h
  · have h := ite_f c_3 h
    refine wb_aload_n 0 hX dX10_law_30 rfl (pq := 31) rfl ?_
    refine wb_getR hX fl_333 sh_0 rfl dX10_law_31 (pq := 34) rfl ?_
    refine wb_getR hX fl_103 sh_7 rfl dX10_law_34 (pq := 37) rfl ?_
    refine wb_iload_n 1 hX dX10_law_37 rfl (pq := 38) rfl ?_
    obtain ⟨hi_4, h⟩ := chk_some h
    refine wb_iald hX sh_11 hi_4 dX10_law_38 (pq := 39) rfl ?_
    refine wb_istore_n (loc' := [(3, .int (s.1 11 x1.toNatClampNeg)), (0, .ref (G.1 0)), (1, .int x1), (2, .int x2)]) hX hN dX10_law_39 (by decide) rfl (pq := 40) rfl ?_
    refine wb_aload_n 1 hX dX10_law_40 rfl (pq := 41) rfl ?_
    refine wb_getR hX fl_333 sh_0 rfl dX10_law_41 (pq := 44) rfl ?_
    refine wb_getR hX fl_103 sh_7 rfl dX10_law_44 (pq := 47) rfl ?_
    refine wb_iload_n 2 hX dX10_law_47 rfl (pq := 48) rfl ?_
    refine wb_iload_n 3 hX dX10_law_48 rfl (pq := 49) rfl ?_
    refine wb_iast hX sh_11 hi_4 dX10_law_49 (pq := 50) rfl ?_
    refine wb_mem (fun s_5 es_5 => ?_)
    have h := nmM_s h s_5 es_5
    refine wb_iload_n 0 hX dX10_law_50 rfl (pq := 51) rfl ?_
    exact wb_iret hX hQ h dX10_law_51
set_option maxHeartbeats 4000000 in
set_option maxRecDepth 100000 in
theorem tW_law {l : Launch} {G : wG} {s : wM} {x1 : Int32} {x2 : Int32} {r0 : Int32} {s1 : wM} (h : fW_law s x1 x2 = some (r0, s1)) : wMet l G yX10_law cX10_law 4 (some .int) 1 [.ref (G.1 0), .int x1, .int x2] s (wQi G r0 s1) := by
  refine wMet_of (own := RX10) (by decide +kernel) rfl (Nat.le_of_ble_eq_true rfl) ?_
  intro X hX hQ hN hl
  show WB G X 0 [(0, .ref (G.1 0)), (1, .int x1), (2, .int x2)] [] s
  unfold fW_law at h
  refine wb_iload_n 1 hX dX10_law_0 rfl (pq := 1) rfl ?_
  refine wb_iconst (v := iI (0)) hX dX10_law_1 rfl (pq := 2) rfl ?_
  refine wb_iconst (v := iI (2)) hX dX10_law_2 rfl (pq := 3) rfl ?_
  obtain ⟨q_2, hc_1, h⟩ := bind_s h
  refine wb_callSi (r0 := q_2) (s1 := s) [.int x1, .int (iI (0)), .int (iI (2))] hX ml_467 (tW_isWithin hc_1) (by decide) rfl rfl (Nat.le_of_ble_eq_true rfl) dX10_law_3 (pq := 6) rfl ?_
  refine wb_if_eq (tgt := 28) hX dX10_law_6 (by decide) (fun c_3 => ?_) (pq := 9) rfl (fun c_3 => ?_)
  · have h := ite_t c_3 h
    refine wb_sub [] (loc' := []) rfl ?_
    exact tW_law_J28 hX hQ hN h
  · have h := ite_f c_3 h
    refine wb_iload_n 2 hX dX10_law_9 rfl (pq := 10) rfl ?_
    refine wb_iload_n 1 hX dX10_law_10 rfl (pq := 11) rfl ?_
    refine wb_iconst (v := iI (1)) hX dX10_law_11 rfl (pq := 12) rfl ?_
    refine wb_icmp_ne (tgt := 19) hX dX10_law_12 (by decide) (pq := 15) rfl (fun c_4 => ?_) (fun c_4 => ?_)
    · have h := ite_t c_4 h
      refine wb_iconst (v := iI (0)) hX dX10_law_15 rfl (pq := 16) rfl ?_
      refine wb_goto (tgt := 20) hX dX10_law_16 (by decide) ?_
      exact tW_law_J20 hX hQ hN h
    · have h := ite_f c_4 h
      refine wb_iconst (v := iI (1)) hX dX10_law_19 rfl (pq := 20) rfl ?_
      exact tW_law_J20 hX hQ hN h
set_option maxHeartbeats 4000000 in
set_option maxRecDepth 100000 in
theorem tW_set_J39 {G : wG} {X : wX} {s : wM} {r0 : Int32} {s1 : wM} (hX : wOK G X cX10_set RX10 (some .int) 1) (hQ : wRt G X (wQi G r0 s1)) (hN : wNl X = 6) (h : fW_set_J39 s = some (r0, s1)) : WB G X 39 [] [] s := by
  unfold fW_set_J39 at h
  refine wb_iconst (v := iI (-1)) hX dX10_set_39 rfl (pq := 40) rfl ?_
  exact wb_iret hX hQ h dX10_set_40
set_option maxHeartbeats 4000000 in
set_option maxRecDepth 100000 in
theorem tW_set_J62 {G : wG} {X : wX} {x2 : Int32} {x3 : Int32} {v0 : Nat} {s : wM} {r0 : Int32} {s1 : wM} (hX : wOK G X cX10_set RX10 (some .int) 1) (hQ : wRt G X (wQi G r0 s1)) (hN : wNl X = 6) (hv0 : wSh[v0]? = some (.inl (.int, 9, 0, 0))) (h : fW_set_J62 x2 x3 v0 s = some (r0, s1)) : WB G X 62 [(2, .int x2), (3, .int x3)] [.ref (G.1 v0)] s := by
  unfold fW_set_J62 at h
  refine wb_astore (loc' := [(4, .ref (G.1 v0)), (2, .int x2), (3, .int x3)]) hX hN dX10_set_62 (by decide) rfl (pq := 64) rfl ?_
  refine wb_aload 0 hX dX10_set_64 rfl (pq := 66) rfl ?_
  refine wb_iload_n 1 hX dX10_set_66 rfl (pq := 67) rfl ?_
  obtain ⟨hi_1, h⟩ := chk_some h
  refine wb_iald hX hv0 hi_1 dX10_set_67 (pq := 68) rfl ?_
  refine wb_istore (loc' := [(5, .int (s.1 v0 x2.toNatClampNeg)), (4, .ref (G.1 v0)), (2, .int x2), (3, .int x3)]) hX hN dX10_set_68 (by decide) rfl (pq := 70) rfl ?_
  refine wb_aload 1 hX dX10_set_70 rfl (pq := 72) rfl ?_
  refine wb_iload_n 2 hX dX10_set_72 rfl (pq := 73) rfl ?_
  refine wb_iload_n 3 hX dX10_set_73 rfl (pq := 74) rfl ?_
  refine wb_iast hX hv0 hi_1 dX10_set_74 (pq := 75) rfl ?_
  refine wb_mem (fun s_2 es_2 => ?_)
  have h := nmM_s h s_2 es_2
  refine wb_iload 0 hX dX10_set_75 rfl (pq := 77) rfl ?_
  exact wb_iret hX hQ h dX10_set_77
set_option maxHeartbeats 4000000 in
set_option maxRecDepth 100000 in
theorem tW_set_J33 {G : wG} {X : wX} {x1 : Int32} {x2 : Int32} {x3 : Int32} {v0 : Int32} {v1 : Int32} {v2 : Int32} {s : wM} {r0 : Int32} {s1 : wM} (hX : wOK G X cX10_set RX10 (some .int) 1) (hQ : wRt G X (wQi G r0 s1)) (hN : wNl X = 6) (h : fW_set_J33 x1 x2 x3 v0 v1 v2 s = some (r0, s1)) : WB G X 33 [(0, .ref (G.1 0)), (1, .int x1), (2, .int x2), (3, .int x3)] [.int v0, .int v1, .int v2] s := by
  unfold fW_set_J33 at h
  obtain ⟨q_2, hc_1, h⟩ := bind_s h
  refine wb_callSi (r0 := q_2) (s1 := s) [.int v2, .int v1, .int v0] hX ml_467 (tW_isWithin hc_1) (by decide) rfl rfl (Nat.le_of_ble_eq_true rfl) dX10_set_33 (pq := 36) rfl ?_
  refine wb_if_ne (tgt := 41) hX dX10_set_36 (by decide) (pq := 39) rfl (fun c_3 => ?_) (fun c_3 => ?_)
  · have h := ite_t c_3 h
    refine wb_sub [] (loc' := []) rfl ?_
    exact tW_set_J39 hX hQ hN h
  · have h := ite_f c_3 h
    refine wb_iload_n 1 hX dX10_set_41 rfl (pq := 42) rfl ?_
    refine wb_if_ne (tgt := 55) hX dX10_set_42 (by decide) (pq := 45) rfl (fun c_4 => ?_) (fun c_4 => ?_)
    · have h := ite_t c_4 h
      refine wb_aload_n 0 hX dX10_set_45 rfl (pq := 46) rfl ?_
      refine wb_getR hX fl_333 sh_0 rfl dX10_set_46 (pq := 49) rfl ?_
      refine wb_getR hX fl_91 sh_7 rfl dX10_set_49 (pq := 52) rfl ?_
      refine wb_goto (tgt := 62) hX dX10_set_52 (by decide) ?_
      refine wb_sub [2, 3] (loc' := [(2, .int x2), (3, .int x3)]) rfl ?_
      exact tW_set_J62 hX hQ hN sh_8 h
    · have h := ite_f c_4 h
      refine wb_aload_n 0 hX dX10_set_55 rfl (pq := 56) rfl ?_
      refine wb_getR hX fl_333 sh_0 rfl dX10_set_56 (pq := 59) rfl ?_
      refine wb_getR hX fl_95 sh_7 rfl dX10_set_59 (pq := 62) rfl ?_
      refine wb_sub [2, 3] (loc' := [(2, .int x2), (3, .int x3)]) rfl ?_
      exact tW_set_J62 hX hQ hN sh_9 h
set_option maxHeartbeats 4000000 in
set_option maxRecDepth 100000 in
theorem tW_set {l : Launch} {G : wG} {s : wM} {x1 : Int32} {x2 : Int32} {x3 : Int32} {r0 : Int32} {s1 : wM} (h : fW_set s x1 x2 x3 = some (r0, s1)) : wMet l G yX10_set cX10_set 6 (some .int) 1 [.ref (G.1 0), .int x1, .int x2, .int x3] s (wQi G r0 s1) := by
  refine wMet_of (own := RX10) (by decide +kernel) rfl (Nat.le_of_ble_eq_true rfl) ?_
  intro X hX hQ hN hl
  show WB G X 0 [(0, .ref (G.1 0)), (1, .int x1), (2, .int x2), (3, .int x3)] [] s
  unfold fW_set at h
  refine wb_aload_n 0 hX dX10_set_0 rfl (pq := 1) rfl ?_
  refine wb_getR hX fl_333 sh_0 rfl dX10_set_1 (pq := 4) rfl ?_
  refine wb_iload_n 2 hX dX10_set_4 rfl (pq := 5) rfl ?_
  obtain ⟨q_2, hc_1, h⟩ := bind_s h
  refine wb_callVi (r0 := q_2) (s1 := s) [.int x2] hX sh_7 ml_478 (tLand_has hc_1) (by decide) rfl rfl (Nat.le_of_ble_eq_true rfl) dX10_set_5 (pq := 8) rfl ?_
  refine wb_if_eq (tgt := 39) hX dX10_set_8 (by decide) (fun c_3 => ?_) (pq := 11) rfl (fun c_3 => ?_)
  · have h := ite_t c_3 h
    refine wb_sub [] (loc' := []) rfl ?_
    exact tW_set_J39 hX hQ hN h
  · have h := ite_f c_3 h
    refine wb_iload_n 1 hX dX10_set_11 rfl (pq := 12) rfl ?_
    refine wb_iconst (v := iI (0)) hX dX10_set_12 rfl (pq := 13) rfl ?_
    refine wb_iconst (v := iI (1)) hX dX10_set_13 rfl (pq := 14) rfl ?_
    obtain ⟨q_5, hc_4, h⟩ := bind_s h
    refine wb_callSi (r0 := q_5) (s1 := s) [.int x1, .int (iI (0)), .int (iI (1))] hX ml_467 (tW_isWithin hc_4) (by decide) rfl rfl (Nat.le_of_ble_eq_true rfl) dX10_set_14 (pq := 17) rfl ?_
    refine wb_if_eq (tgt := 39) hX dX10_set_17 (by decide) (fun c_6 => ?_) (pq := 20) rfl (fun c_6 => ?_)
    · have h := ite_t c_6 h
      refine wb_sub [] (loc' := []) rfl ?_
      exact tW_set_J39 hX hQ hN h
    · have h := ite_f c_6 h
      refine wb_iload_n 3 hX dX10_set_20 rfl (pq := 21) rfl ?_
      refine wb_iconst (v := iI (0)) hX dX10_set_21 rfl (pq := 22) rfl ?_
      refine wb_iload_n 1 hX dX10_set_22 rfl (pq := 23) rfl ?_
      refine wb_if_ne (tgt := 31) hX dX10_set_23 (by decide) (pq := 26) rfl (fun c_7 => ?_) (fun c_7 => ?_)
      · have h := ite_t c_7 h
        refine wb_bipush (v := iI (99)) hX dX10_set_26 (by decide) (pq := 28) rfl ?_
        refine wb_goto (tgt := 33) hX dX10_set_28 (by decide) ?_
        exact tW_set_J33 hX hQ hN h
      · have h := ite_f c_7 h
        refine wb_bipush (v := iI (9)) hX dX10_set_31 (by decide) (pq := 33) rfl ?_
        exact tW_set_J33 hX hQ hN h
set_option maxHeartbeats 4000000 in
set_option maxRecDepth 100000 in
theorem tW_entryOf_J18 {G : wG} {X : wX} {v0 : Int32} {s : wM} {r0 : Int32} (hX : wOK G X cX10_entryOf RX10 (some .int) 0) (hQ : wRt G X (wQi G r0 s)) (hN : wNl X = 2) (h : fW_entryOf_J18 v0 s = some r0) : WB G X 18 [] [.int v0] s := by
  unfold fW_entryOf_J18 at h
  exact wb_iretP hX hQ h dX10_entryOf_18
set_option maxHeartbeats 4000000 in
set_option maxRecDepth 100000 in
theorem tW_entryOf {l : Launch} {G : wG} {s : wM} {x0 : Int32} {x1 : Int32} {r0 : Int32} (h : fW_entryOf s x0 x1 = some r0) : wMet l G yX10_entryOf cX10_entryOf 2 (some .int) 0 [.int x0, .int x1] s (wQi G r0 s) := by
  refine wMet_of (own := RX10) (by decide +kernel) rfl (Nat.le_of_ble_eq_true rfl) ?_
  intro X hX hQ hN hl
  show WB G X 0 [(0, .int x0), (1, .int x1)] [] s
  unfold fW_entryOf at h
  refine wb_iload_n 0 hX dX10_entryOf_0 rfl (pq := 1) rfl ?_
  refine wb_if_ne (tgt := 7) hX dX10_entryOf_1 (by decide) (pq := 4) rfl (fun c_1 => ?_) (fun c_1 => ?_)
  · have h := ite_t c_1 h
    refine wb_iload_n 1 hX dX10_entryOf_4 rfl (pq := 5) rfl ?_
    refine wb_i2b hX dX10_entryOf_5 (pq := 6) rfl ?_
    exact wb_iretP hX hQ h dX10_entryOf_6
  · have h := ite_f c_1 h
    refine wb_iload_n 0 hX dX10_entryOf_7 rfl (pq := 8) rfl ?_
    refine wb_iconst (v := iI (1)) hX dX10_entryOf_8 rfl (pq := 9) rfl ?_
    refine wb_icmp_ne (tgt := 17) hX dX10_entryOf_9 (by decide) (pq := 12) rfl (fun c_2 => ?_) (fun c_2 => ?_)
    · have h := ite_t c_2 h
      refine wb_iload_n 1 hX dX10_entryOf_12 rfl (pq := 13) rfl ?_
      refine wb_i2s hX dX10_entryOf_13 (pq := 14) rfl ?_
      refine wb_goto (tgt := 18) hX dX10_entryOf_14 (by decide) ?_
      refine wb_sub [] (loc' := []) rfl ?_
      exact tW_entryOf_J18 hX hQ hN h
    · have h := ite_f c_2 h
      refine wb_iload_n 1 hX dX10_entryOf_17 rfl (pq := 18) rfl ?_
      refine wb_sub [] (loc' := []) rfl ?_
      exact tW_entryOf_J18 hX hQ hN h
set_option maxHeartbeats 4000000 in
set_option maxRecDepth 100000 in
theorem tW_sheet_J15 {G : wG} {X : wX} {s : wM} {r0 : Int32} {s1 : wM} (hX : wOK G X cX10_sheet RX10 (some .int) 1) (hQ : wRt G X (wQi G r0 s1)) (hN : wNl X = 7) (h : fW_sheet_J15 s = some (r0, s1)) : WB G X 15 [] [] s := by
  unfold fW_sheet_J15 at h
  refine wb_iconst (v := iI (-1)) hX dX10_sheet_15 rfl (pq := 16) rfl ?_
  exact wb_iret hX hQ h dX10_sheet_16
set_option maxHeartbeats 4000000 in
set_option maxRecDepth 100000 in
theorem tW_sheet_J90 {G : wG} {X : wX} {k44 : Int32 → wM → Option (Int32 × wM)} {x1 : Int32} {x3 : Int32} {x4 : Int32} {x5 : Int32} {x6 : Int32} {v0 : Int32} {v1 : Int32} {s : wM} {r0 : Int32} {s1 : wM} (hX : wOK G X cX10_sheet RX10 (some .int) 1) (hQ : wRt G X (wQi G r0 s1)) (hN : wNl X = 7) (hk44 : ∀ (x6 : Int32) (s : wM), k44 x6 s = some (r0, s1) → WB G X 44 [(0, .ref (G.1 0)), (1, .int x1), (3, .int x3), (4, .int x4), (5, .int x5), (6, .int x6)] [] s) (h : fW_sheet_J90 k44 x1 x3 x4 x5 x6 v0 v1 s = some (r0, s1)) : WB G X 90 [(0, .ref (G.1 0)), (1, .int x1), (3, .int x3), (4, .int x4), (5, .int x5), (6, .int x6)] [.int v0, .int v1, .ref (G.1 8)] s := by
  unfold fW_sheet_J90 at h
  obtain ⟨hi_1, h⟩ := chk_some h
  refine wb_iast hX sh_8 hi_1 dX10_sheet_90 (pq := 91) rfl ?_
  refine wb_mem (fun s_2 es_2 => ?_)
  have h := nmM_s h s_2 es_2
  refine wb_iinc (v := (x6 + iI (1))) (loc' := [(6, .int (x6 + iI (1))), (0, .ref (G.1 0)), (1, .int x1), (3, .int x3), (4, .int x4), (5, .int x5)]) 5 hX hN dX10_sheet_91 rfl rfl (by decide) rfl (pq := 94) rfl ?_
  refine wb_goto (tgt := 44) hX dX10_sheet_94 (by decide) ?_
  refine wb_sub [1, 2, 3, 4, 5, 0] (loc' := [(0, .ref (G.1 0)), (1, .int x1), (3, .int x3), (4, .int x4), (5, .int x5), (6, .int (x6 + iI (1)))]) rfl ?_
  exact hk44 _ _ h
set_option maxHeartbeats 4000000 in
set_option maxRecDepth 100000 in
theorem tW_sheet_J114 {G : wG} {X : wX} {v0 : Int32} {s : wM} {r0 : Int32} {s1 : wM} (hX : wOK G X cX10_sheet RX10 (some .int) 1) (hQ : wRt G X (wQi G r0 s1)) (hN : wNl X = 7) (h : fW_sheet_J114 v0 s = some (r0, s1)) : WB G X 114 [] [.int v0] s := by
  unfold fW_sheet_J114 at h
  exact wb_iret hX hQ h dX10_sheet_114
set_option maxHeartbeats 4000000 in
set_option maxRecDepth 100000 in
theorem tW_sheet_L44 {G : wG} {X : wX} {x1 : Int32} {x3 : Int32} {x4 : Int32} {x5 : Int32} {r0 : Int32} {s1 : wM} (hX : wOK G X cX10_sheet RX10 (some .int) 1) (hQ : wRt G X (wQi G r0 s1)) (hN : wNl X = 7) : ∀ (n : Nat) (x6 : Int32) (s : wM), wh2 (fW_sheet_L44 x1 x3 x4 x5) n x6 s = some (r0, s1) → WB G X 44 [(0, .ref (G.1 0)), (1, .int x1), (3, .int x3), (4, .int x4), (5, .int x5), (6, .int x6)] [] s := by
  intro n
  induction n with
  | zero => intro x6 s h; cases h
  | succ n hk44 =>
    intro x6 s h
    have h : fW_sheet_L44 x1 x3 x4 x5 x6 s (wh2 (fW_sheet_L44 x1 x3 x4 x5) n) = some (r0, s1) := h
    unfold fW_sheet_L44 at h
    refine wb_iload 5 hX dX10_sheet_44 rfl (pq := 46) rfl ?_
    refine wb_aload_n 0 hX dX10_sheet_46 rfl (pq := 47) rfl ?_
    refine wb_getR hX fl_333 sh_0 rfl dX10_sheet_47 (pq := 50) rfl ?_
    refine wb_getI hX fl_109 sh_7 rfl dX10_sheet_50 (pq := 53) rfl ?_
    refine wb_icmp_ge (tgt := 97) hX dX10_sheet_53 (by decide) (fun c_1 => ?_) (pq := 56) rfl (fun c_1 => ?_)
    · have h := ite_t c_1 h
      refine wb_iload_n 1 hX dX10_sheet_97 rfl (pq := 98) rfl ?_
      refine wb_iconst (v := iI (3)) hX dX10_sheet_98 rfl (pq := 99) rfl ?_
      refine wb_icmp_ne (tgt := 107) hX dX10_sheet_99 (by decide) (pq := 102) rfl (fun c_2 => ?_) (fun c_2 => ?_)
      · have h := ite_t c_2 h
        refine wb_bipush (v := iI (-3)) hX dX10_sheet_102 (by decide) (pq := 104) rfl ?_
        refine wb_goto (tgt := 114) hX dX10_sheet_104 (by decide) ?_
        refine wb_sub [] (loc' := []) rfl ?_
        exact tW_sheet_J114 hX hQ hN h
      · have h := ite_f c_2 h
        refine wb_aload_n 0 hX dX10_sheet_107 rfl (pq := 108) rfl ?_
        refine wb_getR hX fl_333 sh_0 rfl dX10_sheet_108 (pq := 111) rfl ?_
        obtain ⟨q_4, hc_3, h⟩ := bind_s h
        refine wb_callVi (r0 := q_4) (s1 := s) [] hX sh_7 ml_493 (tLand_allDepths hc_3) (by decide) rfl rfl (Nat.le_of_ble_eq_true rfl) dX10_sheet_111 (pq := 114) rfl ?_
        refine wb_sub [] (loc' := []) rfl ?_
        exact tW_sheet_J114 hX hQ hN h
    · have h := ite_f c_1 h
      refine wb_aload_n 0 hX dX10_sheet_56 rfl (pq := 57) rfl ?_
      refine wb_getR hX fl_333 sh_0 rfl dX10_sheet_57 (pq := 60) rfl ?_
      refine wb_getR hX fl_91 sh_7 rfl dX10_sheet_60 (pq := 63) rfl ?_
      refine wb_iload 5 hX dX10_sheet_63 rfl (pq := 65) rfl ?_
      refine wb_iload 5 hX dX10_sheet_65 rfl (pq := 67) rfl ?_
      refine wb_iload 4 hX dX10_sheet_67 rfl (pq := 69) rfl ?_
      refine wb_icmp_ge (tgt := 89) hX dX10_sheet_69 (by decide) (fun c_5 => ?_) (pq := 72) rfl (fun c_5 => ?_)
      · have h := ite_t c_5 h
        refine wb_iconst (v := iI (0)) hX dX10_sheet_89 rfl (pq := 90) rfl ?_
        exact tW_sheet_J90 hX hQ hN hk44 h
      · have h := ite_f c_5 h
        refine wb_iload_n 1 hX dX10_sheet_72 rfl (pq := 73) rfl ?_
        refine wb_iload_n 2 hX dX10_sheet_73 rfl (pq := 74) rfl ?_
        refine wb_iload 5 hX dX10_sheet_74 rfl (pq := 76) rfl ?_
        refine wb_iload 3 hX dX10_sheet_76 rfl (pq := 78) rfl ?_
        refine wb_imul hX dX10_sheet_78 (pq := 79) rfl ?_
        refine wb_iadd hX dX10_sheet_79 (pq := 80) rfl ?_
        obtain ⟨q_7, hc_6, h⟩ := bind_s h
        refine wb_callSi (r0 := q_7) (s1 := s) [.int x1, .int (x3 + (x6 * x4))] hX ml_483 (tW_entryOf hc_6) (by decide) rfl rfl (Nat.le_of_ble_eq_true rfl) dX10_sheet_80 (pq := 83) rfl ?_
        obtain ⟨q_9, hc_8, h⟩ := bind_s h
        refine wb_callSi (r0 := q_9) (s1 := s) [.int q_7] hX ml_486 (tW_putToDepth hc_8) (by decide) rfl rfl (Nat.le_of_ble_eq_true rfl) dX10_sheet_83 (pq := 86) rfl ?_
        refine wb_goto (tgt := 90) hX dX10_sheet_86 (by decide) ?_
        exact tW_sheet_J90 hX hQ hN hk44 h
set_option maxHeartbeats 4000000 in
set_option maxRecDepth 100000 in
theorem tW_sheet_J39 {G : wG} {X : wX} {x1 : Int32} {x3 : Int32} {x4 : Int32} {v0 : Int32} {s : wM} {r0 : Int32} {s1 : wM} (hX : wOK G X cX10_sheet RX10 (some .int) 1) (hQ : wRt G X (wQi G r0 s1)) (hN : wNl X = 7) (h : fW_sheet_J39 x1 x3 x4 v0 s = some (r0, s1)) : WB G X 39 [(0, .ref (G.1 0)), (1, .int x1), (3, .int x3), (4, .int x4)] [.int v0] s := by
  unfold fW_sheet_J39 at h
  refine wb_istore (loc' := [(5, .int v0), (0, .ref (G.1 0)), (1, .int x1), (3, .int x3), (4, .int x4)]) hX hN dX10_sheet_39 (by decide) rfl (pq := 41) rfl ?_
  refine wb_iconst (v := iI (0)) hX dX10_sheet_41 rfl (pq := 42) rfl ?_
  refine wb_istore (loc' := [(6, .int (iI (0))), (5, .int v0), (0, .ref (G.1 0)), (1, .int x1), (3, .int x3), (4, .int x4)]) hX hN dX10_sheet_42 (by decide) rfl (pq := 44) rfl ?_
  refine wb_sub [2, 3, 4, 5, 1, 0] (loc' := [(0, .ref (G.1 0)), (1, .int x1), (3, .int x3), (4, .int x4), (5, .int v0), (6, .int (iI (0)))]) rfl ?_
  exact tW_sheet_L44 hX hQ hN 100000 _ _ h
set_option maxHeartbeats 4000000 in
set_option maxRecDepth 100000 in
theorem tW_sheet_J29 {G : wG} {X : wX} {x1 : Int32} {x2 : Int32} {x3 : Int32} {x4 : Int32} {s : wM} {r0 : Int32} {s1 : wM} (hX : wOK G X cX10_sheet RX10 (some .int) 1) (hQ : wRt G X (wQi G r0 s1)) (hN : wNl X = 7) (h : fW_sheet_J29 x1 x2 x3 x4 s = some (r0, s1)) : WB G X 29 [(0, .ref (G.1 0)), (1, .int x1), (2, .int x2), (3, .int x3), (4, .int x4)] [] s := by
  unfold fW_sheet_J29 at h
  refine wb_iload_n 1 hX dX10_sheet_29 rfl (pq := 30) rfl ?_
  refine wb_iconst (v := iI (3)) hX dX10_sheet_30 rfl (pq := 31) rfl ?_
  refine wb_icmp_ne (tgt := 38) hX dX10_sheet_31 (by decide) (pq := 34) rfl (fun c_1 => ?_) (fun c_1 => ?_)
  · have h := ite_t c_1 h
    refine wb_iconst (v := iI (0)) hX dX10_sheet_34 rfl (pq := 35) rfl ?_
    refine wb_goto (tgt := 39) hX dX10_sheet_35 (by decide) ?_
    refine wb_sub [0, 1, 3, 4] (loc' := [(0, .ref (G.1 0)), (1, .int x1), (3, .int x3), (4, .int x4)]) rfl ?_
    exact tW_sheet_J39 hX hQ hN h
  · have h := ite_f c_1 h
    refine wb_iload_n 2 hX dX10_sheet_38 rfl (pq := 39) rfl ?_
    refine wb_sub [0, 1, 3, 4] (loc' := [(0, .ref (G.1 0)), (1, .int x1), (3, .int x3), (4, .int x4)]) rfl ?_
    exact tW_sheet_J39 hX hQ hN h
set_option maxHeartbeats 4000000 in
set_option maxRecDepth 100000 in
theorem tW_sheet {l : Launch} {G : wG} {s : wM} {x1 : Int32} {x2 : Int32} {x3 : Int32} {x4 : Int32} {r0 : Int32} {s1 : wM} (h : fW_sheet s x1 x2 x3 x4 = some (r0, s1)) : wMet l G yX10_sheet cX10_sheet 7 (some .int) 1 [.ref (G.1 0), .int x1, .int x2, .int x3, .int x4] s (wQi G r0 s1) := by
  refine wMet_of (own := RX10) (by decide +kernel) rfl (Nat.le_of_ble_eq_true rfl) ?_
  intro X hX hQ hN hl
  show WB G X 0 [(0, .ref (G.1 0)), (1, .int x1), (2, .int x2), (3, .int x3), (4, .int x4)] [] s
  unfold fW_sheet at h
  refine wb_iload_n 1 hX dX10_sheet_0 rfl (pq := 1) rfl ?_
  refine wb_iconst (v := iI (0)) hX dX10_sheet_1 rfl (pq := 2) rfl ?_
  refine wb_iconst (v := iI (3)) hX dX10_sheet_2 rfl (pq := 3) rfl ?_
  obtain ⟨q_2, hc_1, h⟩ := bind_s h
  refine wb_callSi (r0 := q_2) (s1 := s) [.int x1, .int (iI (0)), .int (iI (3))] hX ml_467 (tW_isWithin hc_1) (by decide) rfl rfl (Nat.le_of_ble_eq_true rfl) dX10_sheet_3 (pq := 6) rfl ?_
  refine wb_if_eq (tgt := 15) hX dX10_sheet_6 (by decide) (fun c_3 => ?_) (pq := 9) rfl (fun c_3 => ?_)
  · have h := ite_t c_3 h
    refine wb_sub [] (loc' := []) rfl ?_
    exact tW_sheet_J15 hX hQ hN h
  · have h := ite_f c_3 h
    refine wb_iload_n 2 hX dX10_sheet_9 rfl (pq := 10) rfl ?_
    refine wb_bipush (v := iI (9)) hX dX10_sheet_10 (by decide) (pq := 12) rfl ?_
    refine wb_icmp_le (tgt := 17) hX dX10_sheet_12 (by decide) (fun c_4 => ?_) (pq := 15) rfl (fun c_4 => ?_)
    · have h := ite_t c_4 h
      refine wb_iload_n 1 hX dX10_sheet_17 rfl (pq := 18) rfl ?_
      refine wb_iconst (v := iI (3)) hX dX10_sheet_18 rfl (pq := 19) rfl ?_
      refine wb_icmp_eq (tgt := 29) hX dX10_sheet_19 (by decide) (fun c_5 => ?_) (pq := 22) rfl (fun c_5 => ?_)
      · have h := ite_t c_5 h
        exact tW_sheet_J29 hX hQ hN h
      · have h := ite_f c_5 h
        refine wb_iload_n 2 hX dX10_sheet_22 rfl (pq := 23) rfl ?_
        refine wb_if_ge (tgt := 29) hX dX10_sheet_23 (by decide) (fun c_6 => ?_) (pq := 26) rfl (fun c_6 => ?_)
        · have h := ite_t c_6 h
          exact tW_sheet_J29 hX hQ hN h
        · have h := ite_f c_6 h
          refine wb_bipush (v := iI (-2)) hX dX10_sheet_26 (by decide) (pq := 28) rfl ?_
          exact wb_iret hX hQ h dX10_sheet_28
    · have h := ite_f c_4 h
      refine wb_sub [] (loc' := []) rfl ?_
      exact tW_sheet_J15 hX hQ hN h
set_option maxHeartbeats 4000000 in
set_option maxRecDepth 100000 in
theorem tW_carry {l : Launch} {G : wG} {s : wM} {x1 : Int32} {x2 : Int32} {r0 : Int32} {s1 : wM} (h : fW_carry s x1 x2 = some (r0, s1)) : wMet l G yX10_carry cX10_carry 3 (some .int) 3 [.ref (G.1 0), .int x1, .int x2] s (wQi G r0 s1) := by
  refine wMet_of (own := RX10) (by decide +kernel) rfl (Nat.le_of_ble_eq_true rfl) ?_
  intro X hX hQ hN hl
  show WB G X 0 [(0, .ref (G.1 0)), (1, .int x1), (2, .int x2)] [] s
  unfold fW_carry at h
  refine wb_aload_n 0 hX dX10_carry_0 rfl (pq := 1) rfl ?_
  refine wb_getR hX fl_333 sh_0 rfl dX10_carry_1 (pq := 4) rfl ?_
  refine wb_iload_n 1 hX dX10_carry_4 rfl (pq := 5) rfl ?_
  refine wb_iload_n 2 hX dX10_carry_5 rfl (pq := 6) rfl ?_
  obtain ⟨q_2, hc_1, h⟩ := bind_s h
  refine wb_callVi (r0 := q_2) (s1 := s) [.int x1, .int x2] hX sh_7 ml_451 (tLand_hasTwo hc_1) (by decide) rfl rfl (Nat.le_of_ble_eq_true rfl) dX10_carry_6 (pq := 9) rfl ?_
  refine wb_if_ne (tgt := 14) hX dX10_carry_9 (by decide) (pq := 12) rfl (fun c_3 => ?_) (fun c_3 => ?_)
  · have h := ite_t c_3 h
    refine wb_iconst (v := iI (-1)) hX dX10_carry_12 rfl (pq := 13) rfl ?_
    exact wb_iret hX hQ h dX10_carry_13
  · have h := ite_f c_3 h
    refine wb_aload_n 0 hX dX10_carry_14 rfl (pq := 15) rfl ?_
    refine wb_getR hX fl_333 sh_0 rfl dX10_carry_15 (pq := 18) rfl ?_
    refine wb_iload_n 1 hX dX10_carry_18 rfl (pq := 19) rfl ?_
    refine wb_iload_n 2 hX dX10_carry_19 rfl (pq := 20) rfl ?_
    obtain ⟨q_5, hc_4, h⟩ := bind_s h
    refine wb_callVi (r0 := q_5) (s1 := s) [.int x1, .int x2] hX sh_7 ml_459 (tLand_between hc_4) (by decide) rfl rfl (Nat.le_of_ble_eq_true rfl) dX10_carry_20 (pq := 23) rfl ?_
    refine wb_iconst (v := iI (-1)) hX dX10_carry_23 rfl (pq := 24) rfl ?_
    refine wb_icmp_ne (tgt := 30) hX dX10_carry_24 (by decide) (pq := 27) rfl (fun c_6 => ?_) (fun c_6 => ?_)
    · have h := ite_t c_6 h
      refine wb_bipush (v := iI (-2)) hX dX10_carry_27 (by decide) (pq := 29) rfl ?_
      exact wb_iret hX hQ h dX10_carry_29
    · have h := ite_f c_6 h
      refine wb_aload_n 0 hX dX10_carry_30 rfl (pq := 31) rfl ?_
      refine wb_getR hX fl_333 sh_0 rfl dX10_carry_31 (pq := 34) rfl ?_
      refine wb_iload_n 1 hX dX10_carry_34 rfl (pq := 35) rfl ?_
      refine wb_iload_n 2 hX dX10_carry_35 rfl (pq := 36) rfl ?_
      obtain ⟨q_8, hc_7, h⟩ := bind_s h
      refine wb_callVi (r0 := q_8) (s1 := s) [.int x1, .int x2] hX sh_7 ml_501 (tLand_canCarry hc_7) (by decide) rfl rfl (Nat.le_of_ble_eq_true rfl) dX10_carry_36 (pq := 39) rfl ?_
      refine wb_if_ne (tgt := 45) hX dX10_carry_39 (by decide) (pq := 42) rfl (fun c_9 => ?_) (fun c_9 => ?_)
      · have h := ite_t c_9 h
        refine wb_bipush (v := iI (-3)) hX dX10_carry_42 (by decide) (pq := 44) rfl ?_
        exact wb_iret hX hQ h dX10_carry_44
      · have h := ite_f c_9 h
        refine wb_aload_n 0 hX dX10_carry_45 rfl (pq := 46) rfl ?_
        refine wb_getR hX fl_338 sh_0 rfl dX10_carry_46 (pq := 49) rfl ?_
        refine wb_aload_n 0 hX dX10_carry_49 rfl (pq := 50) rfl ?_
        refine wb_getR hX fl_333 sh_0 rfl dX10_carry_50 (pq := 53) rfl ?_
        obtain ⟨q_11, hc_10, h⟩ := bind_s h
        refine wb_callVv (s1 := q_11) [.ref (G.1 7)] hX sh_34 ml_507 (tPa_note hc_10) (by decide) rfl rfl (Nat.le_of_ble_eq_true rfl) dX10_carry_53 (pq := 56) rfl ?_
        refine wb_aload_n 0 hX dX10_carry_56 rfl (pq := 57) rfl ?_
        refine wb_getR hX fl_338 sh_0 rfl dX10_carry_57 (pq := 60) rfl ?_
        obtain ⟨q_13, hc_12, h⟩ := bind_s h
        refine wb_callVv (s1 := q_13) [] hX sh_34 ml_518 (tPa_keepNoted hc_12) (by decide) rfl rfl (Nat.le_of_ble_eq_true rfl) dX10_carry_60 (pq := 63) rfl ?_
        refine wb_aload_n 0 hX dX10_carry_63 rfl (pq := 64) rfl ?_
        refine wb_getR hX fl_333 sh_0 rfl dX10_carry_64 (pq := 67) rfl ?_
        refine wb_iload_n 1 hX dX10_carry_67 rfl (pq := 68) rfl ?_
        refine wb_iload_n 2 hX dX10_carry_68 rfl (pq := 69) rfl ?_
        obtain ⟨q_15, hc_14, h⟩ := bind_s h
        refine wb_callVv (s1 := q_15) [.int x1, .int x2] hX sh_7 ml_523 (tLand_bring hc_14) (by decide) rfl rfl (Nat.le_of_ble_eq_true rfl) dX10_carry_69 (pq := 72) rfl ?_
        refine wb_aload_n 0 hX dX10_carry_72 rfl (pq := 73) rfl ?_
        refine wb_getR hX fl_333 sh_0 rfl dX10_carry_73 (pq := 76) rfl ?_
        refine wb_getR hX fl_91 sh_7 rfl dX10_carry_76 (pq := 79) rfl ?_
        refine wb_iload_n 1 hX dX10_carry_79 rfl (pq := 80) rfl ?_
        obtain ⟨hi_16, h⟩ := chk_some h
        refine wb_iald hX sh_8 hi_16 dX10_carry_80 (pq := 81) rfl ?_
        exact wb_iret hX hQ h dX10_carry_81
set_option maxHeartbeats 4000000 in
set_option maxRecDepth 100000 in
theorem tW_bringTimes_J36 {G : wG} {X : wX} {x4 : Int32} {s : wM} {r0 : Int32} {s1 : wM} (hX : wOK G X cX10_bringTimes RX10 (some .int) 3) (hQ : wRt G X (wQi G r0 s1)) (hN : wNl X = 5) (h : fW_bringTimes_J36 x4 s = some (r0, s1)) : WB G X 36 [(4, .int x4)] [] s := by
  unfold fW_bringTimes_J36 at h
  refine wb_iload 0 hX dX10_bringTimes_36 rfl (pq := 38) rfl ?_
  exact wb_iret hX hQ h dX10_bringTimes_38
set_option maxHeartbeats 4000000 in
set_option maxRecDepth 100000 in
theorem tW_bringTimes_L3 {G : wG} {X : wX} {x1 : Int32} {x2 : Int32} {x3 : Int32} {r0 : Int32} {s1 : wM} (hX : wOK G X cX10_bringTimes RX10 (some .int) 3) (hQ : wRt G X (wQi G r0 s1)) (hN : wNl X = 5) : ∀ (n : Nat) (x4 : Int32) (s : wM), wh2 (fW_bringTimes_L3 x1 x2 x3) n x4 s = some (r0, s1) → WB G X 3 [(0, .ref (G.1 0)), (1, .int x1), (2, .int x2), (3, .int x3), (4, .int x4)] [] s := by
  intro n
  induction n with
  | zero => intro x4 s h; cases h
  | succ n hk3 =>
    intro x4 s h
    have h : fW_bringTimes_L3 x1 x2 x3 x4 s (wh2 (fW_bringTimes_L3 x1 x2 x3) n) = some (r0, s1) := h
    unfold fW_bringTimes_L3 at h
    refine wb_iload 4 hX dX10_bringTimes_3 rfl (pq := 5) rfl ?_
    refine wb_iload_n 3 hX dX10_bringTimes_5 rfl (pq := 6) rfl ?_
    refine wb_icmp_ge (tgt := 36) hX dX10_bringTimes_6 (by decide) (fun c_1 => ?_) (pq := 9) rfl (fun c_1 => ?_)
    · have h := ite_t c_1 h
      refine wb_sub [4] (loc' := [(4, .int x4)]) rfl ?_
      exact tW_bringTimes_J36 hX hQ hN h
    · have h := ite_f c_1 h
      refine wb_aload_n 0 hX dX10_bringTimes_9 rfl (pq := 10) rfl ?_
      refine wb_getR hX fl_333 sh_0 rfl dX10_bringTimes_10 (pq := 13) rfl ?_
      refine wb_iload_n 1 hX dX10_bringTimes_13 rfl (pq := 14) rfl ?_
      refine wb_iload_n 2 hX dX10_bringTimes_14 rfl (pq := 15) rfl ?_
      obtain ⟨q_3, hc_2, h⟩ := bind_s h
      refine wb_callVi (r0 := q_3) (s1 := s) [.int x1, .int x2] hX sh_7 ml_501 (tLand_canCarry hc_2) (by decide) rfl rfl (Nat.le_of_ble_eq_true rfl) dX10_bringTimes_15 (pq := 18) rfl ?_
      refine wb_if_eq (tgt := 36) hX dX10_bringTimes_18 (by decide) (fun c_4 => ?_) (pq := 21) rfl (fun c_4 => ?_)
      · have h := ite_t c_4 h
        refine wb_sub [4] (loc' := [(4, .int x4)]) rfl ?_
        exact tW_bringTimes_J36 hX hQ hN h
      · have h := ite_f c_4 h
        refine wb_aload_n 0 hX dX10_bringTimes_21 rfl (pq := 22) rfl ?_
        refine wb_getR hX fl_333 sh_0 rfl dX10_bringTimes_22 (pq := 25) rfl ?_
        refine wb_iload_n 1 hX dX10_bringTimes_25 rfl (pq := 26) rfl ?_
        refine wb_iload_n 2 hX dX10_bringTimes_26 rfl (pq := 27) rfl ?_
        obtain ⟨q_6, hc_5, h⟩ := bind_s h
        refine wb_callVv (s1 := q_6) [.int x1, .int x2] hX sh_7 ml_523 (tLand_bring hc_5) (by decide) rfl rfl (Nat.le_of_ble_eq_true rfl) dX10_bringTimes_27 (pq := 30) rfl ?_
        refine wb_iinc (v := (x4 + iI (1))) (loc' := [(4, .int (x4 + iI (1))), (0, .ref (G.1 0)), (1, .int x1), (2, .int x2), (3, .int x3)]) 4 hX hN dX10_bringTimes_30 rfl rfl (by decide) rfl (pq := 33) rfl ?_
        refine wb_goto (tgt := 3) hX dX10_bringTimes_33 (by decide) ?_
        refine wb_sub [1, 2, 3, 4, 0] (loc' := [(0, .ref (G.1 0)), (1, .int x1), (2, .int x2), (3, .int x3), (4, .int (x4 + iI (1)))]) rfl ?_
        exact hk3 _ _ h
set_option maxHeartbeats 4000000 in
set_option maxRecDepth 100000 in
theorem tW_bringTimes {l : Launch} {G : wG} {s : wM} {x1 : Int32} {x2 : Int32} {x3 : Int32} {r0 : Int32} {s1 : wM} (h : fW_bringTimes s x1 x2 x3 = some (r0, s1)) : wMet l G yX10_bringTimes cX10_bringTimes 5 (some .int) 3 [.ref (G.1 0), .int x1, .int x2, .int x3] s (wQi G r0 s1) := by
  refine wMet_of (own := RX10) (by decide +kernel) rfl (Nat.le_of_ble_eq_true rfl) ?_
  intro X hX hQ hN hl
  show WB G X 0 [(0, .ref (G.1 0)), (1, .int x1), (2, .int x2), (3, .int x3)] [] s
  unfold fW_bringTimes at h
  refine wb_iconst (v := iI (0)) hX dX10_bringTimes_0 rfl (pq := 1) rfl ?_
  refine wb_istore (loc' := [(4, .int (iI (0))), (0, .ref (G.1 0)), (1, .int x1), (2, .int x2), (3, .int x3)]) hX hN dX10_bringTimes_1 (by decide) rfl (pq := 3) rfl ?_
  refine wb_sub [1, 2, 3, 4, 0] (loc' := [(0, .ref (G.1 0)), (1, .int x1), (2, .int x2), (3, .int x3), (4, .int (iI (0)))]) rfl ?_
  exact tW_bringTimes_L3 hX hQ hN 100000 _ _ h
set_option maxHeartbeats 4000000 in
set_option maxRecDepth 100000 in
theorem tW_night_J125 {G : wG} {X : wX} {k48 : Int32 → Int32 → Int32 → wM → Option (Int32 × wM)} {x3 : Int32} {x4 : Int32} {v0 : Int32} {s : wM} {r0 : Int32} {s1 : wM} (hX : wOK G X cX10_night RX10 (some .int) 5) (hQ : wRt G X (wQi G r0 s1)) (hN : wNl X = 6) (hk48 : ∀ (x2 : Int32) (x3 : Int32) (x4 : Int32) (s : wM), k48 x2 x3 x4 s = some (r0, s1) → WB G X 48 [(0, .ref (G.1 0)), (2, .int x2), (3, .int x3), (4, .int x4)] [] s) (h : fW_night_J125 k48 x3 x4 v0 s = some (r0, s1)) : WB G X 125 [(0, .ref (G.1 0)), (3, .int x3), (4, .int x4)] [.int v0] s := by
  unfold fW_night_J125 at h
  refine wb_istore_n (loc' := [(2, .int v0), (0, .ref (G.1 0)), (3, .int x3), (4, .int x4)]) hX hN dX10_night_125 (by decide) rfl (pq := 126) rfl ?_
  refine wb_iinc (v := (x4 + iI (1))) (loc' := [(4, .int (x4 + iI (1))), (2, .int v0), (0, .ref (G.1 0)), (3, .int x3)]) 3 hX hN dX10_night_126 rfl rfl (by decide) rfl (pq := 129) rfl ?_
  refine wb_goto (tgt := 48) hX dX10_night_129 (by decide) ?_
  refine wb_sub [2, 1, 3, 0] (loc' := [(0, .ref (G.1 0)), (2, .int v0), (3, .int x3), (4, .int (x4 + iI (1)))]) rfl ?_
  exact hk48 _ _ _ _ h
set_option maxHeartbeats 4000000 in
set_option maxRecDepth 100000 in
theorem tW_night_J156 {G : wG} {X : wX} {x3 : Int32} {v0 : Int32} {s : wM} {r0 : Int32} {s1 : wM} (hX : wOK G X cX10_night RX10 (some .int) 5) (hQ : wRt G X (wQi G r0 s1)) (hN : wNl X = 6) (h : fW_night_J156 x3 v0 s = some (r0, s1)) : WB G X 156 [(3, .int x3)] [.int v0, .ref (G.1 32)] s := by
  unfold fW_night_J156 at h
  obtain ⟨q_2, hc_1, h⟩ := bind_s h
  refine wb_callVv (s1 := q_2) [.int v0] hX sh_32 ml_539 (tNum_tell hc_1) (by decide) rfl rfl (Nat.le_of_ble_eq_true rfl) dX10_night_156 (pq := 159) rfl ?_
  refine wb_iload_n 0 hX dX10_night_159 rfl (pq := 160) rfl ?_
  exact wb_iret hX hQ h dX10_night_160
set_option maxHeartbeats 4000000 in
set_option maxRecDepth 100000 in
theorem tW_night_J143 {G : wG} {X : wX} {x2 : Int32} {x3 : Int32} {s : wM} {r0 : Int32} {s1 : wM} (hX : wOK G X cX10_night RX10 (some .int) 5) (hQ : wRt G X (wQi G r0 s1)) (hN : wNl X = 6) (h : fW_night_J143 x2 x3 s = some (r0, s1)) : WB G X 143 [(0, .ref (G.1 0)), (2, .int x2), (3, .int x3)] [] s := by
  unfold fW_night_J143 at h
  refine wb_aload_n 0 hX dX10_night_143 rfl (pq := 144) rfl ?_
  refine wb_getR hX fl_337 sh_0 rfl dX10_night_144 (pq := 147) rfl ?_
  refine wb_iload_n 1 hX dX10_night_147 rfl (pq := 148) rfl ?_
  refine wb_if_eq (tgt := 155) hX dX10_night_148 (by decide) (fun c_1 => ?_) (pq := 151) rfl (fun c_1 => ?_)
  · have h := ite_t c_1 h
    refine wb_iconst (v := iI (0)) hX dX10_night_155 rfl (pq := 156) rfl ?_
    refine wb_sub [2] (loc' := [(3, .int x3)]) rfl ?_
    exact tW_night_J156 hX hQ hN h
  · have h := ite_f c_1 h
    refine wb_iconst (v := iI (1)) hX dX10_night_151 rfl (pq := 152) rfl ?_
    refine wb_goto (tgt := 156) hX dX10_night_152 (by decide) ?_
    refine wb_sub [2] (loc' := [(3, .int x3)]) rfl ?_
    exact tW_night_J156 hX hQ hN h
set_option maxHeartbeats 4000000 in
set_option maxRecDepth 100000 in
theorem tW_night_J132 {G : wG} {X : wX} {x2 : Int32} {x3 : Int32} {s : wM} {r0 : Int32} {s1 : wM} (hX : wOK G X cX10_night RX10 (some .int) 5) (hQ : wRt G X (wQi G r0 s1)) (hN : wNl X = 6) (h : fW_night_J132 x2 x3 s = some (r0, s1)) : WB G X 132 [(0, .ref (G.1 0)), (2, .int x2), (3, .int x3)] [] s := by
  unfold fW_night_J132 at h
  refine wb_iload_n 2 hX dX10_night_132 rfl (pq := 133) rfl ?_
  refine wb_if_le (tgt := 143) hX dX10_night_133 (by decide) (fun c_1 => ?_) (pq := 136) rfl (fun c_1 => ?_)
  · have h := ite_t c_1 h
    exact tW_night_J143 hX hQ hN h
  · have h := ite_f c_1 h
    refine wb_aload_n 0 hX dX10_night_136 rfl (pq := 137) rfl ?_
    refine wb_getR hX fl_338 sh_0 rfl dX10_night_137 (pq := 140) rfl ?_
    obtain ⟨q_3, hc_2, h⟩ := bind_s h
    refine wb_callVv (s1 := q_3) [] hX sh_34 ml_518 (tPa_keepNoted hc_2) (by decide) rfl rfl (Nat.le_of_ble_eq_true rfl) dX10_night_140 (pq := 143) rfl ?_
    exact tW_night_J143 hX hQ hN h
set_option maxHeartbeats 4000000 in
set_option maxRecDepth 100000 in
theorem tW_night_L48 {G : wG} {X : wX} {r0 : Int32} {s1 : wM} (hX : wOK G X cX10_night RX10 (some .int) 5) (hQ : wRt G X (wQi G r0 s1)) (hN : wNl X = 6) : ∀ (n : Nat) (x2 : Int32) (x3 : Int32) (x4 : Int32) (s : wM), wh4 (fW_night_L48) n x2 x3 x4 s = some (r0, s1) → WB G X 48 [(0, .ref (G.1 0)), (2, .int x2), (3, .int x3), (4, .int x4)] [] s := by
  intro n
  induction n with
  | zero => intro x2 x3 x4 s h; cases h
  | succ n hk48 =>
    intro x2 x3 x4 s h
    have h : fW_night_L48 x2 x3 x4 s (wh4 (fW_night_L48) n) = some (r0, s1) := h
    unfold fW_night_L48 at h
    refine wb_iload 3 hX dX10_night_48 rfl (pq := 50) rfl ?_
    refine wb_aload_n 0 hX dX10_night_50 rfl (pq := 51) rfl ?_
    refine wb_getR hX fl_332 sh_0 rfl dX10_night_51 (pq := 54) rfl ?_
    refine wb_getI hX fl_59 sh_3 rfl dX10_night_54 (pq := 57) rfl ?_
    refine wb_icmp_ge (tgt := 132) hX dX10_night_57 (by decide) (fun c_1 => ?_) (pq := 60) rfl (fun c_1 => ?_)
    · have h := ite_t c_1 h
      refine wb_sub [0, 1, 2] (loc' := [(0, .ref (G.1 0)), (2, .int x2), (3, .int x3)]) rfl ?_
      exact tW_night_J132 hX hQ hN h
    · have h := ite_f c_1 h
      refine wb_iload_n 1 hX dX10_night_60 rfl (pq := 61) rfl ?_
      refine wb_if_ne (tgt := 132) hX dX10_night_61 (by decide) (pq := 64) rfl (fun c_2 => ?_) (fun c_2 => ?_)
      · have h := ite_t c_2 h
        refine wb_aload_n 0 hX dX10_night_64 rfl (pq := 65) rfl ?_
        refine wb_aload_n 0 hX dX10_night_65 rfl (pq := 66) rfl ?_
        refine wb_getR hX fl_332 sh_0 rfl dX10_night_66 (pq := 69) rfl ?_
        refine wb_getR hX fl_53 sh_3 rfl dX10_night_69 (pq := 72) rfl ?_
        refine wb_iload 3 hX dX10_night_72 rfl (pq := 74) rfl ?_
        obtain ⟨hi_3, h⟩ := chk_some h
        refine wb_iald hX sh_4 hi_3 dX10_night_74 (pq := 75) rfl ?_
        refine wb_aload_n 0 hX dX10_night_75 rfl (pq := 76) rfl ?_
        refine wb_getR hX fl_332 sh_0 rfl dX10_night_76 (pq := 79) rfl ?_
        refine wb_getR hX fl_55 sh_3 rfl dX10_night_79 (pq := 82) rfl ?_
        refine wb_iload 3 hX dX10_night_82 rfl (pq := 84) rfl ?_
        refine wb_iald hX sh_5 hi_3 dX10_night_84 (pq := 85) rfl ?_
        refine wb_aload_n 0 hX dX10_night_85 rfl (pq := 86) rfl ?_
        refine wb_getR hX fl_332 sh_0 rfl dX10_night_86 (pq := 89) rfl ?_
        refine wb_getR hX fl_57 sh_3 rfl dX10_night_89 (pq := 92) rfl ?_
        refine wb_iload 3 hX dX10_night_92 rfl (pq := 94) rfl ?_
        refine wb_iald hX sh_6 hi_3 dX10_night_94 (pq := 95) rfl ?_
        obtain ⟨q_5, hc_4, h⟩ := bind_s h
        refine wb_callVi (r0 := q_5.1) (s1 := q_5.2) [.int (s.1 4 x4.toNatClampNeg), .int (s.1 5 x4.toNatClampNeg), .int (s.1 6 x4.toNatClampNeg)] hX sh_0 ml_535 (tW_bringTimes hc_4) (by decide) rfl rfl (Nat.le_of_ble_eq_true rfl) dX10_night_95 (pq := 98) rfl ?_
        refine wb_istore (loc' := [(5, .int q_5.1), (0, .ref (G.1 0)), (2, .int x2), (3, .int x3), (4, .int x4)]) hX hN dX10_night_98 (by decide) rfl (pq := 100) rfl ?_
        refine wb_iload_n 3 hX dX10_night_100 rfl (pq := 101) rfl ?_
        refine wb_iload 0 hX dX10_night_101 rfl (pq := 103) rfl ?_
        refine wb_iadd hX dX10_night_103 (pq := 104) rfl ?_
        refine wb_istore_n (loc' := [(3, .int (x3 + q_5.1)), (5, .int q_5.1), (0, .ref (G.1 0)), (2, .int x2), (4, .int x4)]) hX hN dX10_night_104 (by decide) rfl (pq := 105) rfl ?_
        refine wb_iload 1 hX dX10_night_105 rfl (pq := 107) rfl ?_
        refine wb_aload_n 2 hX dX10_night_107 rfl (pq := 108) rfl ?_
        refine wb_getR hX fl_332 sh_0 rfl dX10_night_108 (pq := 111) rfl ?_
        refine wb_getR hX fl_57 sh_3 rfl dX10_night_111 (pq := 114) rfl ?_
        refine wb_iload 4 hX dX10_night_114 rfl (pq := 116) rfl ?_
        refine wb_iald hX sh_6 hi_3 dX10_night_116 (pq := 117) rfl ?_
        refine wb_icmp_ge (tgt := 124) hX dX10_night_117 (by decide) (fun c_6 => ?_) (pq := 120) rfl (fun c_6 => ?_)
        · have h := ite_t c_6 h
          refine wb_iconst (v := iI (0)) hX dX10_night_124 rfl (pq := 125) rfl ?_
          refine wb_sub [2, 0, 4] (loc' := [(0, .ref (G.1 0)), (3, .int (x3 + q_5.1)), (4, .int x4)]) rfl ?_
          exact tW_night_J125 hX hQ hN hk48 h
        · have h := ite_f c_6 h
          refine wb_iconst (v := iI (1)) hX dX10_night_120 rfl (pq := 121) rfl ?_
          refine wb_goto (tgt := 125) hX dX10_night_121 (by decide) ?_
          refine wb_sub [2, 0, 4] (loc' := [(0, .ref (G.1 0)), (3, .int (x3 + q_5.1)), (4, .int x4)]) rfl ?_
          exact tW_night_J125 hX hQ hN hk48 h
      · have h := ite_f c_2 h
        refine wb_sub [0, 1, 2] (loc' := [(0, .ref (G.1 0)), (2, .int x2), (3, .int x3)]) rfl ?_
        exact tW_night_J132 hX hQ hN h
set_option maxHeartbeats 4000000 in
set_option maxRecDepth 100000 in
theorem tW_night {l : Launch} {G : wG} {s : wM} {r0 : Int32} {s1 : wM} (h : fW_night s = some (r0, s1)) : wMet l G yX10_night cX10_night 6 (some .int) 5 [.ref (G.1 0)] s (wQi G r0 s1) := by
  refine wMet_of (own := RX10) (by decide +kernel) rfl (Nat.le_of_ble_eq_true rfl) ?_
  intro X hX hQ hN hl
  show WB G X 0 [(0, .ref (G.1 0))] [] s
  unfold fW_night at h
  refine wb_aload_n 0 hX dX10_night_0 rfl (pq := 1) rfl ?_
  refine wb_getR hX fl_332 sh_0 rfl dX10_night_1 (pq := 4) rfl ?_
  refine wb_aload_n 0 hX dX10_night_4 rfl (pq := 5) rfl ?_
  refine wb_getR hX fl_331 sh_0 rfl dX10_night_5 (pq := 8) rfl ?_
  obtain ⟨q_2, hc_1, h⟩ := bind_s h
  refine wb_callVi (r0 := q_2.1) (s1 := q_2.2) [.ref (G.1 1)] hX sh_3 ml_531 (tRd_readNight hc_1) (by decide) rfl rfl (Nat.le_of_ble_eq_true rfl) dX10_night_8 (pq := 11) rfl ?_
  refine wb_istore_n (loc' := [(1, .int q_2.1), (0, .ref (G.1 0))]) hX hN dX10_night_11 (by decide) rfl (pq := 12) rfl ?_
  refine wb_aload_n 1 hX dX10_night_12 rfl (pq := 13) rfl ?_
  refine wb_getR hX fl_331 sh_0 rfl dX10_night_13 (pq := 16) rfl ?_
  refine wb_iconst (v := iI (0)) hX dX10_night_16 rfl (pq := 17) rfl ?_
  obtain ⟨q_4, hc_3, h⟩ := bind_s h
  refine wb_callVi (r0 := q_4.1) (s1 := q_4.2) [.int (iI (0))] hX sh_1 ml_377 (tTx_cut hc_3) (by decide) rfl rfl (Nat.le_of_ble_eq_true rfl) dX10_night_17 (pq := 20) rfl ?_
  refine wb_pop hX dX10_night_20 rfl (pq := 21) rfl ?_
  refine wb_iload_n 0 hX dX10_night_21 rfl (pq := 22) rfl ?_
  refine wb_iconst (v := iI (-1)) hX dX10_night_22 rfl (pq := 23) rfl ?_
  refine wb_icmp_eq (tgt := 30) hX dX10_night_23 (by decide) (fun c_5 => ?_) (pq := 26) rfl (fun c_5 => ?_)
  · have h := ite_t c_5 h
    refine wb_aload_n 1 hX dX10_night_30 rfl (pq := 31) rfl ?_
    refine wb_getR hX fl_338 sh_0 rfl dX10_night_31 (pq := 34) rfl ?_
    refine wb_aload_n 1 hX dX10_night_34 rfl (pq := 35) rfl ?_
    refine wb_getR hX fl_333 sh_0 rfl dX10_night_35 (pq := 38) rfl ?_
    obtain ⟨q_7, hc_6, h⟩ := bind_s h
    refine wb_callVv (s1 := q_7) [.ref (G.1 7)] hX sh_34 ml_507 (tPa_note hc_6) (by decide) rfl rfl (Nat.le_of_ble_eq_true rfl) dX10_night_38 (pq := 41) rfl ?_
    refine wb_iconst (v := iI (0)) hX dX10_night_41 rfl (pq := 42) rfl ?_
    refine wb_istore_n (loc' := [(2, .int (iI (0))), (1, .int q_2.1), (0, .ref (G.1 0))]) hX hN dX10_night_42 (by decide) rfl (pq := 43) rfl ?_
    refine wb_iconst (v := iI (0)) hX dX10_night_43 rfl (pq := 44) rfl ?_
    refine wb_istore_n (loc' := [(3, .int (iI (0))), (2, .int (iI (0))), (1, .int q_2.1), (0, .ref (G.1 0))]) hX hN dX10_night_44 (by decide) rfl (pq := 45) rfl ?_
    refine wb_iconst (v := iI (0)) hX dX10_night_45 rfl (pq := 46) rfl ?_
    refine wb_istore (loc' := [(4, .int (iI (0))), (3, .int (iI (0))), (2, .int (iI (0))), (1, .int q_2.1), (0, .ref (G.1 0))]) hX hN dX10_night_46 (by decide) rfl (pq := 48) rfl ?_
    refine wb_sub [4, 2, 1, 0] (loc' := [(0, .ref (G.1 0)), (2, .int (iI (0))), (3, .int (iI (0))), (4, .int (iI (0)))]) rfl ?_
    exact tW_night_L48 hX hQ hN 100000 _ _ _ _ h
  · have h := ite_f c_5 h
    refine wb_iconst (v := iI (-1)) hX dX10_night_26 rfl (pq := 27) rfl ?_
    refine wb_iload_n 0 hX dX10_night_27 rfl (pq := 28) rfl ?_
    refine wb_isub hX dX10_night_28 (pq := 29) rfl ?_
    exact wb_iret hX hQ h dX10_night_29
set_option maxHeartbeats 4000000 in
set_option maxRecDepth 100000 in
theorem tW_letWeekPass {l : Launch} {G : wG} {s : wM} {x1 : Int32} {x2 : Int32} {r0 : Int32} {s1 : wM} (h : fW_letWeekPass s x1 x2 = some (r0, s1)) : wMet l G yX10_letWeekPass cX10_letWeekPass 3 (some .int) 3 [.ref (G.1 0), .int x1, .int x2] s (wQi G r0 s1) := by
  refine wMet_of (own := RX10) (by decide +kernel) rfl (Nat.le_of_ble_eq_true rfl) ?_
  intro X hX hQ hN hl
  show WB G X 0 [(0, .ref (G.1 0)), (1, .int x1), (2, .int x2)] [] s
  unfold fW_letWeekPass at h
  refine wb_aload_n 0 hX dX10_letWeekPass_0 rfl (pq := 1) rfl ?_
  refine wb_getR hX fl_334 sh_0 rfl dX10_letWeekPass_1 (pq := 4) rfl ?_
  refine wb_aload_n 0 hX dX10_letWeekPass_4 rfl (pq := 5) rfl ?_
  refine wb_getR hX fl_333 sh_0 rfl dX10_letWeekPass_5 (pq := 8) rfl ?_
  obtain ⟨q_2, hc_1, h⟩ := bind_s h
  refine wb_callVv (s1 := q_2) [.ref (G.1 7)] hX sh_13 ml_567 (tAh_look hc_1) (by decide) rfl rfl (Nat.le_of_ble_eq_true rfl) dX10_letWeekPass_8 (pq := 11) rfl ?_
  refine wb_aload_n 0 hX dX10_letWeekPass_11 rfl (pq := 12) rfl ?_
  refine wb_getR hX fl_334 sh_0 rfl dX10_letWeekPass_12 (pq := 15) rfl ?_
  refine wb_iload_n 1 hX dX10_letWeekPass_15 rfl (pq := 16) rfl ?_
  refine wb_iload_n 2 hX dX10_letWeekPass_16 rfl (pq := 17) rfl ?_
  obtain ⟨q_4, hc_3, h⟩ := bind_s h
  refine wb_callVv (s1 := q_4) [.int x1, .int x2] hX sh_13 ml_577 (tAh_pass hc_3) (by decide) rfl rfl (Nat.le_of_ble_eq_true rfl) dX10_letWeekPass_17 (pq := 20) rfl ?_
  refine wb_aload_n 0 hX dX10_letWeekPass_20 rfl (pq := 21) rfl ?_
  refine wb_getR hX fl_334 sh_0 rfl dX10_letWeekPass_21 (pq := 24) rfl ?_
  refine wb_getR hX fl_137 sh_13 rfl dX10_letWeekPass_24 (pq := 27) rfl ?_
  refine wb_iconst (v := iI (0)) hX dX10_letWeekPass_27 rfl (pq := 28) rfl ?_
  refine wb_aload_n 0 hX dX10_letWeekPass_28 rfl (pq := 29) rfl ?_
  refine wb_getR hX fl_333 sh_0 rfl dX10_letWeekPass_29 (pq := 32) rfl ?_
  refine wb_getR hX fl_91 sh_7 rfl dX10_letWeekPass_32 (pq := 35) rfl ?_
  refine wb_iconst (v := iI (0)) hX dX10_letWeekPass_35 rfl (pq := 36) rfl ?_
  refine wb_bipush (v := iI (9)) hX dX10_letWeekPass_36 (by decide) (pq := 38) rfl ?_
  obtain ⟨hc_5, h⟩ := chkC_some h
  refine wb_copy hX k_595 k_517 k_516 k_19 sh_14 sh_8 hc_5 (Nat.le_of_ble_eq_true rfl) dX10_letWeekPass_38 (pq := 41) rfl ?_
  refine wb_mem (fun s_6 es_6 => ?_)
  have h := nmM_s h s_6 es_6
  refine wb_aload_n 0 hX dX10_letWeekPass_41 rfl (pq := 42) rfl ?_
  refine wb_getR hX fl_334 sh_0 rfl dX10_letWeekPass_42 (pq := 45) rfl ?_
  refine wb_aload_n 0 hX dX10_letWeekPass_45 rfl (pq := 46) rfl ?_
  refine wb_getR hX fl_333 sh_0 rfl dX10_letWeekPass_46 (pq := 49) rfl ?_
  refine wb_getR hX fl_98 sh_7 rfl dX10_letWeekPass_49 (pq := 52) rfl ?_
  refine wb_aload_n 0 hX dX10_letWeekPass_52 rfl (pq := 53) rfl ?_
  refine wb_getR hX fl_333 sh_0 rfl dX10_letWeekPass_53 (pq := 56) rfl ?_
  refine wb_getR hX fl_103 sh_7 rfl dX10_letWeekPass_56 (pq := 59) rfl ?_
  refine wb_iconst (v := iI (1)) hX dX10_letWeekPass_59 rfl (pq := 60) rfl ?_
  refine wb_iald hX sh_11 (by unfold vp_in; decide) dX10_letWeekPass_60 (pq := 61) rfl ?_
  obtain ⟨q_8, hc_7, h⟩ := bind_s h
  refine wb_callVv (s1 := q_8) [.ref (G.1 10), .int (s_6.1 11 (iI (1)).toNatClampNeg)] hX sh_13 ml_596 (tAh_payInto sh_10 hc_7) (by decide) rfl rfl (Nat.le_of_ble_eq_true rfl) dX10_letWeekPass_61 (pq := 64) rfl ?_
  refine wb_aload_n 0 hX dX10_letWeekPass_64 rfl (pq := 65) rfl ?_
  refine wb_getR hX fl_333 sh_0 rfl dX10_letWeekPass_65 (pq := 68) rfl ?_
  refine wb_dup hX dX10_letWeekPass_68 rfl (pq := 69) rfl ?_
  refine wb_getI hX fl_112 sh_7 rfl dX10_letWeekPass_69 (pq := 72) rfl ?_
  refine wb_iconst (v := iI (1)) hX dX10_letWeekPass_72 rfl (pq := 73) rfl ?_
  refine wb_iadd hX dX10_letWeekPass_73 (pq := 74) rfl ?_
  refine wb_putI hX fp_112 sh_7 rfl dX10_letWeekPass_74 rfl rfl (pq := 77) rfl ?_
  refine wb_mem (fun s_9 es_9 => ?_)
  have h := nmM_s h s_9 es_9
  refine wb_aload_n 0 hX dX10_letWeekPass_77 rfl (pq := 78) rfl ?_
  refine wb_getR hX fl_334 sh_0 rfl dX10_letWeekPass_78 (pq := 81) rfl ?_
  obtain ⟨q_11, hc_10, h⟩ := bind_s h
  refine wb_callVi (r0 := q_11) (s1 := s_9) [] hX sh_13 ml_604 (tAh_evenPairs hc_10) (by decide) rfl rfl (Nat.le_of_ble_eq_true rfl) dX10_letWeekPass_81 (pq := 84) rfl ?_
  exact wb_iret hX hQ h dX10_letWeekPass_84
set_option maxHeartbeats 4000000 in
set_option maxRecDepth 100000 in
theorem tW_week_J22 {G : wG} {X : wX} {s : wM} {r0 : Int32} {s1 : wM} (hX : wOK G X cX10_week RX10 (some .int) 4) (hQ : wRt G X (wQi G r0 s1)) (hN : wNl X = 4) (h : fW_week_J22 s = some (r0, s1)) : WB G X 22 [] [] s := by
  unfold fW_week_J22 at h
  refine wb_iconst (v := iI (-1)) hX dX10_week_22 rfl (pq := 23) rfl ?_
  exact wb_iret hX hQ h dX10_week_23
set_option maxHeartbeats 4000000 in
set_option maxRecDepth 100000 in
theorem tW_week {l : Launch} {G : wG} {s : wM} {x1 : Int32} {x2 : Int32} {r0 : Int32} {s1 : wM} (h : fW_week s x1 x2 = some (r0, s1)) : wMet l G yX10_week cX10_week 4 (some .int) 4 [.ref (G.1 0), .int x1, .int x2] s (wQi G r0 s1) := by
  refine wMet_of (own := RX10) (by decide +kernel) rfl (Nat.le_of_ble_eq_true rfl) ?_
  intro X hX hQ hN hl
  show WB G X 0 [(0, .ref (G.1 0)), (1, .int x1), (2, .int x2)] [] s
  unfold fW_week at h
  refine wb_iload_n 1 hX dX10_week_0 rfl (pq := 1) rfl ?_
  refine wb_bipush (v := iI (-9)) hX dX10_week_1 (by decide) (pq := 3) rfl ?_
  refine wb_bipush (v := iI (9)) hX dX10_week_3 (by decide) (pq := 5) rfl ?_
  obtain ⟨q_2, hc_1, h⟩ := bind_s h
  refine wb_callSi (r0 := q_2) (s1 := s) [.int x1, .int (iI (-9)), .int (iI (9))] hX ml_467 (tW_isWithin hc_1) (by decide) rfl rfl (Nat.le_of_ble_eq_true rfl) dX10_week_5 (pq := 8) rfl ?_
  refine wb_if_eq (tgt := 22) hX dX10_week_8 (by decide) (fun c_3 => ?_) (pq := 11) rfl (fun c_3 => ?_)
  · have h := ite_t c_3 h
    refine wb_sub [] (loc' := []) rfl ?_
    exact tW_week_J22 hX hQ hN h
  · have h := ite_f c_3 h
    refine wb_aload_n 0 hX dX10_week_11 rfl (pq := 12) rfl ?_
    refine wb_getR hX fl_333 sh_0 rfl dX10_week_12 (pq := 15) rfl ?_
    refine wb_iload_n 2 hX dX10_week_15 rfl (pq := 16) rfl ?_
    obtain ⟨q_5, hc_4, h⟩ := bind_s h
    refine wb_callVi (r0 := q_5) (s1 := s) [.int x2] hX sh_7 ml_555 (tLand_hasAll hc_4) (by decide) rfl rfl (Nat.le_of_ble_eq_true rfl) dX10_week_16 (pq := 19) rfl ?_
    refine wb_if_ne (tgt := 24) hX dX10_week_19 (by decide) (pq := 22) rfl (fun c_6 => ?_) (fun c_6 => ?_)
    · have h := ite_t c_6 h
      refine wb_sub [] (loc' := []) rfl ?_
      exact tW_week_J22 hX hQ hN h
    · have h := ite_f c_6 h
      refine wb_aload_n 0 hX dX10_week_24 rfl (pq := 25) rfl ?_
      refine wb_getR hX fl_338 sh_0 rfl dX10_week_25 (pq := 28) rfl ?_
      refine wb_aload_n 0 hX dX10_week_28 rfl (pq := 29) rfl ?_
      refine wb_getR hX fl_333 sh_0 rfl dX10_week_29 (pq := 32) rfl ?_
      obtain ⟨q_8, hc_7, h⟩ := bind_s h
      refine wb_callVv (s1 := q_8) [.ref (G.1 7)] hX sh_34 ml_507 (tPa_note hc_7) (by decide) rfl rfl (Nat.le_of_ble_eq_true rfl) dX10_week_32 (pq := 35) rfl ?_
      refine wb_aload_n 0 hX dX10_week_35 rfl (pq := 36) rfl ?_
      refine wb_getR hX fl_338 sh_0 rfl dX10_week_36 (pq := 39) rfl ?_
      obtain ⟨q_10, hc_9, h⟩ := bind_s h
      refine wb_callVv (s1 := q_10) [] hX sh_34 ml_518 (tPa_keepNoted hc_9) (by decide) rfl rfl (Nat.le_of_ble_eq_true rfl) dX10_week_39 (pq := 42) rfl ?_
      refine wb_aload_n 0 hX dX10_week_42 rfl (pq := 43) rfl ?_
      refine wb_iload_n 1 hX dX10_week_43 rfl (pq := 44) rfl ?_
      refine wb_iload_n 2 hX dX10_week_44 rfl (pq := 45) rfl ?_
      obtain ⟨q_12, hc_11, h⟩ := bind_s h
      refine wb_callVi (r0 := q_12.1) (s1 := q_12.2) [.int x1, .int x2] hX sh_0 ml_563 (tW_letWeekPass hc_11) (by decide) rfl rfl (Nat.le_of_ble_eq_true rfl) dX10_week_45 (pq := 48) rfl ?_
      refine wb_istore_n (loc' := [(3, .int q_12.1), (0, .ref (G.1 0)), (1, .int x1), (2, .int x2)]) hX hN dX10_week_48 (by decide) rfl (pq := 49) rfl ?_
      refine wb_aload_n 1 hX dX10_week_49 rfl (pq := 50) rfl ?_
      refine wb_getR hX fl_337 sh_0 rfl dX10_week_50 (pq := 53) rfl ?_
      refine wb_iconst (v := iI (2)) hX dX10_week_53 rfl (pq := 54) rfl ?_
      refine wb_iload_n 0 hX dX10_week_54 rfl (pq := 55) rfl ?_
      refine wb_imul hX dX10_week_55 (pq := 56) rfl ?_
      refine wb_aload_n 1 hX dX10_week_56 rfl (pq := 57) rfl ?_
      refine wb_getR hX fl_333 sh_0 rfl dX10_week_57 (pq := 60) rfl ?_
      refine wb_getR hX fl_103 sh_7 rfl dX10_week_60 (pq := 63) rfl ?_
      refine wb_iconst (v := iI (1)) hX dX10_week_63 rfl (pq := 64) rfl ?_
      refine wb_iald hX sh_11 (by unfold vp_in; decide) dX10_week_64 (pq := 65) rfl ?_
      refine wb_imul hX dX10_week_65 (pq := 66) rfl ?_
      obtain ⟨q_14, hc_13, h⟩ := bind_s h
      refine wb_callVv (s1 := q_14) [.int (((iI (2)) * q_12.1) * (q_12.2.1 11 (iI (1)).toNatClampNeg))] hX sh_32 ml_539 (tNum_tell hc_13) (by decide) rfl rfl (Nat.le_of_ble_eq_true rfl) dX10_week_66 (pq := 69) rfl ?_
      refine wb_aload_n 1 hX dX10_week_69 rfl (pq := 70) rfl ?_
      refine wb_getR hX fl_337 sh_0 rfl dX10_week_70 (pq := 73) rfl ?_
      refine wb_aload_n 1 hX dX10_week_73 rfl (pq := 74) rfl ?_
      refine wb_getR hX fl_334 sh_0 rfl dX10_week_74 (pq := 77) rfl ?_
      refine wb_getI hX fl_151 sh_13 rfl dX10_week_77 (pq := 80) rfl ?_
      obtain ⟨q_16, hc_15, h⟩ := bind_s h
      refine wb_callVv (s1 := q_16) [.int (q_14.1 13 7)] hX sh_32 ml_608 (tNum_add hc_15) (by decide) rfl rfl (Nat.le_of_ble_eq_true rfl) dX10_week_80 (pq := 83) rfl ?_
      refine wb_iload_n 0 hX dX10_week_83 rfl (pq := 84) rfl ?_
      exact wb_iret hX hQ h dX10_week_84
set_option maxHeartbeats 4000000 in
set_option maxRecDepth 100000 in
theorem tW_weeks_J83 {G : wG} {X : wX} {k41 : Int32 → Int32 → Int32 → wM → Option (Int32 × wM)} {x1 : Int32} {x2 : Int32} {x4 : Int32} {v0 : Int32} {v1 : Int32} {s : wM} {r0 : Int32} {s1 : wM} (hX : wOK G X cX10_weeks RX10 (some .int) 4) (hQ : wRt G X (wQi G r0 s1)) (hN : wNl X = 6) (hk41 : ∀ (x2 : Int32) (x3 : Int32) (x4 : Int32) (s : wM), k41 x2 x3 x4 s = some (r0, s1) → WB G X 41 [(0, .ref (G.1 0)), (1, .int x1), (2, .int x2), (3, .int x3), (4, .int x4)] [] s) (h : fW_weeks_J83 k41 x1 x2 x4 v0 v1 s = some (r0, s1)) : WB G X 83 [(0, .ref (G.1 0)), (1, .int x1), (2, .int x2), (4, .int x4)] [.int v0, .int v1] s := by
  unfold fW_weeks_J83 at h
  refine wb_iadd hX dX10_weeks_83 (pq := 84) rfl ?_
  refine wb_istore_n (loc' := [(3, .int (v1 + v0)), (0, .ref (G.1 0)), (1, .int x1), (2, .int x2), (4, .int x4)]) hX hN dX10_weeks_84 (by decide) rfl (pq := 85) rfl ?_
  refine wb_iinc (v := (x4 + iI (1))) (loc' := [(4, .int (x4 + iI (1))), (3, .int (v1 + v0)), (0, .ref (G.1 0)), (1, .int x1), (2, .int x2)]) 4 hX hN dX10_weeks_85 rfl rfl (by decide) rfl (pq := 88) rfl ?_
  refine wb_goto (tgt := 41) hX dX10_weeks_88 (by decide) ?_
  refine wb_sub [2, 3, 4, 1, 0] (loc' := [(0, .ref (G.1 0)), (1, .int x1), (2, .int x2), (3, .int (v1 + v0)), (4, .int (x4 + iI (1)))]) rfl ?_
  exact hk41 _ _ _ _ h
set_option maxHeartbeats 4000000 in
set_option maxRecDepth 100000 in
theorem tW_weeks_L41 {G : wG} {X : wX} {x1 : Int32} {r0 : Int32} {s1 : wM} (hX : wOK G X cX10_weeks RX10 (some .int) 4) (hQ : wRt G X (wQi G r0 s1)) (hN : wNl X = 6) : ∀ (n : Nat) (x2 : Int32) (x3 : Int32) (x4 : Int32) (s : wM), wh4 (fW_weeks_L41 x1) n x2 x3 x4 s = some (r0, s1) → WB G X 41 [(0, .ref (G.1 0)), (1, .int x1), (2, .int x2), (3, .int x3), (4, .int x4)] [] s := by
  intro n
  induction n with
  | zero => intro x2 x3 x4 s h; cases h
  | succ n hk41 =>
    intro x2 x3 x4 s h
    have h : fW_weeks_L41 x1 x2 x3 x4 s (wh4 (fW_weeks_L41 x1) n) = some (r0, s1) := h
    unfold fW_weeks_L41 at h
    refine wb_iload 4 hX dX10_weeks_41 rfl (pq := 43) rfl ?_
    refine wb_iload_n 1 hX dX10_weeks_43 rfl (pq := 44) rfl ?_
    refine wb_icmp_ge (tgt := 91) hX dX10_weeks_44 (by decide) (fun c_1 => ?_) (pq := 47) rfl (fun c_1 => ?_)
    · have h := ite_t c_1 h
      refine wb_aload_n 0 hX dX10_weeks_91 rfl (pq := 92) rfl ?_
      refine wb_getR hX fl_337 sh_0 rfl dX10_weeks_92 (pq := 95) rfl ?_
      refine wb_iload_n 3 hX dX10_weeks_95 rfl (pq := 96) rfl ?_
      obtain ⟨q_3, hc_2, h⟩ := bind_s h
      refine wb_callVv (s1 := q_3) [.int x3] hX sh_32 ml_539 (tNum_tell hc_2) (by decide) rfl rfl (Nat.le_of_ble_eq_true rfl) dX10_weeks_96 (pq := 99) rfl ?_
      refine wb_iload_n 2 hX dX10_weeks_99 rfl (pq := 100) rfl ?_
      exact wb_iret hX hQ h dX10_weeks_100
    · have h := ite_f c_1 h
      refine wb_aload_n 0 hX dX10_weeks_47 rfl (pq := 48) rfl ?_
      refine wb_iconst (v := iI (0)) hX dX10_weeks_48 rfl (pq := 49) rfl ?_
      refine wb_iconst (v := iI (0)) hX dX10_weeks_49 rfl (pq := 50) rfl ?_
      obtain ⟨q_5, hc_4, h⟩ := bind_s h
      refine wb_callVi (r0 := q_5.1) (s1 := q_5.2) [.int (iI (0)), .int (iI (0))] hX sh_0 ml_563 (tW_letWeekPass hc_4) (by decide) rfl rfl (Nat.le_of_ble_eq_true rfl) dX10_weeks_50 (pq := 53) rfl ?_
      refine wb_istore (loc' := [(5, .int q_5.1), (0, .ref (G.1 0)), (1, .int x1), (2, .int x2), (3, .int x3), (4, .int x4)]) hX hN dX10_weeks_53 (by decide) rfl (pq := 55) rfl ?_
      refine wb_iload_n 3 hX dX10_weeks_55 rfl (pq := 56) rfl ?_
      refine wb_iconst (v := iI (2)) hX dX10_weeks_56 rfl (pq := 57) rfl ?_
      refine wb_iload 0 hX dX10_weeks_57 rfl (pq := 59) rfl ?_
      refine wb_imul hX dX10_weeks_59 (pq := 60) rfl ?_
      refine wb_aload_n 1 hX dX10_weeks_60 rfl (pq := 61) rfl ?_
      refine wb_getR hX fl_333 sh_0 rfl dX10_weeks_61 (pq := 64) rfl ?_
      refine wb_getR hX fl_103 sh_7 rfl dX10_weeks_64 (pq := 67) rfl ?_
      refine wb_iconst (v := iI (1)) hX dX10_weeks_67 rfl (pq := 68) rfl ?_
      refine wb_iald hX sh_11 (by unfold vp_in; decide) dX10_weeks_68 (pq := 69) rfl ?_
      refine wb_imul hX dX10_weeks_69 (pq := 70) rfl ?_
      refine wb_iadd hX dX10_weeks_70 (pq := 71) rfl ?_
      refine wb_topi (fun y_6 ey_6 => ?_)
      have h := nmI_s h y_6 ey_6
      refine wb_istore_n (loc' := [(2, .int y_6), (5, .int q_5.1), (0, .ref (G.1 0)), (1, .int x1), (3, .int x3), (4, .int x4)]) hX hN dX10_weeks_71 (by decide) rfl (pq := 72) rfl ?_
      refine wb_iload_n 4 hX dX10_weeks_72 rfl (pq := 73) rfl ?_
      refine wb_iload 1 hX dX10_weeks_73 rfl (pq := 75) rfl ?_
      refine wb_if_ne (tgt := 82) hX dX10_weeks_75 (by decide) (pq := 78) rfl (fun c_7 => ?_) (fun c_7 => ?_)
      · have h := ite_t c_7 h
        refine wb_iconst (v := iI (1)) hX dX10_weeks_78 rfl (pq := 79) rfl ?_
        refine wb_goto (tgt := 83) hX dX10_weeks_79 (by decide) ?_
        refine wb_sub [2, 3, 0, 5] (loc' := [(0, .ref (G.1 0)), (1, .int x1), (2, .int y_6), (4, .int x4)]) rfl ?_
        exact tW_weeks_J83 hX hQ hN hk41 h
      · have h := ite_f c_7 h
        refine wb_iconst (v := iI (0)) hX dX10_weeks_82 rfl (pq := 83) rfl ?_
        refine wb_sub [2, 3, 0, 5] (loc' := [(0, .ref (G.1 0)), (1, .int x1), (2, .int y_6), (4, .int x4)]) rfl ?_
        exact tW_weeks_J83 hX hQ hN hk41 h
set_option maxHeartbeats 4000000 in
set_option maxRecDepth 100000 in
theorem tW_weeks_J34 {G : wG} {X : wX} {x1 : Int32} {s : wM} {r0 : Int32} {s1 : wM} (hX : wOK G X cX10_weeks RX10 (some .int) 4) (hQ : wRt G X (wQi G r0 s1)) (hN : wNl X = 6) (h : fW_weeks_J34 x1 s = some (r0, s1)) : WB G X 34 [(0, .ref (G.1 0)), (1, .int x1)] [] s := by
  unfold fW_weeks_J34 at h
  refine wb_iconst (v := iI (0)) hX dX10_weeks_34 rfl (pq := 35) rfl ?_
  refine wb_istore_n (loc' := [(2, .int (iI (0))), (0, .ref (G.1 0)), (1, .int x1)]) hX hN dX10_weeks_35 (by decide) rfl (pq := 36) rfl ?_
  refine wb_iconst (v := iI (0)) hX dX10_weeks_36 rfl (pq := 37) rfl ?_
  refine wb_istore_n (loc' := [(3, .int (iI (0))), (2, .int (iI (0))), (0, .ref (G.1 0)), (1, .int x1)]) hX hN dX10_weeks_37 (by decide) rfl (pq := 38) rfl ?_
  refine wb_iconst (v := iI (0)) hX dX10_weeks_38 rfl (pq := 39) rfl ?_
  refine wb_istore (loc' := [(4, .int (iI (0))), (3, .int (iI (0))), (2, .int (iI (0))), (0, .ref (G.1 0)), (1, .int x1)]) hX hN dX10_weeks_39 (by decide) rfl (pq := 41) rfl ?_
  refine wb_sub [3, 4, 2, 1, 0] (loc' := [(0, .ref (G.1 0)), (1, .int x1), (2, .int (iI (0))), (3, .int (iI (0))), (4, .int (iI (0)))]) rfl ?_
  exact tW_weeks_L41 hX hQ hN 100000 _ _ _ _ h
set_option maxHeartbeats 4000000 in
set_option maxRecDepth 100000 in
theorem tW_weeks {l : Launch} {G : wG} {s : wM} {x1 : Int32} {r0 : Int32} {s1 : wM} (h : fW_weeks s x1 = some (r0, s1)) : wMet l G yX10_weeks cX10_weeks 6 (some .int) 4 [.ref (G.1 0), .int x1] s (wQi G r0 s1) := by
  refine wMet_of (own := RX10) (by decide +kernel) rfl (Nat.le_of_ble_eq_true rfl) ?_
  intro X hX hQ hN hl
  show WB G X 0 [(0, .ref (G.1 0)), (1, .int x1)] [] s
  unfold fW_weeks at h
  refine wb_iload_n 1 hX dX10_weeks_0 rfl (pq := 1) rfl ?_
  refine wb_iconst (v := iI (0)) hX dX10_weeks_1 rfl (pq := 2) rfl ?_
  refine wb_bipush (v := iI (50)) hX dX10_weeks_2 (by decide) (pq := 4) rfl ?_
  obtain ⟨q_2, hc_1, h⟩ := bind_s h
  refine wb_callSi (r0 := q_2) (s1 := s) [.int x1, .int (iI (0)), .int (iI (50))] hX ml_467 (tW_isWithin hc_1) (by decide) rfl rfl (Nat.le_of_ble_eq_true rfl) dX10_weeks_4 (pq := 7) rfl ?_
  refine wb_if_ne (tgt := 12) hX dX10_weeks_7 (by decide) (pq := 10) rfl (fun c_3 => ?_) (fun c_3 => ?_)
  · have h := ite_t c_3 h
    refine wb_iconst (v := iI (-1)) hX dX10_weeks_10 rfl (pq := 11) rfl ?_
    exact wb_iret hX hQ h dX10_weeks_11
  · have h := ite_f c_3 h
    refine wb_aload_n 0 hX dX10_weeks_12 rfl (pq := 13) rfl ?_
    refine wb_getR hX fl_338 sh_0 rfl dX10_weeks_13 (pq := 16) rfl ?_
    refine wb_aload_n 0 hX dX10_weeks_16 rfl (pq := 17) rfl ?_
    refine wb_getR hX fl_333 sh_0 rfl dX10_weeks_17 (pq := 20) rfl ?_
    obtain ⟨q_5, hc_4, h⟩ := bind_s h
    refine wb_callVv (s1 := q_5) [.ref (G.1 7)] hX sh_34 ml_507 (tPa_note hc_4) (by decide) rfl rfl (Nat.le_of_ble_eq_true rfl) dX10_weeks_20 (pq := 23) rfl ?_
    refine wb_iload_n 1 hX dX10_weeks_23 rfl (pq := 24) rfl ?_
    refine wb_if_le (tgt := 34) hX dX10_weeks_24 (by decide) (fun c_6 => ?_) (pq := 27) rfl (fun c_6 => ?_)
    · have h := ite_t c_6 h
      exact tW_weeks_J34 hX hQ hN h
    · have h := ite_f c_6 h
      refine wb_aload_n 0 hX dX10_weeks_27 rfl (pq := 28) rfl ?_
      refine wb_getR hX fl_338 sh_0 rfl dX10_weeks_28 (pq := 31) rfl ?_
      obtain ⟨q_8, hc_7, h⟩ := bind_s h
      refine wb_callVv (s1 := q_8) [] hX sh_34 ml_518 (tPa_keepNoted hc_7) (by decide) rfl rfl (Nat.le_of_ble_eq_true rfl) dX10_weeks_31 (pq := 34) rfl ?_
      exact tW_weeks_J34 hX hQ hN h
set_option maxHeartbeats 4000000 in
set_option maxRecDepth 100000 in
theorem tW_undo {l : Launch} {G : wG} {s : wM} {r0 : Int32} {s1 : wM} (h : fW_undo s = some (r0, s1)) : wMet l G yX10_undo cX10_undo 1 (some .int) 2 [.ref (G.1 0)] s (wQi G r0 s1) := by
  refine wMet_of (own := RX10) (by decide +kernel) rfl (Nat.le_of_ble_eq_true rfl) ?_
  intro X hX hQ hN hl
  show WB G X 0 [(0, .ref (G.1 0))] [] s
  unfold fW_undo at h
  refine wb_aload_n 0 hX dX10_undo_0 rfl (pq := 1) rfl ?_
  refine wb_getR hX fl_338 sh_0 rfl dX10_undo_1 (pq := 4) rfl ?_
  refine wb_getI hX fl_302 sh_34 rfl dX10_undo_4 (pq := 7) rfl ?_
  refine wb_if_ne (tgt := 12) hX dX10_undo_7 (by decide) (pq := 10) rfl (fun c_1 => ?_) (fun c_1 => ?_)
  · have h := ite_t c_1 h
    refine wb_iconst (v := iI (-1)) hX dX10_undo_10 rfl (pq := 11) rfl ?_
    exact wb_iret hX hQ h dX10_undo_11
  · have h := ite_f c_1 h
    refine wb_aload_n 0 hX dX10_undo_12 rfl (pq := 13) rfl ?_
    refine wb_getR hX fl_338 sh_0 rfl dX10_undo_13 (pq := 16) rfl ?_
    refine wb_aload_n 0 hX dX10_undo_16 rfl (pq := 17) rfl ?_
    refine wb_getR hX fl_333 sh_0 rfl dX10_undo_17 (pq := 20) rfl ?_
    obtain ⟨q_3, hc_2, h⟩ := bind_s h
    refine wb_callVv (s1 := q_3) [.ref (G.1 7)] hX sh_34 ml_617 (tPa_goBack hc_2) (by decide) rfl rfl (Nat.le_of_ble_eq_true rfl) dX10_undo_20 (pq := 23) rfl ?_
    refine wb_aload_n 0 hX dX10_undo_23 rfl (pq := 24) rfl ?_
    refine wb_getR hX fl_338 sh_0 rfl dX10_undo_24 (pq := 27) rfl ?_
    refine wb_getI hX fl_302 sh_34 rfl dX10_undo_27 (pq := 30) rfl ?_
    exact wb_iret hX hQ h dX10_undo_30
set_option maxHeartbeats 4000000 in
set_option maxRecDepth 100000 in
theorem tW_even_J53 {G : wG} {X : wX} {k23 : Int32 → Int32 → Option (Int32 × wM)} {x1 : Int32} {x3 : Int32} {v0 : Int32} {v1 : Int32} {s : wM} {r0 : Int32} {s1 : wM} (hX : wOK G X cX10_even RX10 (some .int) 2) (hQ : wRt G X (wQi G r0 s1)) (hN : wNl X = 4) (hk23 : ∀ (x2 : Int32) (x3 : Int32), k23 x2 x3 = some (r0, s1) → WB G X 23 [(0, .ref (G.1 0)), (1, .int x1), (2, .int x2), (3, .int x3)] [] s) (h : fW_even_J53 k23 x1 x3 v0 v1 s = some (r0, s1)) : WB G X 53 [(0, .ref (G.1 0)), (1, .int x1), (3, .int x3)] [.int v0, .int v1] s := by
  unfold fW_even_J53 at h
  refine wb_ior hX dX10_even_53 (pq := 54) rfl ?_
  refine wb_istore_n (loc' := [(2, .int (v1 ||| v0)), (0, .ref (G.1 0)), (1, .int x1), (3, .int x3)]) hX hN dX10_even_54 (by decide) rfl (pq := 55) rfl ?_
  refine wb_iinc (v := (x3 + iI (1))) (loc' := [(3, .int (x3 + iI (1))), (2, .int (v1 ||| v0)), (0, .ref (G.1 0)), (1, .int x1)]) 3 hX hN dX10_even_55 rfl rfl (by decide) rfl (pq := 58) rfl ?_
  refine wb_goto (tgt := 23) hX dX10_even_58 (by decide) ?_
  refine wb_sub [2, 3, 1, 0] (loc' := [(0, .ref (G.1 0)), (1, .int x1), (2, .int (v1 ||| v0)), (3, .int (x3 + iI (1)))]) rfl ?_
  exact hk23 _ _ h
set_option maxHeartbeats 4000000 in
set_option maxRecDepth 100000 in
theorem tW_even_J105 {G : wG} {X : wX} {x2 : Int32} {s : wM} {r0 : Int32} {s1 : wM} (hX : wOK G X cX10_even RX10 (some .int) 2) (hQ : wRt G X (wQi G r0 s1)) (hN : wNl X = 4) (h : fW_even_J105 x2 s = some (r0, s1)) : WB G X 105 [(0, .ref (G.1 0)), (2, .int x2)] [] s := by
  unfold fW_even_J105 at h
  refine wb_aload_n 0 hX dX10_even_105 rfl (pq := 106) rfl ?_
  refine wb_getR hX fl_337 sh_0 rfl dX10_even_106 (pq := 109) rfl ?_
  refine wb_iload_n 1 hX dX10_even_109 rfl (pq := 110) rfl ?_
  obtain ⟨q_2, hc_1, h⟩ := bind_s h
  refine wb_callVv (s1 := q_2) [.int x2] hX sh_32 ml_608 (tNum_add hc_1) (by decide) rfl rfl (Nat.le_of_ble_eq_true rfl) dX10_even_110 (pq := 113) rfl ?_
  refine wb_aload_n 0 hX dX10_even_113 rfl (pq := 114) rfl ?_
  refine wb_getR hX fl_334 sh_0 rfl dX10_even_114 (pq := 117) rfl ?_
  obtain ⟨q_4, hc_3, h⟩ := bind_s h
  refine wb_callVi (r0 := q_4) (s1 := q_2) [] hX sh_13 ml_604 (tAh_evenPairs hc_3) (by decide) rfl rfl (Nat.le_of_ble_eq_true rfl) dX10_even_117 (pq := 120) rfl ?_
  exact wb_iret hX hQ h dX10_even_120
set_option maxHeartbeats 4000000 in
set_option maxRecDepth 100000 in
theorem tW_even_L23 {G : wG} {X : wX} {x1 : Int32} {s : wM} {r0 : Int32} {s1 : wM} (hX : wOK G X cX10_even RX10 (some .int) 2) (hQ : wRt G X (wQi G r0 s1)) (hN : wNl X = 4) : ∀ (n : Nat) (x2 : Int32) (x3 : Int32), wh2 (fW_even_L23 x1 s) n x2 x3 = some (r0, s1) → WB G X 23 [(0, .ref (G.1 0)), (1, .int x1), (2, .int x2), (3, .int x3)] [] s := by
  intro n
  induction n with
  | zero => intro x2 x3 h; cases h
  | succ n hk23 =>
    intro x2 x3 h
    have h : fW_even_L23 x1 s x2 x3 (wh2 (fW_even_L23 x1 s) n) = some (r0, s1) := h
    unfold fW_even_L23 at h
    refine wb_iload_n 3 hX dX10_even_23 rfl (pq := 24) rfl ?_
    refine wb_aload_n 0 hX dX10_even_24 rfl (pq := 25) rfl ?_
    refine wb_getR hX fl_333 sh_0 rfl dX10_even_25 (pq := 28) rfl ?_
    refine wb_getI hX fl_109 sh_7 rfl dX10_even_28 (pq := 31) rfl ?_
    refine wb_icmp_ge (tgt := 61) hX dX10_even_31 (by decide) (fun c_1 => ?_) (pq := 34) rfl (fun c_1 => ?_)
    · have h := ite_t c_1 h
      refine wb_aload_n 0 hX dX10_even_61 rfl (pq := 62) rfl ?_
      refine wb_getR hX fl_337 sh_0 rfl dX10_even_62 (pq := 65) rfl ?_
      obtain ⟨q_3, hc_2, h⟩ := bind_s h
      refine wb_callVv (s1 := q_3) [] hX sh_32 ml_642 (tNum_clear hc_2) (by decide) rfl rfl (Nat.le_of_ble_eq_true rfl) dX10_even_65 (pq := 68) rfl ?_
      refine wb_iload_n 1 hX dX10_even_68 rfl (pq := 69) rfl ?_
      refine wb_iconst (v := iI (-1)) hX dX10_even_69 rfl (pq := 70) rfl ?_
      refine wb_icmp_eq (tgt := 105) hX dX10_even_70 (by decide) (fun c_4 => ?_) (pq := 73) rfl (fun c_4 => ?_)
      · have h := ite_t c_4 h
        refine wb_sub [0, 2] (loc' := [(0, .ref (G.1 0)), (2, .int x2)]) rfl ?_
        exact tW_even_J105 hX hQ hN h
      · have h := ite_f c_4 h
        refine wb_aload_n 0 hX dX10_even_73 rfl (pq := 74) rfl ?_
        refine wb_getR hX fl_337 sh_0 rfl dX10_even_74 (pq := 77) rfl ?_
        refine wb_aload_n 0 hX dX10_even_77 rfl (pq := 78) rfl ?_
        refine wb_getR hX fl_334 sh_0 rfl dX10_even_78 (pq := 81) rfl ?_
        refine wb_getR hX fl_143 sh_13 rfl dX10_even_81 (pq := 84) rfl ?_
        refine wb_iload_n 1 hX dX10_even_84 rfl (pq := 85) rfl ?_
        obtain ⟨hi_5, h⟩ := chk_some h
        refine wb_iald hX sh_17 hi_5 dX10_even_85 (pq := 86) rfl ?_
        obtain ⟨q_7, hc_6, h⟩ := bind_s h
        refine wb_callVv (s1 := q_7) [.int (q_3.1 17 x1.toNatClampNeg)] hX sh_32 ml_608 (tNum_add hc_6) (by decide) rfl rfl (Nat.le_of_ble_eq_true rfl) dX10_even_86 (pq := 89) rfl ?_
        refine wb_aload_n 0 hX dX10_even_89 rfl (pq := 90) rfl ?_
        refine wb_getR hX fl_337 sh_0 rfl dX10_even_90 (pq := 93) rfl ?_
        refine wb_aload_n 0 hX dX10_even_93 rfl (pq := 94) rfl ?_
        refine wb_getR hX fl_334 sh_0 rfl dX10_even_94 (pq := 97) rfl ?_
        refine wb_getR hX fl_145 sh_13 rfl dX10_even_97 (pq := 100) rfl ?_
        refine wb_iload_n 1 hX dX10_even_100 rfl (pq := 101) rfl ?_
        refine wb_iald hX sh_18 hi_5 dX10_even_101 (pq := 102) rfl ?_
        obtain ⟨q_9, hc_8, h⟩ := bind_s h
        refine wb_callVv (s1 := q_9) [.int (q_7.1 18 x1.toNatClampNeg)] hX sh_32 ml_608 (tNum_add hc_8) (by decide) rfl rfl (Nat.le_of_ble_eq_true rfl) dX10_even_102 (pq := 105) rfl ?_
        refine wb_sub [0, 2] (loc' := [(0, .ref (G.1 0)), (2, .int x2)]) rfl ?_
        exact tW_even_J105 hX hQ hN h
    · have h := ite_f c_1 h
      refine wb_iload_n 2 hX dX10_even_34 rfl (pq := 35) rfl ?_
      refine wb_aload_n 0 hX dX10_even_35 rfl (pq := 36) rfl ?_
      refine wb_getR hX fl_333 sh_0 rfl dX10_even_36 (pq := 39) rfl ?_
      refine wb_iload_n 3 hX dX10_even_39 rfl (pq := 40) rfl ?_
      obtain ⟨q_11, hc_10, h⟩ := bind_s h
      refine wb_callVi (r0 := q_11) (s1 := s) [.int x3] hX sh_7 ml_633 (tLand_evenWith hc_10) (by decide) rfl rfl (Nat.le_of_ble_eq_true rfl) dX10_even_40 (pq := 43) rfl ?_
      refine wb_if_eq (tgt := 52) hX dX10_even_43 (by decide) (fun c_12 => ?_) (pq := 46) rfl (fun c_12 => ?_)
      · have h := ite_t c_12 h
        refine wb_iconst (v := iI (0)) hX dX10_even_52 rfl (pq := 53) rfl ?_
        refine wb_sub [0, 1, 3] (loc' := [(0, .ref (G.1 0)), (1, .int x1), (3, .int x3)]) rfl ?_
        exact tW_even_J53 hX hQ hN hk23 h
      · have h := ite_f c_12 h
        refine wb_iconst (v := iI (1)) hX dX10_even_46 rfl (pq := 47) rfl ?_
        refine wb_iload_n 3 hX dX10_even_47 rfl (pq := 48) rfl ?_
        refine wb_ishl hX dX10_even_48 (pq := 49) rfl ?_
        refine wb_goto (tgt := 53) hX dX10_even_49 (by decide) ?_
        refine wb_sub [0, 1, 3] (loc' := [(0, .ref (G.1 0)), (1, .int x1), (3, .int x3)]) rfl ?_
        exact tW_even_J53 hX hQ hN hk23 h
set_option maxHeartbeats 4000000 in
set_option maxRecDepth 100000 in
theorem tW_even {l : Launch} {G : wG} {s : wM} {r0 : Int32} {s1 : wM} (h : fW_even s = some (r0, s1)) : wMet l G yX10_even cX10_even 4 (some .int) 2 [.ref (G.1 0)] s (wQi G r0 s1) := by
  refine wMet_of (own := RX10) (by decide +kernel) rfl (Nat.le_of_ble_eq_true rfl) ?_
  intro X hX hQ hN hl
  show WB G X 0 [(0, .ref (G.1 0))] [] s
  unfold fW_even at h
  refine wb_aload_n 0 hX dX10_even_0 rfl (pq := 1) rfl ?_
  refine wb_getR hX fl_334 sh_0 rfl dX10_even_1 (pq := 4) rfl ?_
  refine wb_aload_n 0 hX dX10_even_4 rfl (pq := 5) rfl ?_
  refine wb_getR hX fl_333 sh_0 rfl dX10_even_5 (pq := 8) rfl ?_
  obtain ⟨q_2, hc_1, h⟩ := bind_s h
  refine wb_callVv (s1 := q_2) [.ref (G.1 7)] hX sh_13 ml_567 (tAh_look hc_1) (by decide) rfl rfl (Nat.le_of_ble_eq_true rfl) dX10_even_8 (pq := 11) rfl ?_
  refine wb_aload_n 0 hX dX10_even_11 rfl (pq := 12) rfl ?_
  refine wb_getR hX fl_334 sh_0 rfl dX10_even_12 (pq := 15) rfl ?_
  obtain ⟨q_4, hc_3, h⟩ := bind_s h
  refine wb_callVi (r0 := q_4) (s1 := q_2) [] hX sh_13 ml_629 (tAh_firstEven hc_3) (by decide) rfl rfl (Nat.le_of_ble_eq_true rfl) dX10_even_15 (pq := 18) rfl ?_
  refine wb_istore_n (loc' := [(1, .int q_4), (0, .ref (G.1 0))]) hX hN dX10_even_18 (by decide) rfl (pq := 19) rfl ?_
  refine wb_iconst (v := iI (0)) hX dX10_even_19 rfl (pq := 20) rfl ?_
  refine wb_istore_n (loc' := [(2, .int (iI (0))), (1, .int q_4), (0, .ref (G.1 0))]) hX hN dX10_even_20 (by decide) rfl (pq := 21) rfl ?_
  refine wb_iconst (v := iI (0)) hX dX10_even_21 rfl (pq := 22) rfl ?_
  refine wb_istore_n (loc' := [(3, .int (iI (0))), (2, .int (iI (0))), (1, .int q_4), (0, .ref (G.1 0))]) hX hN dX10_even_22 (by decide) rfl (pq := 23) rfl ?_
  refine wb_sub [3, 2, 1, 0] (loc' := [(0, .ref (G.1 0)), (1, .int q_4), (2, .int (iI (0))), (3, .int (iI (0)))]) rfl ?_
  exact tW_even_L23 hX hQ hN 100000 _ _ h
set_option maxHeartbeats 4000000 in
set_option maxRecDepth 100000 in
theorem tW_prepareSearch {l : Launch} {G : wG} {s : wM} {s1 : wM} (h : fW_prepareSearch s = some s1) : wMet l G yX10_prepareSearch cX10_prepareSearch 1 none 2 [.ref (G.1 0)] s (wQv G s1) := by
  refine wMet_of (own := RX10) (by decide +kernel) rfl (Nat.le_of_ble_eq_true rfl) ?_
  intro X hX hQ hN hl
  show WB G X 0 [(0, .ref (G.1 0))] [] s
  unfold fW_prepareSearch at h
  refine wb_aload_n 0 hX dX10_prepareSearch_0 rfl (pq := 1) rfl ?_
  refine wb_getR hX fl_334 sh_0 rfl dX10_prepareSearch_1 (pq := 4) rfl ?_
  refine wb_aload_n 0 hX dX10_prepareSearch_4 rfl (pq := 5) rfl ?_
  refine wb_getR hX fl_333 sh_0 rfl dX10_prepareSearch_5 (pq := 8) rfl ?_
  obtain ⟨q_2, hc_1, h⟩ := bind_s h
  refine wb_callVv (s1 := q_2) [.ref (G.1 7)] hX sh_13 ml_567 (tAh_look hc_1) (by decide) rfl rfl (Nat.le_of_ble_eq_true rfl) dX10_prepareSearch_8 (pq := 11) rfl ?_
  refine wb_aload_n 0 hX dX10_prepareSearch_11 rfl (pq := 12) rfl ?_
  refine wb_getR hX fl_335 sh_0 rfl dX10_prepareSearch_12 (pq := 15) rfl ?_
  refine wb_aload_n 0 hX dX10_prepareSearch_15 rfl (pq := 16) rfl ?_
  refine wb_getR hX fl_333 sh_0 rfl dX10_prepareSearch_16 (pq := 19) rfl ?_
  obtain ⟨q_4, hc_3, h⟩ := bind_s h
  refine wb_callVv (s1 := q_4) [.ref (G.1 7)] hX sh_23 ml_655 (tSe_prepare hc_3) (by decide) rfl rfl (Nat.le_of_ble_eq_true rfl) dX10_prepareSearch_19 (pq := 22) rfl ?_
  exact wb_vret hX hQ h dX10_prepareSearch_22
set_option maxHeartbeats 4000000 in
set_option maxRecDepth 100000 in
theorem tW_fewestSuch {l : Launch} {G : wG} {s : wM} {x1 : Int32} {x2 : Int32} {r0 : Int32} {s1 : wM} (h : fW_fewestSuch s x1 x2 = some (r0, s1)) : wMet l G yX10_fewestSuch cX10_fewestSuch 4 (some .int) 4 [.ref (G.1 0), .int x1, .int x2] s (wQi G r0 s1) := by
  refine wMet_of (own := RX10) (by decide +kernel) rfl (Nat.le_of_ble_eq_true rfl) ?_
  intro X hX hQ hN hl
  show WB G X 0 [(0, .ref (G.1 0)), (1, .int x1), (2, .int x2)] [] s
  unfold fW_fewestSuch at h
  refine wb_aload_n 0 hX dX10_fewestSuch_0 rfl (pq := 1) rfl ?_
  obtain ⟨q_2, hc_1, h⟩ := bind_s h
  refine wb_callVv (s1 := q_2) [] hX sh_0 ml_651 (tW_prepareSearch hc_1) (by decide) rfl rfl (Nat.le_of_ble_eq_true rfl) dX10_fewestSuch_1 (pq := 4) rfl ?_
  refine wb_aload_n 0 hX dX10_fewestSuch_4 rfl (pq := 5) rfl ?_
  refine wb_getR hX fl_335 sh_0 rfl dX10_fewestSuch_5 (pq := 8) rfl ?_
  refine wb_aload_n 0 hX dX10_fewestSuch_8 rfl (pq := 9) rfl ?_
  refine wb_getR hX fl_334 sh_0 rfl dX10_fewestSuch_9 (pq := 12) rfl ?_
  refine wb_iload_n 1 hX dX10_fewestSuch_12 rfl (pq := 13) rfl ?_
  refine wb_iload_n 2 hX dX10_fewestSuch_13 rfl (pq := 14) rfl ?_
  obtain ⟨q_4, hc_3, h⟩ := bind_s h
  refine wb_callVi (r0 := q_4.1) (s1 := q_4.2) [.ref (G.1 13), .int x1, .int x2] hX sh_23 ml_660 (tSe_firstSuch hc_3) (by decide) rfl rfl (Nat.le_of_ble_eq_true rfl) dX10_fewestSuch_14 (pq := 17) rfl ?_
  refine wb_istore_n (loc' := [(3, .int q_4.1), (0, .ref (G.1 0)), (1, .int x1), (2, .int x2)]) hX hN dX10_fewestSuch_17 (by decide) rfl (pq := 18) rfl ?_
  refine wb_iload_n 0 hX dX10_fewestSuch_18 rfl (pq := 19) rfl ?_
  refine wb_if_ge (tgt := 24) hX dX10_fewestSuch_19 (by decide) (fun c_5 => ?_) (pq := 22) rfl (fun c_5 => ?_)
  · have h := ite_t c_5 h
    refine wb_aload_n 1 hX dX10_fewestSuch_24 rfl (pq := 25) rfl ?_
    refine wb_getR hX fl_335 sh_0 rfl dX10_fewestSuch_25 (pq := 28) rfl ?_
    refine wb_iload_n 0 hX dX10_fewestSuch_28 rfl (pq := 29) rfl ?_
    refine wb_aload_n 1 hX dX10_fewestSuch_29 rfl (pq := 30) rfl ?_
    refine wb_getR hX fl_337 sh_0 rfl dX10_fewestSuch_30 (pq := 33) rfl ?_
    obtain ⟨q_7, hc_6, h⟩ := bind_s h
    refine wb_callVi (r0 := q_7.1) (s1 := q_7.2) [.int q_4.1, .ref (G.1 32)] hX sh_23 ml_703 (tSe_tellWay hc_6) (by decide) rfl rfl (Nat.le_of_ble_eq_true rfl) dX10_fewestSuch_33 (pq := 36) rfl ?_
    exact wb_iret hX hQ h dX10_fewestSuch_36
  · have h := ite_f c_5 h
    refine wb_iload_n 0 hX dX10_fewestSuch_22 rfl (pq := 23) rfl ?_
    exact wb_iret hX hQ h dX10_fewestSuch_23
set_option maxHeartbeats 4000000 in
set_option maxRecDepth 100000 in
theorem tW_fewest {l : Launch} {G : wG} {s : wM} {r0 : Int32} {s1 : wM} (h : fW_fewest s = some (r0, s1)) : wMet l G yX10_fewest cX10_fewest 1 (some .int) 5 [.ref (G.1 0)] s (wQi G r0 s1) := by
  refine wMet_of (own := RX10) (by decide +kernel) rfl (Nat.le_of_ble_eq_true rfl) ?_
  intro X hX hQ hN hl
  show WB G X 0 [(0, .ref (G.1 0))] [] s
  unfold fW_fewest at h
  refine wb_aload_n 0 hX dX10_fewest_0 rfl (pq := 1) rfl ?_
  refine wb_iconst (v := iI (-1)) hX dX10_fewest_1 rfl (pq := 2) rfl ?_
  refine wb_iconst (v := iI (0)) hX dX10_fewest_2 rfl (pq := 3) rfl ?_
  obtain ⟨q_2, hc_1, h⟩ := bind_s h
  refine wb_callVi (r0 := q_2.1) (s1 := q_2.2) [.int (iI (-1)), .int (iI (0))] hX sh_0 ml_647 (tW_fewestSuch hc_1) (by decide) rfl rfl (Nat.le_of_ble_eq_true rfl) dX10_fewest_3 (pq := 6) rfl ?_
  exact wb_iret hX hQ h dX10_fewest_6
set_option maxHeartbeats 4000000 in
set_option maxRecDepth 100000 in
theorem tW_reach_J93 {G : wG} {X : wX} {k44 : Int32 → Int32 → Int32 → wM → Option (Int32 × wM)} {x3 : Int32} {x4 : Int32} {x5 : Int32} {v0 : Int32} {v1 : Int32} {s : wM} {r0 : Int32} {s1 : wM} (hX : wOK G X cX10_reach RX10 (some .int) 4) (hQ : wRt G X (wQi G r0 s1)) (hN : wNl X = 6) (hk44 : ∀ (x2 : Int32) (x3 : Int32) (x4 : Int32) (s : wM), k44 x2 x3 x4 s = some (r0, s1) → WB G X 44 [(0, .ref (G.1 0)), (2, .int x2), (3, .int x3), (4, .int x4)] [] s) (h : fW_reach_J93 k44 x3 x4 x5 v0 v1 s = some (r0, s1)) : WB G X 93 [(0, .ref (G.1 0)), (3, .int x3), (4, .int x4), (5, .int x5)] [.int v0, .int v1] s := by
  unfold fW_reach_J93 at h
  refine wb_iadd hX dX10_reach_93 (pq := 94) rfl ?_
  refine wb_istore_n (loc' := [(2, .int (v1 + v0)), (0, .ref (G.1 0)), (3, .int x3), (4, .int x4), (5, .int x5)]) hX hN dX10_reach_94 (by decide) rfl (pq := 95) rfl ?_
  refine wb_iload_n 2 hX dX10_reach_95 rfl (pq := 96) rfl ?_
  refine wb_iload 4 hX dX10_reach_96 rfl (pq := 98) rfl ?_
  refine wb_mmin hX k_489 k_394 k_14 k_395 (Nat.le_of_ble_eq_true rfl) dX10_reach_98 (pq := 101) rfl ?_
  refine wb_istore_n (loc' := [(3, .int (iMin x3 x5)), (2, .int (v1 + v0)), (0, .ref (G.1 0)), (4, .int x4), (5, .int x5)]) hX hN dX10_reach_101 (by decide) rfl (pq := 102) rfl ?_
  refine wb_iinc (v := (x4 + iI (1))) (loc' := [(4, .int (x4 + iI (1))), (3, .int (iMin x3 x5)), (2, .int (v1 + v0)), (0, .ref (G.1 0)), (5, .int x5)]) 3 hX hN dX10_reach_102 rfl rfl (by decide) rfl (pq := 105) rfl ?_
  refine wb_goto (tgt := 44) hX dX10_reach_105 (by decide) ?_
  refine wb_sub [3, 2, 1, 0] (loc' := [(0, .ref (G.1 0)), (2, .int (v1 + v0)), (3, .int (iMin x3 x5)), (4, .int (x4 + iI (1)))]) rfl ?_
  exact hk44 _ _ _ _ h
set_option maxHeartbeats 4000000 in
set_option maxRecDepth 100000 in
theorem tW_reach_L44 {G : wG} {X : wX} {r0 : Int32} {s1 : wM} (hX : wOK G X cX10_reach RX10 (some .int) 4) (hQ : wRt G X (wQi G r0 s1)) (hN : wNl X = 6) : ∀ (n : Nat) (x2 : Int32) (x3 : Int32) (x4 : Int32) (s : wM), wh4 (fW_reach_L44) n x2 x3 x4 s = some (r0, s1) → WB G X 44 [(0, .ref (G.1 0)), (2, .int x2), (3, .int x3), (4, .int x4)] [] s := by
  intro n
  induction n with
  | zero => intro x2 x3 x4 s h; cases h
  | succ n hk44 =>
    intro x2 x3 x4 s h
    have h : fW_reach_L44 x2 x3 x4 s (wh4 (fW_reach_L44) n) = some (r0, s1) := h
    unfold fW_reach_L44 at h
    refine wb_iload 3 hX dX10_reach_44 rfl (pq := 46) rfl ?_
    refine wb_aload_n 0 hX dX10_reach_46 rfl (pq := 47) rfl ?_
    refine wb_getR hX fl_335 sh_0 rfl dX10_reach_47 (pq := 50) rfl ?_
    refine wb_getI hX fl_197 sh_23 rfl dX10_reach_50 (pq := 53) rfl ?_
    refine wb_icmp_ge (tgt := 108) hX dX10_reach_53 (by decide) (fun c_1 => ?_) (pq := 56) rfl (fun c_1 => ?_)
    · have h := ite_t c_1 h
      refine wb_aload_n 0 hX dX10_reach_108 rfl (pq := 109) rfl ?_
      refine wb_getR hX fl_337 sh_0 rfl dX10_reach_109 (pq := 112) rfl ?_
      refine wb_iload_n 1 hX dX10_reach_112 rfl (pq := 113) rfl ?_
      obtain ⟨q_3, hc_2, h⟩ := bind_s h
      refine wb_callVv (s1 := q_3) [.int x2] hX sh_32 ml_539 (tNum_tell hc_2) (by decide) rfl rfl (Nat.le_of_ble_eq_true rfl) dX10_reach_113 (pq := 116) rfl ?_
      refine wb_aload_n 0 hX dX10_reach_116 rfl (pq := 117) rfl ?_
      refine wb_getR hX fl_337 sh_0 rfl dX10_reach_117 (pq := 120) rfl ?_
      refine wb_iload_n 2 hX dX10_reach_120 rfl (pq := 121) rfl ?_
      obtain ⟨q_5, hc_4, h⟩ := bind_s h
      refine wb_callVv (s1 := q_5) [.int x3] hX sh_32 ml_608 (tNum_add hc_4) (by decide) rfl rfl (Nat.le_of_ble_eq_true rfl) dX10_reach_121 (pq := 124) rfl ?_
      refine wb_aload_n 0 hX dX10_reach_124 rfl (pq := 125) rfl ?_
      refine wb_getR hX fl_335 sh_0 rfl dX10_reach_125 (pq := 128) rfl ?_
      refine wb_getI hX fl_197 sh_23 rfl dX10_reach_128 (pq := 131) rfl ?_
      exact wb_iret hX hQ h dX10_reach_131
    · have h := ite_f c_1 h
      refine wb_aload_n 0 hX dX10_reach_56 rfl (pq := 57) rfl ?_
      refine wb_getR hX fl_334 sh_0 rfl dX10_reach_57 (pq := 60) rfl ?_
      refine wb_aload_n 0 hX dX10_reach_60 rfl (pq := 61) rfl ?_
      refine wb_getR hX fl_335 sh_0 rfl dX10_reach_61 (pq := 64) rfl ?_
      refine wb_getR hX fl_195 sh_23 rfl dX10_reach_64 (pq := 67) rfl ?_
      refine wb_iload 3 hX dX10_reach_67 rfl (pq := 69) rfl ?_
      obtain ⟨hi_6, h⟩ := chk_some h
      refine wb_lald hX sh_24 hi_6 dX10_reach_69 (pq := 70) rfl ?_
      obtain ⟨q_8, hc_7, h⟩ := bind_s h
      refine wb_callVv (s1 := q_8) [.long (s.2 24 x4.toNatClampNeg)] hX sh_13 ml_730 (tAh_unpack hc_7) (by decide) rfl rfl (Nat.le_of_ble_eq_true rfl) dX10_reach_70 (pq := 73) rfl ?_
      refine wb_aload_n 0 hX dX10_reach_73 rfl (pq := 74) rfl ?_
      refine wb_getR hX fl_334 sh_0 rfl dX10_reach_74 (pq := 77) rfl ?_
      obtain ⟨q_10, hc_9, h⟩ := bind_s h
      refine wb_callVi (r0 := q_10) (s1 := q_8) [] hX sh_13 ml_604 (tAh_evenPairs hc_9) (by decide) rfl rfl (Nat.le_of_ble_eq_true rfl) dX10_reach_77 (pq := 80) rfl ?_
      refine wb_istore (loc' := [(5, .int q_10), (0, .ref (G.1 0)), (2, .int x2), (3, .int x3), (4, .int x4)]) hX hN dX10_reach_80 (by decide) rfl (pq := 82) rfl ?_
      refine wb_iload_n 2 hX dX10_reach_82 rfl (pq := 83) rfl ?_
      refine wb_iload 0 hX dX10_reach_83 rfl (pq := 85) rfl ?_
      refine wb_if_ne (tgt := 92) hX dX10_reach_85 (by decide) (pq := 88) rfl (fun c_11 => ?_) (fun c_11 => ?_)
      · have h := ite_t c_11 h
        refine wb_iconst (v := iI (1)) hX dX10_reach_88 rfl (pq := 89) rfl ?_
        refine wb_goto (tgt := 93) hX dX10_reach_89 (by decide) ?_
        refine wb_sub [1, 3, 4, 0] (loc' := [(0, .ref (G.1 0)), (3, .int x3), (4, .int x4), (5, .int q_10)]) rfl ?_
        exact tW_reach_J93 hX hQ hN hk44 h
      · have h := ite_f c_11 h
        refine wb_iconst (v := iI (0)) hX dX10_reach_92 rfl (pq := 93) rfl ?_
        refine wb_sub [1, 3, 4, 0] (loc' := [(0, .ref (G.1 0)), (3, .int x3), (4, .int x4), (5, .int q_10)]) rfl ?_
        exact tW_reach_J93 hX hQ hN hk44 h
set_option maxHeartbeats 4000000 in
set_option maxRecDepth 100000 in
theorem tW_reach {l : Launch} {G : wG} {s : wM} {x1 : Int32} {r0 : Int32} {s1 : wM} (h : fW_reach s x1 = some (r0, s1)) : wMet l G yX10_reach cX10_reach 6 (some .int) 4 [.ref (G.1 0), .int x1] s (wQi G r0 s1) := by
  refine wMet_of (own := RX10) (by decide +kernel) rfl (Nat.le_of_ble_eq_true rfl) ?_
  intro X hX hQ hN hl
  show WB G X 0 [(0, .ref (G.1 0)), (1, .int x1)] [] s
  unfold fW_reach at h
  refine wb_iload_n 1 hX dX10_reach_0 rfl (pq := 1) rfl ?_
  refine wb_iconst (v := iI (0)) hX dX10_reach_1 rfl (pq := 2) rfl ?_
  refine wb_iconst (v := iI (4)) hX dX10_reach_2 rfl (pq := 3) rfl ?_
  obtain ⟨q_2, hc_1, h⟩ := bind_s h
  refine wb_callSi (r0 := q_2) (s1 := s) [.int x1, .int (iI (0)), .int (iI (4))] hX ml_467 (tW_isWithin hc_1) (by decide) rfl rfl (Nat.le_of_ble_eq_true rfl) dX10_reach_3 (pq := 6) rfl ?_
  refine wb_if_ne (tgt := 11) hX dX10_reach_6 (by decide) (pq := 9) rfl (fun c_3 => ?_) (fun c_3 => ?_)
  · have h := ite_t c_3 h
    refine wb_iconst (v := iI (-1)) hX dX10_reach_9 rfl (pq := 10) rfl ?_
    exact wb_iret hX hQ h dX10_reach_10
  · have h := ite_f c_3 h
    refine wb_aload_n 0 hX dX10_reach_11 rfl (pq := 12) rfl ?_
    obtain ⟨q_5, hc_4, h⟩ := bind_s h
    refine wb_callVv (s1 := q_5) [] hX sh_0 ml_651 (tW_prepareSearch hc_4) (by decide) rfl rfl (Nat.le_of_ble_eq_true rfl) dX10_reach_12 (pq := 15) rfl ?_
    refine wb_aload_n 0 hX dX10_reach_15 rfl (pq := 16) rfl ?_
    refine wb_getR hX fl_335 sh_0 rfl dX10_reach_16 (pq := 19) rfl ?_
    refine wb_aload_n 0 hX dX10_reach_19 rfl (pq := 20) rfl ?_
    refine wb_getR hX fl_334 sh_0 rfl dX10_reach_20 (pq := 23) rfl ?_
    obtain ⟨q_7, hc_6, h⟩ := bind_s h
    refine wb_callVl (r0 := q_7) (s1 := q_5) [] hX sh_13 ml_725 (tAh_pack hc_6) (by decide) rfl rfl (Nat.le_of_ble_eq_true rfl) dX10_reach_23 (pq := 26) rfl ?_
    refine wb_iload_n 1 hX dX10_reach_26 rfl (pq := 27) rfl ?_
    obtain ⟨q_9, hc_8, h⟩ := bind_s h
    refine wb_callVi (r0 := q_9.1) (s1 := q_9.2) [.long q_7, .int x1] hX sh_23 ml_726 (tSe_findWithin hc_8) (by decide) rfl rfl (Nat.le_of_ble_eq_true rfl) dX10_reach_27 (pq := 30) rfl ?_
    refine wb_if_ne (tgt := 36) hX dX10_reach_30 (by decide) (pq := 33) rfl (fun c_10 => ?_) (fun c_10 => ?_)
    · have h := ite_t c_10 h
      refine wb_bipush (v := iI (-3)) hX dX10_reach_33 (by decide) (pq := 35) rfl ?_
      exact wb_iret hX hQ h dX10_reach_35
    · have h := ite_f c_10 h
      refine wb_iconst (v := iI (0)) hX dX10_reach_36 rfl (pq := 37) rfl ?_
      refine wb_istore_n (loc' := [(2, .int (iI (0))), (0, .ref (G.1 0)), (1, .int x1)]) hX hN dX10_reach_37 (by decide) rfl (pq := 38) rfl ?_
      refine wb_bipush (v := iI (36)) hX dX10_reach_38 (by decide) (pq := 40) rfl ?_
      refine wb_istore_n (loc' := [(3, .int (iI (36))), (2, .int (iI (0))), (0, .ref (G.1 0)), (1, .int x1)]) hX hN dX10_reach_40 (by decide) rfl (pq := 41) rfl ?_
      refine wb_iconst (v := iI (0)) hX dX10_reach_41 rfl (pq := 42) rfl ?_
      refine wb_istore (loc' := [(4, .int (iI (0))), (3, .int (iI (36))), (2, .int (iI (0))), (0, .ref (G.1 0)), (1, .int x1)]) hX hN dX10_reach_42 (by decide) rfl (pq := 44) rfl ?_
      refine wb_sub [3, 2, 1, 0] (loc' := [(0, .ref (G.1 0)), (2, .int (iI (0))), (3, .int (iI (36))), (4, .int (iI (0)))]) rfl ?_
      exact tW_reach_L44 hX hQ hN 100000 _ _ _ _ h
set_option maxHeartbeats 4000000 in
set_option maxRecDepth 100000 in
theorem tW_selfish {l : Launch} {G : wG} {s : wM} {x1 : Int32} {r0 : Int32} {s1 : wM} (h : fW_selfish s x1 = some (r0, s1)) : wMet l G yX10_selfish cX10_selfish 3 (some .int) 4 [.ref (G.1 0), .int x1] s (wQi G r0 s1) := by
  refine wMet_of (own := RX10) (by decide +kernel) rfl (Nat.le_of_ble_eq_true rfl) ?_
  intro X hX hQ hN hl
  show WB G X 0 [(0, .ref (G.1 0)), (1, .int x1)] [] s
  unfold fW_selfish at h
  refine wb_aload_n 0 hX dX10_selfish_0 rfl (pq := 1) rfl ?_
  refine wb_getR hX fl_333 sh_0 rfl dX10_selfish_1 (pq := 4) rfl ?_
  refine wb_iload_n 1 hX dX10_selfish_4 rfl (pq := 5) rfl ?_
  obtain ⟨q_2, hc_1, h⟩ := bind_s h
  refine wb_callVi (r0 := q_2) (s1 := s) [.int x1] hX sh_7 ml_478 (tLand_has hc_1) (by decide) rfl rfl (Nat.le_of_ble_eq_true rfl) dX10_selfish_5 (pq := 8) rfl ?_
  refine wb_if_ne (tgt := 14) hX dX10_selfish_8 (by decide) (pq := 11) rfl (fun c_3 => ?_) (fun c_3 => ?_)
  · have h := ite_t c_3 h
    refine wb_bipush (v := iI (-2)) hX dX10_selfish_11 (by decide) (pq := 13) rfl ?_
    exact wb_iret hX hQ h dX10_selfish_13
  · have h := ite_f c_3 h
    refine wb_aload_n 0 hX dX10_selfish_14 rfl (pq := 15) rfl ?_
    refine wb_getR hX fl_333 sh_0 rfl dX10_selfish_15 (pq := 18) rfl ?_
    refine wb_iload_n 1 hX dX10_selfish_18 rfl (pq := 19) rfl ?_
    obtain ⟨q_5, hc_4, h⟩ := bind_s h
    refine wb_callVi (r0 := q_5.1) (s1 := q_5.2) [.int x1] hX sh_7 ml_735 (tLand_bestFor hc_4) (by decide) rfl rfl (Nat.le_of_ble_eq_true rfl) dX10_selfish_19 (pq := 22) rfl ?_
    refine wb_istore_n (loc' := [(2, .int q_5.1), (0, .ref (G.1 0)), (1, .int x1)]) hX hN dX10_selfish_22 (by decide) rfl (pq := 23) rfl ?_
    refine wb_aload_n 1 hX dX10_selfish_23 rfl (pq := 24) rfl ?_
    refine wb_getR hX fl_337 sh_0 rfl dX10_selfish_24 (pq := 27) rfl ?_
    refine wb_aload_n 1 hX dX10_selfish_27 rfl (pq := 28) rfl ?_
    refine wb_getR hX fl_333 sh_0 rfl dX10_selfish_28 (pq := 31) rfl ?_
    refine wb_iload_n 2 hX dX10_selfish_31 rfl (pq := 32) rfl ?_
    refine wb_iload_n 0 hX dX10_selfish_32 rfl (pq := 33) rfl ?_
    obtain ⟨q_7, hc_6, h⟩ := bind_s h
    refine wb_callVi (r0 := q_7.1) (s1 := q_7.2) [.int x1, .int q_5.1] hX sh_7 ml_752 (tLand_evensAfter hc_6) (by decide) rfl rfl (Nat.le_of_ble_eq_true rfl) dX10_selfish_33 (pq := 36) rfl ?_
    obtain ⟨q_9, hc_8, h⟩ := bind_s h
    refine wb_callVv (s1 := q_9) [.int q_7.1] hX sh_32 ml_539 (tNum_tell hc_8) (by decide) rfl rfl (Nat.le_of_ble_eq_true rfl) dX10_selfish_36 (pq := 39) rfl ?_
    refine wb_iload_n 0 hX dX10_selfish_39 rfl (pq := 40) rfl ?_
    exact wb_iret hX hQ h dX10_selfish_40
set_option maxHeartbeats 4000000 in
set_option maxRecDepth 100000 in
theorem tW_carryRound_J40 {G : wG} {X : wX} {k4 : Int32 → Int32 → wM → Option (Int32 × wM)} {x1 : Int32} {x2 : Int32} {s : wM} {r0 : Int32} {s1 : wM} (hX : wOK G X cX10_carryRound RX10 (some .boolean) 4) (hQ : wRt G X (wQi G r0 s1)) (hN : wNl X = 4) (hk4 : ∀ (x1 : Int32) (x2 : Int32) (s : wM), k4 x1 x2 s = some (r0, s1) → WB G X 4 [(0, .ref (G.1 0)), (1, .int x1), (2, .int x2)] [] s) (h : fW_carryRound_J40 k4 x1 x2 s = some (r0, s1)) : WB G X 40 [(0, .ref (G.1 0)), (1, .int x1), (2, .int x2)] [] s := by
  unfold fW_carryRound_J40 at h
  refine wb_iinc (v := (x2 + iI (1))) (loc' := [(2, .int (x2 + iI (1))), (0, .ref (G.1 0)), (1, .int x1)]) 2 hX hN dX10_carryRound_40 rfl rfl (by decide) rfl (pq := 43) rfl ?_
  refine wb_goto (tgt := 4) hX dX10_carryRound_43 (by decide) ?_
  refine wb_sub [1, 2, 0] (loc' := [(0, .ref (G.1 0)), (1, .int x1), (2, .int (x2 + iI (1)))]) rfl ?_
  exact hk4 _ _ _ h
set_option maxHeartbeats 4000000 in
set_option maxRecDepth 100000 in
theorem tW_carryRound_L4 {G : wG} {X : wX} {r0 : Int32} {s1 : wM} (hX : wOK G X cX10_carryRound RX10 (some .boolean) 4) (hQ : wRt G X (wQi G r0 s1)) (hN : wNl X = 4) : ∀ (n : Nat) (x1 : Int32) (x2 : Int32) (s : wM), wh3 (fW_carryRound_L4) n x1 x2 s = some (r0, s1) → WB G X 4 [(0, .ref (G.1 0)), (1, .int x1), (2, .int x2)] [] s := by
  intro n
  induction n with
  | zero => intro x1 x2 s h; cases h
  | succ n hk4 =>
    intro x1 x2 s h
    have h : fW_carryRound_L4 x1 x2 s (wh3 (fW_carryRound_L4) n) = some (r0, s1) := h
    unfold fW_carryRound_L4 at h
    refine wb_iload_n 2 hX dX10_carryRound_4 rfl (pq := 5) rfl ?_
    refine wb_aload_n 0 hX dX10_carryRound_5 rfl (pq := 6) rfl ?_
    refine wb_getR hX fl_333 sh_0 rfl dX10_carryRound_6 (pq := 9) rfl ?_
    refine wb_getI hX fl_109 sh_7 rfl dX10_carryRound_9 (pq := 12) rfl ?_
    refine wb_icmp_ge (tgt := 46) hX dX10_carryRound_12 (by decide) (fun c_1 => ?_) (pq := 15) rfl (fun c_1 => ?_)
    · have h := ite_t c_1 h
      refine wb_iload_n 1 hX dX10_carryRound_46 rfl (pq := 47) rfl ?_
      obtain ⟨hz_2, h⟩ := chkZ_some h
      exact wb_zret hX hQ h hz_2.1 dX10_carryRound_47
    · have h := ite_f c_1 h
      refine wb_aload_n 0 hX dX10_carryRound_15 rfl (pq := 16) rfl ?_
      refine wb_getR hX fl_333 sh_0 rfl dX10_carryRound_16 (pq := 19) rfl ?_
      refine wb_iload_n 2 hX dX10_carryRound_19 rfl (pq := 20) rfl ?_
      obtain ⟨q_4, hc_3, h⟩ := bind_s h
      refine wb_callVi (r0 := q_4.1) (s1 := q_4.2) [.int x2] hX sh_7 ml_735 (tLand_bestFor hc_3) (by decide) rfl rfl (Nat.le_of_ble_eq_true rfl) dX10_carryRound_20 (pq := 23) rfl ?_
      refine wb_istore_n (loc' := [(3, .int q_4.1), (0, .ref (G.1 0)), (1, .int x1), (2, .int x2)]) hX hN dX10_carryRound_23 (by decide) rfl (pq := 24) rfl ?_
      refine wb_iload_n 0 hX dX10_carryRound_24 rfl (pq := 25) rfl ?_
      refine wb_iconst (v := iI (-1)) hX dX10_carryRound_25 rfl (pq := 26) rfl ?_
      refine wb_icmp_eq (tgt := 40) hX dX10_carryRound_26 (by decide) (fun c_5 => ?_) (pq := 29) rfl (fun c_5 => ?_)
      · have h := ite_t c_5 h
        refine wb_sub [1, 2, 3] (loc' := [(0, .ref (G.1 0)), (1, .int x1), (2, .int x2)]) rfl ?_
        exact tW_carryRound_J40 hX hQ hN hk4 h
      · have h := ite_f c_5 h
        refine wb_aload_n 1 hX dX10_carryRound_29 rfl (pq := 30) rfl ?_
        refine wb_getR hX fl_333 sh_0 rfl dX10_carryRound_30 (pq := 33) rfl ?_
        refine wb_iload_n 3 hX dX10_carryRound_33 rfl (pq := 34) rfl ?_
        refine wb_iload_n 0 hX dX10_carryRound_34 rfl (pq := 35) rfl ?_
        obtain ⟨q_7, hc_6, h⟩ := bind_s h
        refine wb_callVv (s1 := q_7) [.int x2, .int q_4.1] hX sh_7 ml_523 (tLand_bring hc_6) (by decide) rfl rfl (Nat.le_of_ble_eq_true rfl) dX10_carryRound_35 (pq := 38) rfl ?_
        refine wb_iconst (v := iI (1)) hX dX10_carryRound_38 rfl (pq := 39) rfl ?_
        refine wb_istore_n (loc' := [(1, .int (iI (1))), (3, .int q_4.1), (0, .ref (G.1 0)), (2, .int x2)]) hX hN dX10_carryRound_39 (by decide) rfl (pq := 40) rfl ?_
        refine wb_sub [2, 0, 3] (loc' := [(0, .ref (G.1 0)), (1, .int (iI (1))), (2, .int x2)]) rfl ?_
        exact tW_carryRound_J40 hX hQ hN hk4 h
set_option maxHeartbeats 4000000 in
set_option maxRecDepth 100000 in
theorem tW_carryRound {l : Launch} {G : wG} {s : wM} {r0 : Int32} {s1 : wM} (h : fW_carryRound s = some (r0, s1)) : wMet l G yX10_carryRound cX10_carryRound 4 (some .boolean) 4 [.ref (G.1 0)] s (wQi G r0 s1) := by
  refine wMet_of (own := RX10) (by decide +kernel) rfl (Nat.le_of_ble_eq_true rfl) ?_
  intro X hX hQ hN hl
  show WB G X 0 [(0, .ref (G.1 0))] [] s
  unfold fW_carryRound at h
  refine wb_iconst (v := iI (0)) hX dX10_carryRound_0 rfl (pq := 1) rfl ?_
  refine wb_istore_n (loc' := [(1, .int (iI (0))), (0, .ref (G.1 0))]) hX hN dX10_carryRound_1 (by decide) rfl (pq := 2) rfl ?_
  refine wb_iconst (v := iI (0)) hX dX10_carryRound_2 rfl (pq := 3) rfl ?_
  refine wb_istore_n (loc' := [(2, .int (iI (0))), (1, .int (iI (0))), (0, .ref (G.1 0))]) hX hN dX10_carryRound_3 (by decide) rfl (pq := 4) rfl ?_
  refine wb_sub [2, 1, 0] (loc' := [(0, .ref (G.1 0)), (1, .int (iI (0))), (2, .int (iI (0)))]) rfl ?_
  exact tW_carryRound_L4 hX hQ hN 100000 _ _ _ h
set_option maxHeartbeats 4000000 in
set_option maxRecDepth 100000 in
theorem tW_rests_J66 {G : wG} {X : wX} {k30 : Int32 → Int32 → Int32 → wM → Option (Int32 × wM)} {x1 : Int32} {x2 : Int32} {x4 : Int32} {v0 : Int32} {s : wM} {r0 : Int32} {s1 : wM} (hX : wOK G X cX10_rests RX10 (some .int) 5) (hQ : wRt G X (wQi G r0 s1)) (hN : wNl X = 5) (hk30 : ∀ (x2 : Int32) (x3 : Int32) (x4 : Int32) (s : wM), k30 x2 x3 x4 s = some (r0, s1) → WB G X 30 [(0, .ref (G.1 0)), (1, .int x1), (2, .int x2), (3, .int x3), (4, .int x4)] [] s) (h : fW_rests_J66 k30 x1 x2 x4 v0 s = some (r0, s1)) : WB G X 66 [(0, .ref (G.1 0)), (1, .int x1), (2, .int x2), (4, .int x4)] [.int v0] s := by
  unfold fW_rests_J66 at h
  refine wb_istore_n (loc' := [(3, .int v0), (0, .ref (G.1 0)), (1, .int x1), (2, .int x2), (4, .int x4)]) hX hN dX10_rests_66 (by decide) rfl (pq := 67) rfl ?_
  refine wb_iinc (v := (x4 + iI (1))) (loc' := [(4, .int (x4 + iI (1))), (3, .int v0), (0, .ref (G.1 0)), (1, .int x1), (2, .int x2)]) 4 hX hN dX10_rests_67 rfl rfl (by decide) rfl (pq := 70) rfl ?_
  refine wb_goto (tgt := 30) hX dX10_rests_70 (by decide) ?_
  refine wb_sub [2, 3, 4, 1, 0] (loc' := [(0, .ref (G.1 0)), (1, .int x1), (2, .int x2), (3, .int v0), (4, .int (x4 + iI (1)))]) rfl ?_
  exact hk30 _ _ _ _ h
set_option maxHeartbeats 4000000 in
set_option maxRecDepth 100000 in
theorem tW_rests_J61 {G : wG} {X : wX} {k30 : Int32 → Int32 → Int32 → wM → Option (Int32 × wM)} {x1 : Int32} {x2 : Int32} {x4 : Int32} {s : wM} {r0 : Int32} {s1 : wM} (hX : wOK G X cX10_rests RX10 (some .int) 5) (hQ : wRt G X (wQi G r0 s1)) (hN : wNl X = 5) (hk30 : ∀ (x2 : Int32) (x3 : Int32) (x4 : Int32) (s : wM), k30 x2 x3 x4 s = some (r0, s1) → WB G X 30 [(0, .ref (G.1 0)), (1, .int x1), (2, .int x2), (3, .int x3), (4, .int x4)] [] s) (h : fW_rests_J61 k30 x1 x2 x4 s = some (r0, s1)) : WB G X 61 [(0, .ref (G.1 0)), (1, .int x1), (2, .int x2), (4, .int x4)] [] s := by
  unfold fW_rests_J61 at h
  refine wb_iconst (v := iI (1)) hX dX10_rests_61 rfl (pq := 62) rfl ?_
  refine wb_goto (tgt := 66) hX dX10_rests_62 (by decide) ?_
  exact tW_rests_J66 hX hQ hN hk30 h
set_option maxHeartbeats 4000000 in
set_option maxRecDepth 100000 in
theorem tW_rests_J52 {G : wG} {X : wX} {k30 : Int32 → Int32 → Int32 → wM → Option (Int32 × wM)} {x1 : Int32} {x3 : Int32} {x4 : Int32} {v0 : Int32} {s : wM} {r0 : Int32} {s1 : wM} (hX : wOK G X cX10_rests RX10 (some .int) 5) (hQ : wRt G X (wQi G r0 s1)) (hN : wNl X = 5) (hk30 : ∀ (x2 : Int32) (x3 : Int32) (x4 : Int32) (s : wM), k30 x2 x3 x4 s = some (r0, s1) → WB G X 30 [(0, .ref (G.1 0)), (1, .int x1), (2, .int x2), (3, .int x3), (4, .int x4)] [] s) (h : fW_rests_J52 k30 x1 x3 x4 v0 s = some (r0, s1)) : WB G X 52 [(0, .ref (G.1 0)), (1, .int x1), (3, .int x3), (4, .int x4)] [.int v0] s := by
  unfold fW_rests_J52 at h
  refine wb_istore_n (loc' := [(2, .int v0), (0, .ref (G.1 0)), (1, .int x1), (3, .int x3), (4, .int x4)]) hX hN dX10_rests_52 (by decide) rfl (pq := 53) rfl ?_
  refine wb_iload_n 3 hX dX10_rests_53 rfl (pq := 54) rfl ?_
  refine wb_if_ne (tgt := 61) hX dX10_rests_54 (by decide) (pq := 57) rfl (fun c_1 => ?_) (fun c_1 => ?_)
  · have h := ite_t c_1 h
    refine wb_iload_n 0 hX dX10_rests_57 rfl (pq := 58) rfl ?_
    refine wb_if_ne (tgt := 65) hX dX10_rests_58 (by decide) (pq := 61) rfl (fun c_2 => ?_) (fun c_2 => ?_)
    · have h := ite_t c_2 h
      refine wb_sub [1, 2, 0, 4] (loc' := [(0, .ref (G.1 0)), (1, .int x1), (2, .int v0), (4, .int x4)]) rfl ?_
      exact tW_rests_J61 hX hQ hN hk30 h
    · have h := ite_f c_2 h
      refine wb_iconst (v := iI (0)) hX dX10_rests_65 rfl (pq := 66) rfl ?_
      refine wb_sub [1, 2, 0, 4] (loc' := [(0, .ref (G.1 0)), (1, .int x1), (2, .int v0), (4, .int x4)]) rfl ?_
      exact tW_rests_J66 hX hQ hN hk30 h
  · have h := ite_f c_1 h
    refine wb_sub [1, 2, 0, 4] (loc' := [(0, .ref (G.1 0)), (1, .int x1), (2, .int v0), (4, .int x4)]) rfl ?_
    exact tW_rests_J61 hX hQ hN hk30 h
set_option maxHeartbeats 4000000 in
set_option maxRecDepth 100000 in
theorem tW_rests_J108 {G : wG} {X : wX} {x4 : Int32} {v0 : Int32} {s : wM} {r0 : Int32} {s1 : wM} (hX : wOK G X cX10_rests RX10 (some .int) 5) (hQ : wRt G X (wQi G r0 s1)) (hN : wNl X = 5) (h : fW_rests_J108 x4 v0 s = some (r0, s1)) : WB G X 108 [(0, .ref (G.1 0)), (4, .int x4)] [.int v0, .ref (G.1 32)] s := by
  unfold fW_rests_J108 at h
  obtain ⟨q_2, hc_1, h⟩ := bind_s h
  refine wb_callVv (s1 := q_2) [.int v0] hX sh_32 ml_539 (tNum_tell hc_1) (by decide) rfl rfl (Nat.le_of_ble_eq_true rfl) dX10_rests_108 (pq := 111) rfl ?_
  refine wb_aload_n 0 hX dX10_rests_111 rfl (pq := 112) rfl ?_
  refine wb_getR hX fl_337 sh_0 rfl dX10_rests_112 (pq := 115) rfl ?_
  refine wb_aload_n 0 hX dX10_rests_115 rfl (pq := 116) rfl ?_
  refine wb_getR hX fl_334 sh_0 rfl dX10_rests_116 (pq := 119) rfl ?_
  obtain ⟨q_4, hc_3, h⟩ := bind_s h
  refine wb_callVi (r0 := q_4) (s1 := q_2) [] hX sh_13 ml_604 (tAh_evenPairs hc_3) (by decide) rfl rfl (Nat.le_of_ble_eq_true rfl) dX10_rests_119 (pq := 122) rfl ?_
  obtain ⟨q_6, hc_5, h⟩ := bind_s h
  refine wb_callVv (s1 := q_6) [.int q_4] hX sh_32 ml_608 (tNum_add hc_5) (by decide) rfl rfl (Nat.le_of_ble_eq_true rfl) dX10_rests_122 (pq := 125) rfl ?_
  refine wb_iload 1 hX dX10_rests_125 rfl (pq := 127) rfl ?_
  exact wb_iret hX hQ h dX10_rests_127
set_option maxHeartbeats 4000000 in
set_option maxRecDepth 100000 in
theorem tW_rests_J84 {G : wG} {X : wX} {x2 : Int32} {x4 : Int32} {s : wM} {r0 : Int32} {s1 : wM} (hX : wOK G X cX10_rests RX10 (some .int) 5) (hQ : wRt G X (wQi G r0 s1)) (hN : wNl X = 5) (h : fW_rests_J84 x2 x4 s = some (r0, s1)) : WB G X 84 [(0, .ref (G.1 0)), (2, .int x2), (4, .int x4)] [] s := by
  unfold fW_rests_J84 at h
  refine wb_aload_n 0 hX dX10_rests_84 rfl (pq := 85) rfl ?_
  refine wb_getR hX fl_334 sh_0 rfl dX10_rests_85 (pq := 88) rfl ?_
  refine wb_aload_n 0 hX dX10_rests_88 rfl (pq := 89) rfl ?_
  refine wb_getR hX fl_333 sh_0 rfl dX10_rests_89 (pq := 92) rfl ?_
  obtain ⟨q_2, hc_1, h⟩ := bind_s h
  refine wb_callVv (s1 := q_2) [.ref (G.1 7)] hX sh_13 ml_567 (tAh_look hc_1) (by decide) rfl rfl (Nat.le_of_ble_eq_true rfl) dX10_rests_92 (pq := 95) rfl ?_
  refine wb_aload_n 0 hX dX10_rests_95 rfl (pq := 96) rfl ?_
  refine wb_getR hX fl_337 sh_0 rfl dX10_rests_96 (pq := 99) rfl ?_
  refine wb_iload_n 1 hX dX10_rests_99 rfl (pq := 100) rfl ?_
  refine wb_if_eq (tgt := 107) hX dX10_rests_100 (by decide) (fun c_3 => ?_) (pq := 103) rfl (fun c_3 => ?_)
  · have h := ite_t c_3 h
    refine wb_iconst (v := iI (0)) hX dX10_rests_107 rfl (pq := 108) rfl ?_
    refine wb_sub [0, 2] (loc' := [(0, .ref (G.1 0)), (4, .int x4)]) rfl ?_
    exact tW_rests_J108 hX hQ hN h
  · have h := ite_f c_3 h
    refine wb_iconst (v := iI (1)) hX dX10_rests_103 rfl (pq := 104) rfl ?_
    refine wb_goto (tgt := 108) hX dX10_rests_104 (by decide) ?_
    refine wb_sub [0, 2] (loc' := [(0, .ref (G.1 0)), (4, .int x4)]) rfl ?_
    exact tW_rests_J108 hX hQ hN h
set_option maxHeartbeats 4000000 in
set_option maxRecDepth 100000 in
theorem tW_rests_J73 {G : wG} {X : wX} {x2 : Int32} {x3 : Int32} {x4 : Int32} {s : wM} {r0 : Int32} {s1 : wM} (hX : wOK G X cX10_rests RX10 (some .int) 5) (hQ : wRt G X (wQi G r0 s1)) (hN : wNl X = 5) (h : fW_rests_J73 x2 x3 x4 s = some (r0, s1)) : WB G X 73 [(0, .ref (G.1 0)), (2, .int x2), (3, .int x3), (4, .int x4)] [] s := by
  unfold fW_rests_J73 at h
  refine wb_iload_n 2 hX dX10_rests_73 rfl (pq := 74) rfl ?_
  refine wb_if_eq (tgt := 84) hX dX10_rests_74 (by decide) (fun c_1 => ?_) (pq := 77) rfl (fun c_1 => ?_)
  · have h := ite_t c_1 h
    refine wb_sub [0, 1, 3] (loc' := [(0, .ref (G.1 0)), (2, .int x2), (4, .int x4)]) rfl ?_
    exact tW_rests_J84 hX hQ hN h
  · have h := ite_f c_1 h
    refine wb_aload_n 0 hX dX10_rests_77 rfl (pq := 78) rfl ?_
    refine wb_getR hX fl_338 sh_0 rfl dX10_rests_78 (pq := 81) rfl ?_
    obtain ⟨q_3, hc_2, h⟩ := bind_s h
    refine wb_callVv (s1 := q_3) [] hX sh_34 ml_518 (tPa_keepNoted hc_2) (by decide) rfl rfl (Nat.le_of_ble_eq_true rfl) dX10_rests_81 (pq := 84) rfl ?_
    refine wb_sub [0, 1, 3] (loc' := [(0, .ref (G.1 0)), (2, .int x2), (4, .int x4)]) rfl ?_
    exact tW_rests_J84 hX hQ hN h
set_option maxHeartbeats 4000000 in
set_option maxRecDepth 100000 in
theorem tW_rests_L30 {G : wG} {X : wX} {x1 : Int32} {r0 : Int32} {s1 : wM} (hX : wOK G X cX10_rests RX10 (some .int) 5) (hQ : wRt G X (wQi G r0 s1)) (hN : wNl X = 5) : ∀ (n : Nat) (x2 : Int32) (x3 : Int32) (x4 : Int32) (s : wM), wh4 (fW_rests_L30 x1) n x2 x3 x4 s = some (r0, s1) → WB G X 30 [(0, .ref (G.1 0)), (1, .int x1), (2, .int x2), (3, .int x3), (4, .int x4)] [] s := by
  intro n
  induction n with
  | zero => intro x2 x3 x4 s h; cases h
  | succ n hk30 =>
    intro x2 x3 x4 s h
    have h : fW_rests_L30 x1 x2 x3 x4 s (wh4 (fW_rests_L30 x1) n) = some (r0, s1) := h
    unfold fW_rests_L30 at h
    refine wb_iload 4 hX dX10_rests_30 rfl (pq := 32) rfl ?_
    refine wb_iload_n 1 hX dX10_rests_32 rfl (pq := 33) rfl ?_
    refine wb_icmp_ge (tgt := 73) hX dX10_rests_33 (by decide) (fun c_1 => ?_) (pq := 36) rfl (fun c_1 => ?_)
    · have h := ite_t c_1 h
      refine wb_sub [0, 2, 3, 4] (loc' := [(0, .ref (G.1 0)), (2, .int x2), (3, .int x3), (4, .int x4)]) rfl ?_
      exact tW_rests_J73 hX hQ hN h
    · have h := ite_f c_1 h
      refine wb_iload_n 2 hX dX10_rests_36 rfl (pq := 37) rfl ?_
      refine wb_if_ne (tgt := 73) hX dX10_rests_37 (by decide) (pq := 40) rfl (fun c_2 => ?_) (fun c_2 => ?_)
      · have h := ite_t c_2 h
        refine wb_aload_n 0 hX dX10_rests_40 rfl (pq := 41) rfl ?_
        obtain ⟨q_4, hc_3, h⟩ := bind_s h
        refine wb_callVi (r0 := q_4.1) (s1 := q_4.2) [] hX sh_0 ml_757 (tW_carryRound hc_3) (by decide) rfl rfl (Nat.le_of_ble_eq_true rfl) dX10_rests_41 (pq := 44) rfl ?_
        refine wb_if_ne (tgt := 51) hX dX10_rests_44 (by decide) (pq := 47) rfl (fun c_5 => ?_) (fun c_5 => ?_)
        · have h := ite_t c_5 h
          refine wb_iconst (v := iI (1)) hX dX10_rests_47 rfl (pq := 48) rfl ?_
          refine wb_goto (tgt := 52) hX dX10_rests_48 (by decide) ?_
          refine wb_sub [0, 1, 3, 4] (loc' := [(0, .ref (G.1 0)), (1, .int x1), (3, .int x3), (4, .int x4)]) rfl ?_
          exact tW_rests_J52 hX hQ hN hk30 h
        · have h := ite_f c_5 h
          refine wb_iconst (v := iI (0)) hX dX10_rests_51 rfl (pq := 52) rfl ?_
          refine wb_sub [0, 1, 3, 4] (loc' := [(0, .ref (G.1 0)), (1, .int x1), (3, .int x3), (4, .int x4)]) rfl ?_
          exact tW_rests_J52 hX hQ hN hk30 h
      · have h := ite_f c_2 h
        refine wb_sub [0, 2, 3, 4] (loc' := [(0, .ref (G.1 0)), (2, .int x2), (3, .int x3), (4, .int x4)]) rfl ?_
        exact tW_rests_J73 hX hQ hN h
set_option maxHeartbeats 4000000 in
set_option maxRecDepth 100000 in
theorem tW_rests {l : Launch} {G : wG} {s : wM} {x1 : Int32} {r0 : Int32} {s1 : wM} (h : fW_rests s x1 = some (r0, s1)) : wMet l G yX10_rests cX10_rests 5 (some .int) 5 [.ref (G.1 0), .int x1] s (wQi G r0 s1) := by
  refine wMet_of (own := RX10) (by decide +kernel) rfl (Nat.le_of_ble_eq_true rfl) ?_
  intro X hX hQ hN hl
  show WB G X 0 [(0, .ref (G.1 0)), (1, .int x1)] [] s
  unfold fW_rests at h
  refine wb_iload_n 1 hX dX10_rests_0 rfl (pq := 1) rfl ?_
  refine wb_iconst (v := iI (0)) hX dX10_rests_1 rfl (pq := 2) rfl ?_
  refine wb_bipush (v := iI (40)) hX dX10_rests_2 (by decide) (pq := 4) rfl ?_
  obtain ⟨q_2, hc_1, h⟩ := bind_s h
  refine wb_callSi (r0 := q_2) (s1 := s) [.int x1, .int (iI (0)), .int (iI (40))] hX ml_467 (tW_isWithin hc_1) (by decide) rfl rfl (Nat.le_of_ble_eq_true rfl) dX10_rests_4 (pq := 7) rfl ?_
  refine wb_if_ne (tgt := 12) hX dX10_rests_7 (by decide) (pq := 10) rfl (fun c_3 => ?_) (fun c_3 => ?_)
  · have h := ite_t c_3 h
    refine wb_iconst (v := iI (-1)) hX dX10_rests_10 rfl (pq := 11) rfl ?_
    exact wb_iret hX hQ h dX10_rests_11
  · have h := ite_f c_3 h
    refine wb_aload_n 0 hX dX10_rests_12 rfl (pq := 13) rfl ?_
    refine wb_getR hX fl_338 sh_0 rfl dX10_rests_13 (pq := 16) rfl ?_
    refine wb_aload_n 0 hX dX10_rests_16 rfl (pq := 17) rfl ?_
    refine wb_getR hX fl_333 sh_0 rfl dX10_rests_17 (pq := 20) rfl ?_
    obtain ⟨q_5, hc_4, h⟩ := bind_s h
    refine wb_callVv (s1 := q_5) [.ref (G.1 7)] hX sh_34 ml_507 (tPa_note hc_4) (by decide) rfl rfl (Nat.le_of_ble_eq_true rfl) dX10_rests_20 (pq := 23) rfl ?_
    refine wb_iconst (v := iI (0)) hX dX10_rests_23 rfl (pq := 24) rfl ?_
    refine wb_istore_n (loc' := [(2, .int (iI (0))), (0, .ref (G.1 0)), (1, .int x1)]) hX hN dX10_rests_24 (by decide) rfl (pq := 25) rfl ?_
    refine wb_iconst (v := iI (0)) hX dX10_rests_25 rfl (pq := 26) rfl ?_
    refine wb_istore_n (loc' := [(3, .int (iI (0))), (2, .int (iI (0))), (0, .ref (G.1 0)), (1, .int x1)]) hX hN dX10_rests_26 (by decide) rfl (pq := 27) rfl ?_
    refine wb_iconst (v := iI (0)) hX dX10_rests_27 rfl (pq := 28) rfl ?_
    refine wb_istore (loc' := [(4, .int (iI (0))), (3, .int (iI (0))), (2, .int (iI (0))), (0, .ref (G.1 0)), (1, .int x1)]) hX hN dX10_rests_28 (by decide) rfl (pq := 30) rfl ?_
    refine wb_sub [3, 4, 2, 1, 0] (loc' := [(0, .ref (G.1 0)), (1, .int x1), (2, .int (iI (0))), (3, .int (iI (0))), (4, .int (iI (0)))]) rfl ?_
    exact tW_rests_L30 hX hQ hN 100000 _ _ _ _ h
set_option maxHeartbeats 4000000 in
set_option maxRecDepth 100000 in
theorem tW_alter_J116 {G : wG} {X : wX} {k24 : Int32 → Option (Int32 × wM)} {x1 : Int32} {x2 : Int32} {x3 : Int32} {s : wM} {r0 : Int32} {s1 : wM} (hX : wOK G X cX10_alter RX10 (some .int) 2) (hQ : wRt G X (wQi G r0 s1)) (hN : wNl X = 6) (hk24 : ∀ (x3 : Int32), k24 x3 = some (r0, s1) → WB G X 24 [(0, .ref (G.1 0)), (1, .int x1), (2, .int x2), (3, .int x3)] [] s) (h : fW_alter_J116 k24 x1 x2 x3 s = some (r0, s1)) : WB G X 116 [(0, .ref (G.1 0)), (1, .int x1), (2, .int x2), (3, .int x3)] [] s := by
  unfold fW_alter_J116 at h
  refine wb_iinc (v := (x3 + iI (1))) (loc' := [(3, .int (x3 + iI (1))), (0, .ref (G.1 0)), (1, .int x1), (2, .int x2)]) 3 hX hN dX10_alter_116 rfl rfl (by decide) rfl (pq := 119) rfl ?_
  refine wb_goto (tgt := 24) hX dX10_alter_119 (by decide) ?_
  refine wb_sub [1, 2, 3, 0] (loc' := [(0, .ref (G.1 0)), (1, .int x1), (2, .int x2), (3, .int (x3 + iI (1)))]) rfl ?_
  exact hk24 _ h
set_option maxHeartbeats 4000000 in
set_option maxRecDepth 100000 in
theorem tW_alter_J85 {G : wG} {X : wX} {k24 : Int32 → Option (Int32 × wM)} {x1 : Int32} {x2 : Int32} {x3 : Int32} {x5 : Int32} {s : wM} {r0 : Int32} {s1 : wM} (hX : wOK G X cX10_alter RX10 (some .int) 2) (hQ : wRt G X (wQi G r0 s1)) (hN : wNl X = 6) (hk24 : ∀ (x3 : Int32), k24 x3 = some (r0, s1) → WB G X 24 [(0, .ref (G.1 0)), (1, .int x1), (2, .int x2), (3, .int x3)] [] s) (h : fW_alter_J85 k24 x1 x2 x3 x5 s = some (r0, s1)) : WB G X 85 [(0, .ref (G.1 0)), (1, .int x1), (2, .int x2), (3, .int x3), (5, .int x5)] [] s := by
  unfold fW_alter_J85 at h
  refine wb_iload 4 hX dX10_alter_85 rfl (pq := 87) rfl ?_
  refine wb_bipush (v := iI (99)) hX dX10_alter_87 (by decide) (pq := 89) rfl ?_
  refine wb_icmp_gt (tgt := 116) hX dX10_alter_89 (by decide) (fun c_1 => ?_) (pq := 92) rfl (fun c_1 => ?_)
  · have h := ite_t c_1 h
    refine wb_sub [0, 1, 2, 3] (loc' := [(0, .ref (G.1 0)), (1, .int x1), (2, .int x2), (3, .int x3)]) rfl ?_
    exact tW_alter_J116 hX hQ hN hk24 h
  · have h := ite_f c_1 h
    refine wb_aload_n 0 hX dX10_alter_92 rfl (pq := 93) rfl ?_
    refine wb_getR hX fl_333 sh_0 rfl dX10_alter_93 (pq := 96) rfl ?_
    refine wb_iload 4 hX dX10_alter_96 rfl (pq := 98) rfl ?_
    refine wb_iload_n 2 hX dX10_alter_98 rfl (pq := 99) rfl ?_
    obtain ⟨q_3, hc_2, h⟩ := bind_s h
    refine wb_callVi (r0 := q_3) (s1 := s) [.int x5, .int x2] hX sh_7 ml_769 (tLand_isFree hc_2) (by decide) rfl rfl (Nat.le_of_ble_eq_true rfl) dX10_alter_99 (pq := 102) rfl ?_
    refine wb_if_eq (tgt := 116) hX dX10_alter_102 (by decide) (fun c_4 => ?_) (pq := 105) rfl (fun c_4 => ?_)
    · have h := ite_t c_4 h
      refine wb_sub [0, 1, 2, 3] (loc' := [(0, .ref (G.1 0)), (1, .int x1), (2, .int x2), (3, .int x3)]) rfl ?_
      exact tW_alter_J116 hX hQ hN hk24 h
    · have h := ite_f c_4 h
      refine wb_aload_n 0 hX dX10_alter_105 rfl (pq := 106) rfl ?_
      refine wb_getR hX fl_337 sh_0 rfl dX10_alter_106 (pq := 109) rfl ?_
      refine wb_iload 4 hX dX10_alter_109 rfl (pq := 111) rfl ?_
      obtain ⟨q_6, hc_5, h⟩ := bind_s h
      refine wb_callVv (s1 := q_6) [.int x5] hX sh_32 ml_539 (tNum_tell hc_5) (by decide) rfl rfl (Nat.le_of_ble_eq_true rfl) dX10_alter_111 (pq := 114) rfl ?_
      refine wb_iload_n 3 hX dX10_alter_114 rfl (pq := 115) rfl ?_
      exact wb_iret hX hQ h dX10_alter_115
set_option maxHeartbeats 4000000 in
set_option maxRecDepth 100000 in
theorem tW_alter_L24 {G : wG} {X : wX} {x1 : Int32} {x2 : Int32} {s : wM} {r0 : Int32} {s1 : wM} (hX : wOK G X cX10_alter RX10 (some .int) 2) (hQ : wRt G X (wQi G r0 s1)) (hN : wNl X = 6) : ∀ (n : Nat) (x3 : Int32), wh1 (fW_alter_L24 x1 x2 s) n x3 = some (r0, s1) → WB G X 24 [(0, .ref (G.1 0)), (1, .int x1), (2, .int x2), (3, .int x3)] [] s := by
  intro n
  induction n with
  | zero => intro x3 h; cases h
  | succ n hk24 =>
    intro x3 h
    have h : fW_alter_L24 x1 x2 s x3 (wh1 (fW_alter_L24 x1 x2 s) n) = some (r0, s1) := h
    unfold fW_alter_L24 at h
    refine wb_iload_n 3 hX dX10_alter_24 rfl (pq := 25) rfl ?_
    refine wb_bipush (v := iI (99)) hX dX10_alter_25 (by decide) (pq := 27) rfl ?_
    refine wb_icmp_gt (tgt := 122) hX dX10_alter_27 (by decide) (fun c_1 => ?_) (pq := 30) rfl (fun c_1 => ?_)
    · have h := ite_t c_1 h
      refine wb_bipush (v := iI (-2)) hX dX10_alter_122 (by decide) (pq := 124) rfl ?_
      exact wb_iret hX hQ h dX10_alter_124
    · have h := ite_f c_1 h
      refine wb_aload_n 0 hX dX10_alter_30 rfl (pq := 31) rfl ?_
      refine wb_getR hX fl_333 sh_0 rfl dX10_alter_31 (pq := 34) rfl ?_
      refine wb_getR hX fl_91 sh_7 rfl dX10_alter_34 (pq := 37) rfl ?_
      refine wb_iload_n 1 hX dX10_alter_37 rfl (pq := 38) rfl ?_
      obtain ⟨hi_2, h⟩ := chk_some h
      refine wb_iald hX sh_8 hi_2 dX10_alter_38 (pq := 39) rfl ?_
      refine wb_iload_n 3 hX dX10_alter_39 rfl (pq := 40) rfl ?_
      refine wb_isub hX dX10_alter_40 (pq := 41) rfl ?_
      refine wb_istore (loc' := [(4, .int ((s.1 8 x1.toNatClampNeg) - x3)), (0, .ref (G.1 0)), (1, .int x1), (2, .int x2), (3, .int x3)]) hX hN dX10_alter_41 (by decide) rfl (pq := 43) rfl ?_
      refine wb_aload_n 1 hX dX10_alter_43 rfl (pq := 44) rfl ?_
      refine wb_getR hX fl_333 sh_0 rfl dX10_alter_44 (pq := 47) rfl ?_
      refine wb_getR hX fl_91 sh_7 rfl dX10_alter_47 (pq := 50) rfl ?_
      refine wb_iload_n 2 hX dX10_alter_50 rfl (pq := 51) rfl ?_
      refine wb_iald hX sh_8 hi_2 dX10_alter_51 (pq := 52) rfl ?_
      refine wb_iload_n 4 hX dX10_alter_52 rfl (pq := 53) rfl ?_
      refine wb_iadd hX dX10_alter_53 (pq := 54) rfl ?_
      refine wb_istore (loc' := [(5, .int ((s.1 8 x1.toNatClampNeg) + x3)), (4, .int ((s.1 8 x1.toNatClampNeg) - x3)), (0, .ref (G.1 0)), (1, .int x1), (2, .int x2), (3, .int x3)]) hX hN dX10_alter_54 (by decide) rfl (pq := 56) rfl ?_
      refine wb_iload 1 hX dX10_alter_56 rfl (pq := 58) rfl ?_
      refine wb_if_lt (tgt := 85) hX dX10_alter_58 (by decide) (fun c_3 => ?_) (pq := 61) rfl (fun c_3 => ?_)
      · have h := ite_t c_3 h
        refine wb_sub [2, 3, 4, 5, 0] (loc' := [(0, .ref (G.1 0)), (1, .int x1), (2, .int x2), (3, .int x3), (5, .int ((s.1 8 x1.toNatClampNeg) + x3))]) rfl ?_
        exact tW_alter_J85 hX hQ hN hk24 h
      · have h := ite_f c_3 h
        refine wb_aload_n 2 hX dX10_alter_61 rfl (pq := 62) rfl ?_
        refine wb_getR hX fl_333 sh_0 rfl dX10_alter_62 (pq := 65) rfl ?_
        refine wb_iload 1 hX dX10_alter_65 rfl (pq := 67) rfl ?_
        refine wb_iload_n 4 hX dX10_alter_67 rfl (pq := 68) rfl ?_
        obtain ⟨q_5, hc_4, h⟩ := bind_s h
        refine wb_callVi (r0 := q_5) (s1 := s) [.int ((s.1 8 x1.toNatClampNeg) - x3), .int x2] hX sh_7 ml_769 (tLand_isFree hc_4) (by decide) rfl rfl (Nat.le_of_ble_eq_true rfl) dX10_alter_68 (pq := 71) rfl ?_
        refine wb_if_eq (tgt := 85) hX dX10_alter_71 (by decide) (fun c_6 => ?_) (pq := 74) rfl (fun c_6 => ?_)
        · have h := ite_t c_6 h
          refine wb_sub [2, 3, 4, 5, 0] (loc' := [(0, .ref (G.1 0)), (1, .int x1), (2, .int x2), (3, .int x3), (5, .int ((s.1 8 x1.toNatClampNeg) + x3))]) rfl ?_
          exact tW_alter_J85 hX hQ hN hk24 h
        · have h := ite_f c_6 h
          refine wb_aload_n 2 hX dX10_alter_74 rfl (pq := 75) rfl ?_
          refine wb_getR hX fl_337 sh_0 rfl dX10_alter_75 (pq := 78) rfl ?_
          refine wb_iload 1 hX dX10_alter_78 rfl (pq := 80) rfl ?_
          obtain ⟨q_8, hc_7, h⟩ := bind_s h
          refine wb_callVv (s1 := q_8) [.int ((s.1 8 x1.toNatClampNeg) - x3)] hX sh_32 ml_539 (tNum_tell hc_7) (by decide) rfl rfl (Nat.le_of_ble_eq_true rfl) dX10_alter_80 (pq := 83) rfl ?_
          refine wb_iload_n 5 hX dX10_alter_83 rfl (pq := 84) rfl ?_
          exact wb_iret hX hQ h dX10_alter_84
set_option maxHeartbeats 4000000 in
set_option maxRecDepth 100000 in
theorem tW_alter {l : Launch} {G : wG} {s : wM} {x1 : Int32} {r0 : Int32} {s1 : wM} (h : fW_alter s x1 = some (r0, s1)) : wMet l G yX10_alter cX10_alter 6 (some .int) 2 [.ref (G.1 0), .int x1] s (wQi G r0 s1) := by
  refine wMet_of (own := RX10) (by decide +kernel) rfl (Nat.le_of_ble_eq_true rfl) ?_
  intro X hX hQ hN hl
  show WB G X 0 [(0, .ref (G.1 0)), (1, .int x1)] [] s
  unfold fW_alter at h
  refine wb_aload_n 0 hX dX10_alter_0 rfl (pq := 1) rfl ?_
  refine wb_getR hX fl_333 sh_0 rfl dX10_alter_1 (pq := 4) rfl ?_
  refine wb_iload_n 1 hX dX10_alter_4 rfl (pq := 5) rfl ?_
  obtain ⟨q_2, hc_1, h⟩ := bind_s h
  refine wb_callVi (r0 := q_2) (s1 := s) [.int x1] hX sh_7 ml_478 (tLand_has hc_1) (by decide) rfl rfl (Nat.le_of_ble_eq_true rfl) dX10_alter_5 (pq := 8) rfl ?_
  refine wb_if_ne (tgt := 13) hX dX10_alter_8 (by decide) (pq := 11) rfl (fun c_3 => ?_) (fun c_3 => ?_)
  · have h := ite_t c_3 h
    refine wb_iconst (v := iI (-1)) hX dX10_alter_11 rfl (pq := 12) rfl ?_
    exact wb_iret hX hQ h dX10_alter_12
  · have h := ite_f c_3 h
    refine wb_aload_n 0 hX dX10_alter_13 rfl (pq := 14) rfl ?_
    refine wb_getR hX fl_333 sh_0 rfl dX10_alter_14 (pq := 17) rfl ?_
    refine wb_iload_n 1 hX dX10_alter_17 rfl (pq := 18) rfl ?_
    obtain ⟨q_5, hc_4, h⟩ := bind_s h
    refine wb_callVi (r0 := q_5) (s1 := s) [.int x1] hX sh_7 ml_765 (tLand_touching hc_4) (by decide) rfl rfl (Nat.le_of_ble_eq_true rfl) dX10_alter_18 (pq := 21) rfl ?_
    refine wb_istore_n (loc' := [(2, .int q_5), (0, .ref (G.1 0)), (1, .int x1)]) hX hN dX10_alter_21 (by decide) rfl (pq := 22) rfl ?_
    refine wb_iconst (v := iI (0)) hX dX10_alter_22 rfl (pq := 23) rfl ?_
    refine wb_istore_n (loc' := [(3, .int (iI (0))), (2, .int q_5), (0, .ref (G.1 0)), (1, .int x1)]) hX hN dX10_alter_23 (by decide) rfl (pq := 24) rfl ?_
    refine wb_sub [2, 3, 1, 0] (loc' := [(0, .ref (G.1 0)), (1, .int x1), (2, .int q_5), (3, .int (iI (0)))]) rfl ?_
    exact tW_alter_L24 hX hQ hN 100000 _ h
set_option maxHeartbeats 4000000 in
set_option maxRecDepth 100000 in
theorem tW_fill_J21 {G : wG} {X : wX} {s : wM} {r0 : Int32} {s1 : wM} (hX : wOK G X cX10_fill RX10 (some .int) 5) (hQ : wRt G X (wQi G r0 s1)) (hN : wNl X = 3) (h : fW_fill_J21 s = some (r0, s1)) : WB G X 21 [] [] s := by
  unfold fW_fill_J21 at h
  refine wb_iconst (v := iI (-1)) hX dX10_fill_21 rfl (pq := 22) rfl ?_
  exact wb_iret hX hQ h dX10_fill_22
set_option maxHeartbeats 4000000 in
set_option maxRecDepth 100000 in
theorem tW_fill {l : Launch} {G : wG} {s : wM} {x1 : Int32} {x2 : Int32} {r0 : Int32} {s1 : wM} (h : fW_fill s x1 x2 = some (r0, s1)) : wMet l G yX10_fill cX10_fill 3 (some .int) 5 [.ref (G.1 0), .int x1, .int x2] s (wQi G r0 s1) := by
  refine wMet_of (own := RX10) (by decide +kernel) rfl (Nat.le_of_ble_eq_true rfl) ?_
  intro X hX hQ hN hl
  show WB G X 0 [(0, .ref (G.1 0)), (1, .int x1), (2, .int x2)] [] s
  unfold fW_fill at h
  refine wb_aload_n 0 hX dX10_fill_0 rfl (pq := 1) rfl ?_
  refine wb_getR hX fl_333 sh_0 rfl dX10_fill_1 (pq := 4) rfl ?_
  refine wb_iload_n 1 hX dX10_fill_4 rfl (pq := 5) rfl ?_
  obtain ⟨q_2, hc_1, h⟩ := bind_s h
  refine wb_callVi (r0 := q_2) (s1 := s) [.int x1] hX sh_7 ml_478 (tLand_has hc_1) (by decide) rfl rfl (Nat.le_of_ble_eq_true rfl) dX10_fill_5 (pq := 8) rfl ?_
  refine wb_if_eq (tgt := 21) hX dX10_fill_8 (by decide) (fun c_3 => ?_) (pq := 11) rfl (fun c_3 => ?_)
  · have h := ite_t c_3 h
    refine wb_sub [] (loc' := []) rfl ?_
    exact tW_fill_J21 hX hQ hN h
  · have h := ite_f c_3 h
    refine wb_iload_n 2 hX dX10_fill_11 rfl (pq := 12) rfl ?_
    refine wb_iconst (v := iI (0)) hX dX10_fill_12 rfl (pq := 13) rfl ?_
    refine wb_bipush (v := iI (99)) hX dX10_fill_13 (by decide) (pq := 15) rfl ?_
    obtain ⟨q_5, hc_4, h⟩ := bind_s h
    refine wb_callSi (r0 := q_5) (s1 := s) [.int x2, .int (iI (0)), .int (iI (99))] hX ml_467 (tW_isWithin hc_4) (by decide) rfl rfl (Nat.le_of_ble_eq_true rfl) dX10_fill_15 (pq := 18) rfl ?_
    refine wb_if_ne (tgt := 23) hX dX10_fill_18 (by decide) (pq := 21) rfl (fun c_6 => ?_) (fun c_6 => ?_)
    · have h := ite_t c_6 h
      refine wb_sub [] (loc' := []) rfl ?_
      exact tW_fill_J21 hX hQ hN h
    · have h := ite_f c_6 h
      refine wb_aload_n 0 hX dX10_fill_23 rfl (pq := 24) rfl ?_
      refine wb_iload_n 1 hX dX10_fill_24 rfl (pq := 25) rfl ?_
      refine wb_iload_n 2 hX dX10_fill_25 rfl (pq := 26) rfl ?_
      obtain ⟨q_8, hc_7, h⟩ := bind_s h
      refine wb_callVi (r0 := q_8.1) (s1 := q_8.2) [.int x1, .int x2] hX sh_0 ml_647 (tW_fewestSuch hc_7) (by decide) rfl rfl (Nat.le_of_ble_eq_true rfl) dX10_fill_26 (pq := 29) rfl ?_
      exact wb_iret hX hQ h dX10_fill_29
set_option maxHeartbeats 4000000 in
set_option maxRecDepth 100000 in
theorem tW_tellColours_L9 {G : wG} {X : wX} {x1 : Int32} {s1 : wM} (hX : wOK G X cX10_tellColours RX10 none 1) (hQ : wRt G X (wQv G s1)) (hN : wNl X = 3) : ∀ (n : Nat) (x2 : Int32) (s : wM), wh2 (fW_tellColours_L9 x1) n x2 s = some s1 → WB G X 9 [(0, .ref (G.1 0)), (1, .int x1), (2, .int x2)] [] s := by
  intro n
  induction n with
  | zero => intro x2 s h; cases h
  | succ n hk9 =>
    intro x2 s h
    have h : fW_tellColours_L9 x1 x2 s (wh2 (fW_tellColours_L9 x1) n) = some s1 := h
    unfold fW_tellColours_L9 at h
    refine wb_iload_n 2 hX dX10_tellColours_9 rfl (pq := 10) rfl ?_
    refine wb_aload_n 0 hX dX10_tellColours_10 rfl (pq := 11) rfl ?_
    refine wb_getR hX fl_336 sh_0 rfl dX10_tellColours_11 (pq := 14) rfl ?_
    refine wb_getI hX fl_242 sh_28 rfl dX10_tellColours_14 (pq := 17) rfl ?_
    refine wb_icmp_ge (tgt := 44) hX dX10_tellColours_17 (by decide) (fun c_1 => ?_) (pq := 20) rfl (fun c_1 => ?_)
    · have h := ite_t c_1 h
      exact wb_vret hX hQ h dX10_tellColours_44
    · have h := ite_f c_1 h
      refine wb_aload_n 0 hX dX10_tellColours_20 rfl (pq := 21) rfl ?_
      refine wb_getR hX fl_337 sh_0 rfl dX10_tellColours_21 (pq := 24) rfl ?_
      refine wb_aload_n 0 hX dX10_tellColours_24 rfl (pq := 25) rfl ?_
      refine wb_getR hX fl_336 sh_0 rfl dX10_tellColours_25 (pq := 28) rfl ?_
      refine wb_getR hX fl_238 sh_28 rfl dX10_tellColours_28 (pq := 31) rfl ?_
      refine wb_iload_n 2 hX dX10_tellColours_31 rfl (pq := 32) rfl ?_
      obtain ⟨hi_2, h⟩ := chk_some h
      refine wb_iald hX sh_29 hi_2 dX10_tellColours_32 (pq := 33) rfl ?_
      refine wb_iload_n 1 hX dX10_tellColours_33 rfl (pq := 34) rfl ?_
      refine wb_imul hX dX10_tellColours_34 (pq := 35) rfl ?_
      obtain ⟨q_4, hc_3, h⟩ := bind_s h
      refine wb_callVv (s1 := q_4) [.int ((s.1 29 x2.toNatClampNeg) * x1)] hX sh_32 ml_608 (tNum_add hc_3) (by decide) rfl rfl (Nat.le_of_ble_eq_true rfl) dX10_tellColours_35 (pq := 38) rfl ?_
      refine wb_iinc (v := (x2 + iI (1))) (loc' := [(2, .int (x2 + iI (1))), (0, .ref (G.1 0)), (1, .int x1)]) 2 hX hN dX10_tellColours_38 rfl rfl (by decide) rfl (pq := 41) rfl ?_
      refine wb_goto (tgt := 9) hX dX10_tellColours_41 (by decide) ?_
      refine wb_sub [1, 2, 0] (loc' := [(0, .ref (G.1 0)), (1, .int x1), (2, .int (x2 + iI (1)))]) rfl ?_
      exact hk9 _ _ h
set_option maxHeartbeats 4000000 in
set_option maxRecDepth 100000 in
theorem tW_tellColours {l : Launch} {G : wG} {s : wM} {x1 : Int32} {s1 : wM} (h : fW_tellColours s x1 = some s1) : wMet l G yX10_tellColours cX10_tellColours 3 none 1 [.ref (G.1 0), .int x1] s (wQv G s1) := by
  refine wMet_of (own := RX10) (by decide +kernel) rfl (Nat.le_of_ble_eq_true rfl) ?_
  intro X hX hQ hN hl
  show WB G X 0 [(0, .ref (G.1 0)), (1, .int x1)] [] s
  unfold fW_tellColours at h
  refine wb_aload_n 0 hX dX10_tellColours_0 rfl (pq := 1) rfl ?_
  refine wb_getR hX fl_337 sh_0 rfl dX10_tellColours_1 (pq := 4) rfl ?_
  obtain ⟨q_2, hc_1, h⟩ := bind_s h
  refine wb_callVv (s1 := q_2) [] hX sh_32 ml_642 (tNum_clear hc_1) (by decide) rfl rfl (Nat.le_of_ble_eq_true rfl) dX10_tellColours_4 (pq := 7) rfl ?_
  refine wb_iconst (v := iI (0)) hX dX10_tellColours_7 rfl (pq := 8) rfl ?_
  refine wb_istore_n (loc' := [(2, .int (iI (0))), (0, .ref (G.1 0)), (1, .int x1)]) hX hN dX10_tellColours_8 (by decide) rfl (pq := 9) rfl ?_
  refine wb_sub [1, 2, 0] (loc' := [(0, .ref (G.1 0)), (1, .int x1), (2, .int (iI (0)))]) rfl ?_
  exact tW_tellColours_L9 hX hQ hN 100000 _ _ h
set_option maxHeartbeats 4000000 in
set_option maxRecDepth 100000 in
theorem tW_colours {l : Launch} {G : wG} {s : wM} {r0 : Int32} {s1 : wM} (h : fW_colours s = some (r0, s1)) : wMet l G yX10_colours cX10_colours 2 (some .int) 15 [.ref (G.1 0)] s (wQi G r0 s1) := by
  refine wMet_of (own := RX10) (by decide +kernel) rfl (Nat.le_of_ble_eq_true rfl) ?_
  intro X hX hQ hN hl
  show WB G X 0 [(0, .ref (G.1 0))] [] s
  unfold fW_colours at h
  refine wb_aload_n 0 hX dX10_colours_0 rfl (pq := 1) rfl ?_
  refine wb_getR hX fl_336 sh_0 rfl dX10_colours_1 (pq := 4) rfl ?_
  refine wb_aload_n 0 hX dX10_colours_4 rfl (pq := 5) rfl ?_
  refine wb_getR hX fl_333 sh_0 rfl dX10_colours_5 (pq := 8) rfl ?_
  obtain ⟨q_2, hc_1, h⟩ := bind_s h
  refine wb_callVv (s1 := q_2) [.ref (G.1 7)] hX sh_28 ml_781 (tGr_look hc_1) (by decide) rfl rfl (Nat.le_of_ble_eq_true rfl) dX10_colours_8 (pq := 11) rfl ?_
  refine wb_aload_n 0 hX dX10_colours_11 rfl (pq := 12) rfl ?_
  refine wb_getR hX fl_336 sh_0 rfl dX10_colours_12 (pq := 15) rfl ?_
  obtain ⟨q_4, hc_3, h⟩ := bind_s h
  refine wb_callVi (r0 := q_4.1) (s1 := q_4.2) [] hX sh_28 ml_786 (tGr_paintAll hc_3) (by decide) rfl rfl (Nat.le_of_ble_eq_true rfl) dX10_colours_15 (pq := 18) rfl ?_
  refine wb_istore_n (loc' := [(1, .int q_4.1), (0, .ref (G.1 0))]) hX hN dX10_colours_18 (by decide) rfl (pq := 19) rfl ?_
  refine wb_aload_n 1 hX dX10_colours_19 rfl (pq := 20) rfl ?_
  refine wb_iconst (v := iI (1)) hX dX10_colours_20 rfl (pq := 21) rfl ?_
  obtain ⟨q_6, hc_5, h⟩ := bind_s h
  refine wb_callVv (s1 := q_6) [.int (iI (1))] hX sh_0 ml_798 (tW_tellColours hc_5) (by decide) rfl rfl (Nat.le_of_ble_eq_true rfl) dX10_colours_21 (pq := 24) rfl ?_
  refine wb_iload_n 0 hX dX10_colours_24 rfl (pq := 25) rfl ?_
  exact wb_iret hX hQ h dX10_colours_25
set_option maxHeartbeats 4000000 in
set_option maxRecDepth 100000 in
theorem tW_clique {l : Launch} {G : wG} {s : wM} {r0 : Int32} {s1 : wM} (h : fW_clique s = some (r0, s1)) : wMet l G yX10_clique cX10_clique 2 (some .int) 3 [.ref (G.1 0)] s (wQi G r0 s1) := by
  refine wMet_of (own := RX10) (by decide +kernel) rfl (Nat.le_of_ble_eq_true rfl) ?_
  intro X hX hQ hN hl
  show WB G X 0 [(0, .ref (G.1 0))] [] s
  unfold fW_clique at h
  refine wb_aload_n 0 hX dX10_clique_0 rfl (pq := 1) rfl ?_
  refine wb_getR hX fl_336 sh_0 rfl dX10_clique_1 (pq := 4) rfl ?_
  refine wb_aload_n 0 hX dX10_clique_4 rfl (pq := 5) rfl ?_
  refine wb_getR hX fl_333 sh_0 rfl dX10_clique_5 (pq := 8) rfl ?_
  obtain ⟨q_2, hc_1, h⟩ := bind_s h
  refine wb_callVv (s1 := q_2) [.ref (G.1 7)] hX sh_28 ml_781 (tGr_look hc_1) (by decide) rfl rfl (Nat.le_of_ble_eq_true rfl) dX10_clique_8 (pq := 11) rfl ?_
  refine wb_aload_n 0 hX dX10_clique_11 rfl (pq := 12) rfl ?_
  refine wb_getR hX fl_336 sh_0 rfl dX10_clique_12 (pq := 15) rfl ?_
  obtain ⟨q_4, hc_3, h⟩ := bind_s h
  refine wb_callVi (r0 := q_4) (s1 := q_2) [] hX sh_28 ml_806 (tGr_largestKnot hc_3) (by decide) rfl rfl (Nat.le_of_ble_eq_true rfl) dX10_clique_15 (pq := 18) rfl ?_
  refine wb_istore_n (loc' := [(1, .int q_4), (0, .ref (G.1 0))]) hX hN dX10_clique_18 (by decide) rfl (pq := 19) rfl ?_
  refine wb_aload_n 1 hX dX10_clique_19 rfl (pq := 20) rfl ?_
  refine wb_getR hX fl_337 sh_0 rfl dX10_clique_20 (pq := 23) rfl ?_
  refine wb_iload_n 0 hX dX10_clique_23 rfl (pq := 24) rfl ?_
  obtain ⟨q_6, hc_5, h⟩ := bind_s h
  refine wb_callVv (s1 := q_6) [.int q_4] hX sh_32 ml_539 (tNum_tell hc_5) (by decide) rfl rfl (Nat.le_of_ble_eq_true rfl) dX10_clique_24 (pq := 27) rfl ?_
  refine wb_iload_n 0 hX dX10_clique_27 rfl (pq := 28) rfl ?_
  obtain ⟨q_8, hc_7, h⟩ := bind_s h
  refine wb_callSi (r0 := q_8) (s1 := q_6) [.int q_4] hX ml_815 (tJ_bitCount hc_7) (by decide) rfl rfl (Nat.le_of_ble_eq_true rfl) dX10_clique_28 (pq := 31) rfl ?_
  exact wb_iret hX hQ h dX10_clique_31
set_option maxHeartbeats 4000000 in
set_option maxRecDepth 100000 in
theorem tW_lowest {l : Launch} {G : wG} {s : wM} {r0 : Int32} {s1 : wM} (h : fW_lowest s = some (r0, s1)) : wMet l G yX10_lowest cX10_lowest 2 (some .int) 15 [.ref (G.1 0)] s (wQi G r0 s1) := by
  refine wMet_of (own := RX10) (by decide +kernel) rfl (Nat.le_of_ble_eq_true rfl) ?_
  intro X hX hQ hN hl
  show WB G X 0 [(0, .ref (G.1 0))] [] s
  unfold fW_lowest at h
  refine wb_aload_n 0 hX dX10_lowest_0 rfl (pq := 1) rfl ?_
  refine wb_getR hX fl_336 sh_0 rfl dX10_lowest_1 (pq := 4) rfl ?_
  refine wb_aload_n 0 hX dX10_lowest_4 rfl (pq := 5) rfl ?_
  refine wb_getR hX fl_333 sh_0 rfl dX10_lowest_5 (pq := 8) rfl ?_
  obtain ⟨q_2, hc_1, h⟩ := bind_s h
  refine wb_callVv (s1 := q_2) [.ref (G.1 7)] hX sh_28 ml_781 (tGr_look hc_1) (by decide) rfl rfl (Nat.le_of_ble_eq_true rfl) dX10_lowest_8 (pq := 11) rfl ?_
  refine wb_aload_n 0 hX dX10_lowest_11 rfl (pq := 12) rfl ?_
  refine wb_getR hX fl_336 sh_0 rfl dX10_lowest_12 (pq := 15) rfl ?_
  obtain ⟨q_4, hc_3, h⟩ := bind_s h
  refine wb_callVi (r0 := q_4.1) (s1 := q_4.2) [] hX sh_28 ml_786 (tGr_paintAll hc_3) (by decide) rfl rfl (Nat.le_of_ble_eq_true rfl) dX10_lowest_15 (pq := 18) rfl ?_
  refine wb_istore_n (loc' := [(1, .int q_4.1), (0, .ref (G.1 0))]) hX hN dX10_lowest_18 (by decide) rfl (pq := 19) rfl ?_
  refine wb_aload_n 1 hX dX10_lowest_19 rfl (pq := 20) rfl ?_
  refine wb_aload_n 1 hX dX10_lowest_20 rfl (pq := 21) rfl ?_
  refine wb_getR hX fl_333 sh_0 rfl dX10_lowest_21 (pq := 24) rfl ?_
  refine wb_getR hX fl_103 sh_7 rfl dX10_lowest_24 (pq := 27) rfl ?_
  refine wb_iconst (v := iI (0)) hX dX10_lowest_27 rfl (pq := 28) rfl ?_
  refine wb_iald hX sh_11 (by unfold vp_in; decide) dX10_lowest_28 (pq := 29) rfl ?_
  obtain ⟨q_6, hc_5, h⟩ := bind_s h
  refine wb_callVv (s1 := q_6) [.int (q_4.2.1 11 (iI (0)).toNatClampNeg)] hX sh_0 ml_798 (tW_tellColours hc_5) (by decide) rfl rfl (Nat.le_of_ble_eq_true rfl) dX10_lowest_29 (pq := 32) rfl ?_
  refine wb_iconst (v := iI (0)) hX dX10_lowest_32 rfl (pq := 33) rfl ?_
  refine wb_iload_n 0 hX dX10_lowest_33 rfl (pq := 34) rfl ?_
  refine wb_iconst (v := iI (1)) hX dX10_lowest_34 rfl (pq := 35) rfl ?_
  refine wb_isub hX dX10_lowest_35 (pq := 36) rfl ?_
  refine wb_mmax hX k_490 k_491 k_14 k_492 (Nat.le_of_ble_eq_true rfl) dX10_lowest_36 (pq := 39) rfl ?_
  refine wb_aload_n 1 hX dX10_lowest_39 rfl (pq := 40) rfl ?_
  refine wb_getR hX fl_333 sh_0 rfl dX10_lowest_40 (pq := 43) rfl ?_
  refine wb_getR hX fl_103 sh_7 rfl dX10_lowest_43 (pq := 46) rfl ?_
  refine wb_iconst (v := iI (0)) hX dX10_lowest_46 rfl (pq := 47) rfl ?_
  refine wb_iald hX sh_11 (by unfold vp_in; decide) dX10_lowest_47 (pq := 48) rfl ?_
  refine wb_imul hX dX10_lowest_48 (pq := 49) rfl ?_
  exact wb_iret hX hQ h dX10_lowest_49
set_option maxHeartbeats 4000000 in
set_option maxRecDepth 100000 in
theorem tW_place_J61 {G : wG} {X : wX} {k23 : Int32 → Int32 → Int32 → Int32 → Option (Int32 × wM)} {x1 : Int32} {x2 : Int32} {x3 : Int32} {x4 : Int32} {x5 : Int32} {s : wM} {r0 : Int32} {s1 : wM} (hX : wOK G X cX10_place RX10 (some .int) 2) (hQ : wRt G X (wQi G r0 s1)) (hN : wNl X = 6) (hk23 : ∀ (x2 : Int32) (x3 : Int32) (x4 : Int32) (x5 : Int32), k23 x2 x3 x4 x5 = some (r0, s1) → WB G X 23 [(0, .ref (G.1 0)), (1, .int x1), (2, .int x2), (3, .int x3), (4, .int x4), (5, .int x5)] [] s) (h : fW_place_J61 k23 x1 x2 x3 x4 x5 s = some (r0, s1)) : WB G X 61 [(0, .ref (G.1 0)), (1, .int x1), (2, .int x2), (3, .int x3), (4, .int x4), (5, .int x5)] [] s := by
  unfold fW_place_J61 at h
  refine wb_iinc (v := (x5 + iI (1))) (loc' := [(5, .int (x5 + iI (1))), (0, .ref (G.1 0)), (1, .int x1), (2, .int x2), (3, .int x3), (4, .int x4)]) 5 hX hN dX10_place_61 rfl rfl (by decide) rfl (pq := 64) rfl ?_
  refine wb_goto (tgt := 23) hX dX10_place_64 (by decide) ?_
  refine wb_sub [1, 2, 3, 4, 5, 0] (loc' := [(0, .ref (G.1 0)), (1, .int x1), (2, .int x2), (3, .int x3), (4, .int x4), (5, .int (x5 + iI (1)))]) rfl ?_
  exact hk23 _ _ _ _ h
set_option maxHeartbeats 4000000 in
set_option maxRecDepth 100000 in
theorem tW_place_J53 {G : wG} {X : wX} {k23 : Int32 → Int32 → Int32 → Int32 → Option (Int32 × wM)} {x1 : Int32} {x2 : Int32} {x5 : Int32} {v0 : Int32} {s : wM} {r0 : Int32} {s1 : wM} (hX : wOK G X cX10_place RX10 (some .int) 2) (hQ : wRt G X (wQi G r0 s1)) (hN : wNl X = 6) (hk23 : ∀ (x2 : Int32) (x3 : Int32) (x4 : Int32) (x5 : Int32), k23 x2 x3 x4 x5 = some (r0, s1) → WB G X 23 [(0, .ref (G.1 0)), (1, .int x1), (2, .int x2), (3, .int x3), (4, .int x4), (5, .int x5)] [] s) (h : fW_place_J53 k23 x1 x2 x5 v0 s = some (r0, s1)) : WB G X 53 [(0, .ref (G.1 0)), (1, .int x1), (2, .int x2), (5, .int x5)] [.int v0] s := by
  unfold fW_place_J53 at h
  refine wb_istore_n (loc' := [(3, .int v0), (0, .ref (G.1 0)), (1, .int x1), (2, .int x2), (5, .int x5)]) hX hN dX10_place_53 (by decide) rfl (pq := 54) rfl ?_
  refine wb_iload 4 hX dX10_place_54 rfl (pq := 56) rfl ?_
  refine wb_istore (loc' := [(4, .int x5), (3, .int v0), (0, .ref (G.1 0)), (1, .int x1), (2, .int x2), (5, .int x5)]) hX hN dX10_place_56 (by decide) rfl (pq := 58) rfl ?_
  refine wb_iinc (v := (x2 + iI (1))) (loc' := [(2, .int (x2 + iI (1))), (4, .int x5), (3, .int v0), (0, .ref (G.1 0)), (1, .int x1), (5, .int x5)]) 4 hX hN dX10_place_58 rfl rfl (by decide) rfl (pq := 61) rfl ?_
  refine wb_sub [3, 4, 0, 2, 1, 5] (loc' := [(0, .ref (G.1 0)), (1, .int x1), (2, .int (x2 + iI (1))), (3, .int v0), (4, .int x5), (5, .int x5)]) rfl ?_
  exact tW_place_J61 hX hQ hN hk23 h
set_option maxHeartbeats 4000000 in
set_option maxRecDepth 100000 in
theorem tW_place_J95 {G : wG} {X : wX} {x2 : Int32} {s : wM} {r0 : Int32} {s1 : wM} (hX : wOK G X cX10_place RX10 (some .int) 2) (hQ : wRt G X (wQi G r0 s1)) (hN : wNl X = 6) (h : fW_place_J95 x2 s = some (r0, s1)) : WB G X 95 [(2, .int x2)] [] s := by
  unfold fW_place_J95 at h
  refine wb_iload_n 0 hX dX10_place_95 rfl (pq := 96) rfl ?_
  exact wb_iret hX hQ h dX10_place_96
set_option maxHeartbeats 4000000 in
set_option maxRecDepth 100000 in
theorem tW_place_L23 {G : wG} {X : wX} {x1 : Int32} {s : wM} {r0 : Int32} {s1 : wM} (hX : wOK G X cX10_place RX10 (some .int) 2) (hQ : wRt G X (wQi G r0 s1)) (hN : wNl X = 6) : ∀ (n : Nat) (x2 : Int32) (x3 : Int32) (x4 : Int32) (x5 : Int32), wh4 (fW_place_L23 x1 s) n x2 x3 x4 x5 = some (r0, s1) → WB G X 23 [(0, .ref (G.1 0)), (1, .int x1), (2, .int x2), (3, .int x3), (4, .int x4), (5, .int x5)] [] s := by
  intro n
  induction n with
  | zero => intro x2 x3 x4 x5 h; cases h
  | succ n hk23 =>
    intro x2 x3 x4 x5 h
    have h : fW_place_L23 x1 s x2 x3 x4 x5 (wh4 (fW_place_L23 x1 s) n) = some (r0, s1) := h
    unfold fW_place_L23 at h
    refine wb_iload 5 hX dX10_place_23 rfl (pq := 25) rfl ?_
    refine wb_bipush (v := iI (99)) hX dX10_place_25 (by decide) (pq := 27) rfl ?_
    refine wb_icmp_gt (tgt := 67) hX dX10_place_27 (by decide) (fun c_1 => ?_) (pq := 30) rfl (fun c_1 => ?_)
    · have h := ite_t c_1 h
      refine wb_aload_n 0 hX dX10_place_67 rfl (pq := 68) rfl ?_
      refine wb_getR hX fl_337 sh_0 rfl dX10_place_68 (pq := 71) rfl ?_
      obtain ⟨q_3, hc_2, h⟩ := bind_s h
      refine wb_callVv (s1 := q_3) [] hX sh_32 ml_642 (tNum_clear hc_2) (by decide) rfl rfl (Nat.le_of_ble_eq_true rfl) dX10_place_71 (pq := 74) rfl ?_
      refine wb_iload_n 2 hX dX10_place_74 rfl (pq := 75) rfl ?_
      refine wb_if_le (tgt := 95) hX dX10_place_75 (by decide) (fun c_4 => ?_) (pq := 78) rfl (fun c_4 => ?_)
      · have h := ite_t c_4 h
        refine wb_sub [2] (loc' := [(2, .int x2)]) rfl ?_
        exact tW_place_J95 hX hQ hN h
      · have h := ite_f c_4 h
        refine wb_aload_n 0 hX dX10_place_78 rfl (pq := 79) rfl ?_
        refine wb_getR hX fl_337 sh_0 rfl dX10_place_79 (pq := 82) rfl ?_
        refine wb_iload_n 3 hX dX10_place_82 rfl (pq := 83) rfl ?_
        obtain ⟨q_6, hc_5, h⟩ := bind_s h
        refine wb_callVv (s1 := q_6) [.int x3] hX sh_32 ml_608 (tNum_add hc_5) (by decide) rfl rfl (Nat.le_of_ble_eq_true rfl) dX10_place_83 (pq := 86) rfl ?_
        refine wb_aload_n 0 hX dX10_place_86 rfl (pq := 87) rfl ?_
        refine wb_getR hX fl_337 sh_0 rfl dX10_place_87 (pq := 90) rfl ?_
        refine wb_iload 4 hX dX10_place_90 rfl (pq := 92) rfl ?_
        obtain ⟨q_8, hc_7, h⟩ := bind_s h
        refine wb_callVv (s1 := q_8) [.int x4] hX sh_32 ml_608 (tNum_add hc_7) (by decide) rfl rfl (Nat.le_of_ble_eq_true rfl) dX10_place_92 (pq := 95) rfl ?_
        refine wb_sub [2] (loc' := [(2, .int x2)]) rfl ?_
        exact tW_place_J95 hX hQ hN h
    · have h := ite_f c_1 h
      refine wb_aload_n 0 hX dX10_place_30 rfl (pq := 31) rfl ?_
      refine wb_getR hX fl_333 sh_0 rfl dX10_place_31 (pq := 34) rfl ?_
      refine wb_iload 5 hX dX10_place_34 rfl (pq := 36) rfl ?_
      refine wb_iload_n 1 hX dX10_place_36 rfl (pq := 37) rfl ?_
      obtain ⟨q_10, hc_9, h⟩ := bind_s h
      refine wb_callVi (r0 := q_10) (s1 := s) [.int x5, .int x1] hX sh_7 ml_769 (tLand_isFree hc_9) (by decide) rfl rfl (Nat.le_of_ble_eq_true rfl) dX10_place_37 (pq := 40) rfl ?_
      refine wb_if_eq (tgt := 61) hX dX10_place_40 (by decide) (fun c_11 => ?_) (pq := 43) rfl (fun c_11 => ?_)
      · have h := ite_t c_11 h
        exact tW_place_J61 hX hQ hN hk23 h
      · have h := ite_f c_11 h
        refine wb_iload_n 2 hX dX10_place_43 rfl (pq := 44) rfl ?_
        refine wb_if_ne (tgt := 52) hX dX10_place_44 (by decide) (pq := 47) rfl (fun c_12 => ?_) (fun c_12 => ?_)
        · have h := ite_t c_12 h
          refine wb_iload 5 hX dX10_place_47 rfl (pq := 49) rfl ?_
          refine wb_goto (tgt := 53) hX dX10_place_49 (by decide) ?_
          refine wb_sub [0, 1, 2, 5] (loc' := [(0, .ref (G.1 0)), (1, .int x1), (2, .int x2), (5, .int x5)]) rfl ?_
          exact tW_place_J53 hX hQ hN hk23 h
        · have h := ite_f c_12 h
          refine wb_iload_n 3 hX dX10_place_52 rfl (pq := 53) rfl ?_
          refine wb_sub [0, 1, 2, 5] (loc' := [(0, .ref (G.1 0)), (1, .int x1), (2, .int x2), (5, .int x5)]) rfl ?_
          exact tW_place_J53 hX hQ hN hk23 h
set_option maxHeartbeats 4000000 in
set_option maxRecDepth 100000 in
theorem tW_place {l : Launch} {G : wG} {s : wM} {x1 : Int32} {r0 : Int32} {s1 : wM} (h : fW_place s x1 = some (r0, s1)) : wMet l G yX10_place cX10_place 6 (some .int) 2 [.ref (G.1 0), .int x1] s (wQi G r0 s1) := by
  refine wMet_of (own := RX10) (by decide +kernel) rfl (Nat.le_of_ble_eq_true rfl) ?_
  intro X hX hQ hN hl
  show WB G X 0 [(0, .ref (G.1 0)), (1, .int x1)] [] s
  unfold fW_place at h
  refine wb_aload_n 0 hX dX10_place_0 rfl (pq := 1) rfl ?_
  refine wb_getR hX fl_333 sh_0 rfl dX10_place_1 (pq := 4) rfl ?_
  refine wb_iload_n 1 hX dX10_place_4 rfl (pq := 5) rfl ?_
  obtain ⟨q_2, hc_1, h⟩ := bind_s h
  refine wb_callVi (r0 := q_2) (s1 := s) [.int x1] hX sh_7 ml_555 (tLand_hasAll hc_1) (by decide) rfl rfl (Nat.le_of_ble_eq_true rfl) dX10_place_5 (pq := 8) rfl ?_
  refine wb_if_ne (tgt := 13) hX dX10_place_8 (by decide) (pq := 11) rfl (fun c_3 => ?_) (fun c_3 => ?_)
  · have h := ite_t c_3 h
    refine wb_iconst (v := iI (-1)) hX dX10_place_11 rfl (pq := 12) rfl ?_
    exact wb_iret hX hQ h dX10_place_12
  · have h := ite_f c_3 h
    refine wb_iconst (v := iI (0)) hX dX10_place_13 rfl (pq := 14) rfl ?_
    refine wb_istore_n (loc' := [(2, .int (iI (0))), (0, .ref (G.1 0)), (1, .int x1)]) hX hN dX10_place_14 (by decide) rfl (pq := 15) rfl ?_
    refine wb_iconst (v := iI (0)) hX dX10_place_15 rfl (pq := 16) rfl ?_
    refine wb_istore_n (loc' := [(3, .int (iI (0))), (2, .int (iI (0))), (0, .ref (G.1 0)), (1, .int x1)]) hX hN dX10_place_16 (by decide) rfl (pq := 17) rfl ?_
    refine wb_iconst (v := iI (0)) hX dX10_place_17 rfl (pq := 18) rfl ?_
    refine wb_istore (loc' := [(4, .int (iI (0))), (3, .int (iI (0))), (2, .int (iI (0))), (0, .ref (G.1 0)), (1, .int x1)]) hX hN dX10_place_18 (by decide) rfl (pq := 20) rfl ?_
    refine wb_iconst (v := iI (0)) hX dX10_place_20 rfl (pq := 21) rfl ?_
    refine wb_istore (loc' := [(5, .int (iI (0))), (4, .int (iI (0))), (3, .int (iI (0))), (2, .int (iI (0))), (0, .ref (G.1 0)), (1, .int x1)]) hX hN dX10_place_21 (by decide) rfl (pq := 23) rfl ?_
    refine wb_sub [4, 5, 3, 2, 1, 0] (loc' := [(0, .ref (G.1 0)), (1, .int x1), (2, .int (iI (0))), (3, .int (iI (0))), (4, .int (iI (0))), (5, .int (iI (0)))]) rfl ?_
    exact tW_place_L23 hX hQ hN 100000 _ _ _ _ h
set_option maxHeartbeats 4000000 in
set_option maxRecDepth 100000 in
theorem tW_weeksTold_J12 {G : wG} {X : wX} {v0 : Int32} {s : wM} {r0 : Int32} (hX : wOK G X cX10_weeksTold RX10 (some .int) 0) (hQ : wRt G X (wQi G r0 s)) (hN : wNl X = 1) (h : fW_weeksTold_J12 v0 s = some r0) : WB G X 12 [] [.int v0] s := by
  unfold fW_weeksTold_J12 at h
  exact wb_iretP hX hQ h dX10_weeksTold_12
set_option maxHeartbeats 4000000 in
set_option maxRecDepth 100000 in
theorem tW_weeksTold {l : Launch} {G : wG} {s : wM} {x0 : Int32} {r0 : Int32} (h : fW_weeksTold s x0 = some r0) : wMet l G yX10_weeksTold cX10_weeksTold 1 (some .int) 0 [.int x0] s (wQi G r0 s) := by
  refine wMet_of (own := RX10) (by decide +kernel) rfl (Nat.le_of_ble_eq_true rfl) ?_
  intro X hX hQ hN hl
  show WB G X 0 [(0, .int x0)] [] s
  unfold fW_weeksTold at h
  refine wb_iload_n 0 hX dX10_weeksTold_0 rfl (pq := 1) rfl ?_
  refine wb_bipush (v := iI (100)) hX dX10_weeksTold_1 (by decide) (pq := 3) rfl ?_
  refine wb_icmp_le (tgt := 11) hX dX10_weeksTold_3 (by decide) (fun c_1 => ?_) (pq := 6) rfl (fun c_1 => ?_)
  · have h := ite_t c_1 h
    refine wb_iload_n 0 hX dX10_weeksTold_11 rfl (pq := 12) rfl ?_
    refine wb_sub [] (loc' := []) rfl ?_
    exact tW_weeksTold_J12 hX hQ hN h
  · have h := ite_f c_1 h
    refine wb_bipush (v := iI (-2)) hX dX10_weeksTold_6 (by decide) (pq := 8) rfl ?_
    refine wb_goto (tgt := 12) hX dX10_weeksTold_8 (by decide) ?_
    refine wb_sub [] (loc' := []) rfl ?_
    exact tW_weeksTold_J12 hX hQ hN h
set_option maxHeartbeats 4000000 in
set_option maxRecDepth 100000 in
theorem tW_lasts {l : Launch} {G : wG} {s : wM} {r0 : Int32} {s1 : wM} (h : fW_lasts s = some (r0, s1)) : wMet l G yX10_lasts cX10_lasts 1 (some .int) 4 [.ref (G.1 0)] s (wQi G r0 s1) := by
  refine wMet_of (own := RX10) (by decide +kernel) rfl (Nat.le_of_ble_eq_true rfl) ?_
  intro X hX hQ hN hl
  show WB G X 0 [(0, .ref (G.1 0))] [] s
  unfold fW_lasts at h
  refine wb_aload_n 0 hX dX10_lasts_0 rfl (pq := 1) rfl ?_
  refine wb_getR hX fl_334 sh_0 rfl dX10_lasts_1 (pq := 4) rfl ?_
  refine wb_aload_n 0 hX dX10_lasts_4 rfl (pq := 5) rfl ?_
  refine wb_getR hX fl_333 sh_0 rfl dX10_lasts_5 (pq := 8) rfl ?_
  obtain ⟨q_2, hc_1, h⟩ := bind_s h
  refine wb_callVv (s1 := q_2) [.ref (G.1 7)] hX sh_13 ml_567 (tAh_look hc_1) (by decide) rfl rfl (Nat.le_of_ble_eq_true rfl) dX10_lasts_8 (pq := 11) rfl ?_
  refine wb_aload_n 0 hX dX10_lasts_11 rfl (pq := 12) rfl ?_
  refine wb_getR hX fl_334 sh_0 rfl dX10_lasts_12 (pq := 15) rfl ?_
  obtain ⟨q_4, hc_3, h⟩ := bind_s h
  refine wb_callVi (r0 := q_4.1) (s1 := q_4.2) [] hX sh_13 ml_828 (tAh_lasting hc_3) (by decide) rfl rfl (Nat.le_of_ble_eq_true rfl) dX10_lasts_15 (pq := 18) rfl ?_
  obtain ⟨q_6, hc_5, h⟩ := bind_s h
  refine wb_callSi (r0 := q_6) (s1 := q_4.2) [.int q_4.1] hX ml_834 (tW_weeksTold hc_5) (by decide) rfl rfl (Nat.le_of_ble_eq_true rfl) dX10_lasts_18 (pq := 21) rfl ?_
  exact wb_iret hX hQ h dX10_lasts_21
set_option maxHeartbeats 4000000 in
set_option maxRecDepth 100000 in
theorem tW_later_J21 {G : wG} {X : wX} {s : wM} {r0 : Int32} {s1 : wM} (hX : wOK G X cX10_later RX10 (some .int) 3) (hQ : wRt G X (wQi G r0 s1)) (hN : wNl X = 4) (h : fW_later_J21 s = some (r0, s1)) : WB G X 21 [] [] s := by
  unfold fW_later_J21 at h
  refine wb_iconst (v := iI (-1)) hX dX10_later_21 rfl (pq := 22) rfl ?_
  exact wb_iret hX hQ h dX10_later_22
set_option maxHeartbeats 4000000 in
set_option maxRecDepth 100000 in
theorem tW_later_L36 {G : wG} {X : wX} {x1 : Int32} {x2 : Int32} {r0 : Int32} {s1 : wM} (hX : wOK G X cX10_later RX10 (some .int) 3) (hQ : wRt G X (wQi G r0 s1)) (hN : wNl X = 4) : ∀ (n : Nat) (x3 : Int32) (s : wM), wh2 (fW_later_L36 x1 x2) n x3 s = some (r0, s1) → WB G X 36 [(0, .ref (G.1 0)), (1, .int x1), (2, .int x2), (3, .int x3)] [] s := by
  intro n
  induction n with
  | zero => intro x3 s h; cases h
  | succ n hk36 =>
    intro x3 s h
    have h : fW_later_L36 x1 x2 x3 s (wh2 (fW_later_L36 x1 x2) n) = some (r0, s1) := h
    unfold fW_later_L36 at h
    refine wb_iload_n 3 hX dX10_later_36 rfl (pq := 37) rfl ?_
    refine wb_iload_n 2 hX dX10_later_37 rfl (pq := 38) rfl ?_
    refine wb_icmp_ge (tgt := 56) hX dX10_later_38 (by decide) (fun c_1 => ?_) (pq := 41) rfl (fun c_1 => ?_)
    · have h := ite_t c_1 h
      refine wb_aload_n 0 hX dX10_later_56 rfl (pq := 57) rfl ?_
      refine wb_getR hX fl_334 sh_0 rfl dX10_later_57 (pq := 60) rfl ?_
      refine wb_getR hX fl_137 sh_13 rfl dX10_later_60 (pq := 63) rfl ?_
      refine wb_iload_n 1 hX dX10_later_63 rfl (pq := 64) rfl ?_
      obtain ⟨hi_2, h⟩ := chk_some h
      refine wb_iald hX sh_14 hi_2 dX10_later_64 (pq := 65) rfl ?_
      exact wb_iret hX hQ h dX10_later_65
    · have h := ite_f c_1 h
      refine wb_aload_n 0 hX dX10_later_41 rfl (pq := 42) rfl ?_
      refine wb_getR hX fl_334 sh_0 rfl dX10_later_42 (pq := 45) rfl ?_
      refine wb_iconst (v := iI (0)) hX dX10_later_45 rfl (pq := 46) rfl ?_
      refine wb_iconst (v := iI (0)) hX dX10_later_46 rfl (pq := 47) rfl ?_
      obtain ⟨q_4, hc_3, h⟩ := bind_s h
      refine wb_callVv (s1 := q_4) [.int (iI (0)), .int (iI (0))] hX sh_13 ml_577 (tAh_pass hc_3) (by decide) rfl rfl (Nat.le_of_ble_eq_true rfl) dX10_later_47 (pq := 50) rfl ?_
      refine wb_iinc (v := (x3 + iI (1))) (loc' := [(3, .int (x3 + iI (1))), (0, .ref (G.1 0)), (1, .int x1), (2, .int x2)]) 3 hX hN dX10_later_50 rfl rfl (by decide) rfl (pq := 53) rfl ?_
      refine wb_goto (tgt := 36) hX dX10_later_53 (by decide) ?_
      refine wb_sub [1, 2, 3, 0] (loc' := [(0, .ref (G.1 0)), (1, .int x1), (2, .int x2), (3, .int (x3 + iI (1)))]) rfl ?_
      exact hk36 _ _ h
set_option maxHeartbeats 4000000 in
set_option maxRecDepth 100000 in
theorem tW_later {l : Launch} {G : wG} {s : wM} {x1 : Int32} {x2 : Int32} {r0 : Int32} {s1 : wM} (h : fW_later s x1 x2 = some (r0, s1)) : wMet l G yX10_later cX10_later 4 (some .int) 3 [.ref (G.1 0), .int x1, .int x2] s (wQi G r0 s1) := by
  refine wMet_of (own := RX10) (by decide +kernel) rfl (Nat.le_of_ble_eq_true rfl) ?_
  intro X hX hQ hN hl
  show WB G X 0 [(0, .ref (G.1 0)), (1, .int x1), (2, .int x2)] [] s
  unfold fW_later at h
  refine wb_aload_n 0 hX dX10_later_0 rfl (pq := 1) rfl ?_
  refine wb_getR hX fl_333 sh_0 rfl dX10_later_1 (pq := 4) rfl ?_
  refine wb_iload_n 1 hX dX10_later_4 rfl (pq := 5) rfl ?_
  obtain ⟨q_2, hc_1, h⟩ := bind_s h
  refine wb_callVi (r0 := q_2) (s1 := s) [.int x1] hX sh_7 ml_478 (tLand_has hc_1) (by decide) rfl rfl (Nat.le_of_ble_eq_true rfl) dX10_later_5 (pq := 8) rfl ?_
  refine wb_if_eq (tgt := 21) hX dX10_later_8 (by decide) (fun c_3 => ?_) (pq := 11) rfl (fun c_3 => ?_)
  · have h := ite_t c_3 h
    refine wb_sub [] (loc' := []) rfl ?_
    exact tW_later_J21 hX hQ hN h
  · have h := ite_f c_3 h
    refine wb_iload_n 2 hX dX10_later_11 rfl (pq := 12) rfl ?_
    refine wb_iconst (v := iI (0)) hX dX10_later_12 rfl (pq := 13) rfl ?_
    refine wb_bipush (v := iI (100)) hX dX10_later_13 (by decide) (pq := 15) rfl ?_
    obtain ⟨q_5, hc_4, h⟩ := bind_s h
    refine wb_callSi (r0 := q_5) (s1 := s) [.int x2, .int (iI (0)), .int (iI (100))] hX ml_467 (tW_isWithin hc_4) (by decide) rfl rfl (Nat.le_of_ble_eq_true rfl) dX10_later_15 (pq := 18) rfl ?_
    refine wb_if_ne (tgt := 23) hX dX10_later_18 (by decide) (pq := 21) rfl (fun c_6 => ?_) (fun c_6 => ?_)
    · have h := ite_t c_6 h
      refine wb_sub [] (loc' := []) rfl ?_
      exact tW_later_J21 hX hQ hN h
    · have h := ite_f c_6 h
      refine wb_aload_n 0 hX dX10_later_23 rfl (pq := 24) rfl ?_
      refine wb_getR hX fl_334 sh_0 rfl dX10_later_24 (pq := 27) rfl ?_
      refine wb_aload_n 0 hX dX10_later_27 rfl (pq := 28) rfl ?_
      refine wb_getR hX fl_333 sh_0 rfl dX10_later_28 (pq := 31) rfl ?_
      obtain ⟨q_8, hc_7, h⟩ := bind_s h
      refine wb_callVv (s1 := q_8) [.ref (G.1 7)] hX sh_13 ml_567 (tAh_look hc_7) (by decide) rfl rfl (Nat.le_of_ble_eq_true rfl) dX10_later_31 (pq := 34) rfl ?_
      refine wb_iconst (v := iI (0)) hX dX10_later_34 rfl (pq := 35) rfl ?_
      refine wb_istore_n (loc' := [(3, .int (iI (0))), (0, .ref (G.1 0)), (1, .int x1), (2, .int x2)]) hX hN dX10_later_35 (by decide) rfl (pq := 36) rfl ?_
      refine wb_sub [1, 2, 3, 0] (loc' := [(0, .ref (G.1 0)), (1, .int x1), (2, .int x2), (3, .int (iI (0)))]) rfl ?_
      exact tW_later_L36 hX hQ hN 100000 _ _ h
set_option maxHeartbeats 4000000 in
set_option maxRecDepth 100000 in
theorem tW_still_L13 {G : wG} {X : wX} {r0 : Int32} {s1 : wM} (hX : wOK G X cX10_still RX10 (some .int) 3) (hQ : wRt G X (wQi G r0 s1)) (hN : wNl X = 3) : ∀ (n : Nat) (x1 : Int32) (s : wM), wh2 (fW_still_L13) n x1 s = some (r0, s1) → WB G X 13 [(0, .ref (G.1 0)), (1, .int x1)] [] s := by
  intro n
  induction n with
  | zero => intro x1 s h; cases h
  | succ n hk13 =>
    intro x1 s h
    have h : fW_still_L13 x1 s (wh2 (fW_still_L13) n) = some (r0, s1) := h
    unfold fW_still_L13 at h
    refine wb_iload_n 1 hX dX10_still_13 rfl (pq := 14) rfl ?_
    refine wb_bipush (v := iI (100)) hX dX10_still_14 (by decide) (pq := 16) rfl ?_
    refine wb_icmp_gt (tgt := 62) hX dX10_still_16 (by decide) (fun c_1 => ?_) (pq := 19) rfl (fun c_1 => ?_)
    · have h := ite_t c_1 h
      refine wb_bipush (v := iI (-2)) hX dX10_still_62 (by decide) (pq := 64) rfl ?_
      exact wb_iret hX hQ h dX10_still_64
    · have h := ite_f c_1 h
      refine wb_aload_n 0 hX dX10_still_19 rfl (pq := 20) rfl ?_
      refine wb_getR hX fl_334 sh_0 rfl dX10_still_20 (pq := 23) rfl ?_
      obtain ⟨q_3, hc_2, h⟩ := bind_s h
      refine wb_callVi (r0 := q_3) (s1 := s) [] hX sh_13 ml_604 (tAh_evenPairs hc_2) (by decide) rfl rfl (Nat.le_of_ble_eq_true rfl) dX10_still_23 (pq := 26) rfl ?_
      refine wb_istore_n (loc' := [(2, .int q_3), (0, .ref (G.1 0)), (1, .int x1)]) hX hN dX10_still_26 (by decide) rfl (pq := 27) rfl ?_
      refine wb_aload_n 1 hX dX10_still_27 rfl (pq := 28) rfl ?_
      refine wb_getR hX fl_334 sh_0 rfl dX10_still_28 (pq := 31) rfl ?_
      refine wb_iconst (v := iI (0)) hX dX10_still_31 rfl (pq := 32) rfl ?_
      refine wb_iconst (v := iI (0)) hX dX10_still_32 rfl (pq := 33) rfl ?_
      obtain ⟨q_5, hc_4, h⟩ := bind_s h
      refine wb_callVv (s1 := q_5) [.int (iI (0)), .int (iI (0))] hX sh_13 ml_577 (tAh_pass hc_4) (by decide) rfl rfl (Nat.le_of_ble_eq_true rfl) dX10_still_33 (pq := 36) rfl ?_
      refine wb_aload_n 1 hX dX10_still_36 rfl (pq := 37) rfl ?_
      refine wb_getR hX fl_334 sh_0 rfl dX10_still_37 (pq := 40) rfl ?_
      refine wb_getI hX fl_153 sh_13 rfl dX10_still_40 (pq := 43) rfl ?_
      refine wb_if_eq (tgt := 56) hX dX10_still_43 (by decide) (fun c_6 => ?_) (pq := 46) rfl (fun c_6 => ?_)
      · have h := ite_t c_6 h
        refine wb_iinc (v := (x1 + iI (1))) (loc' := [(1, .int (x1 + iI (1))), (2, .int q_3), (0, .ref (G.1 0))]) 2 hX hN dX10_still_56 rfl rfl (by decide) rfl (pq := 59) rfl ?_
        refine wb_goto (tgt := 13) hX dX10_still_59 (by decide) ?_
        refine wb_sub [2, 0] (loc' := [(0, .ref (G.1 0)), (1, .int (x1 + iI (1)))]) rfl ?_
        exact hk13 _ _ h
      · have h := ite_f c_6 h
        refine wb_aload_n 1 hX dX10_still_46 rfl (pq := 47) rfl ?_
        refine wb_getR hX fl_337 sh_0 rfl dX10_still_47 (pq := 50) rfl ?_
        refine wb_iload_n 0 hX dX10_still_50 rfl (pq := 51) rfl ?_
        obtain ⟨q_8, hc_7, h⟩ := bind_s h
        refine wb_callVv (s1 := q_8) [.int q_3] hX sh_32 ml_539 (tNum_tell hc_7) (by decide) rfl rfl (Nat.le_of_ble_eq_true rfl) dX10_still_51 (pq := 54) rfl ?_
        refine wb_iload_n 2 hX dX10_still_54 rfl (pq := 55) rfl ?_
        exact wb_iret hX hQ h dX10_still_55
set_option maxHeartbeats 4000000 in
set_option maxRecDepth 100000 in
theorem tW_still {l : Launch} {G : wG} {s : wM} {r0 : Int32} {s1 : wM} (h : fW_still s = some (r0, s1)) : wMet l G yX10_still cX10_still 3 (some .int) 3 [.ref (G.1 0)] s (wQi G r0 s1) := by
  refine wMet_of (own := RX10) (by decide +kernel) rfl (Nat.le_of_ble_eq_true rfl) ?_
  intro X hX hQ hN hl
  show WB G X 0 [(0, .ref (G.1 0))] [] s
  unfold fW_still at h
  refine wb_aload_n 0 hX dX10_still_0 rfl (pq := 1) rfl ?_
  refine wb_getR hX fl_334 sh_0 rfl dX10_still_1 (pq := 4) rfl ?_
  refine wb_aload_n 0 hX dX10_still_4 rfl (pq := 5) rfl ?_
  refine wb_getR hX fl_333 sh_0 rfl dX10_still_5 (pq := 8) rfl ?_
  obtain ⟨q_2, hc_1, h⟩ := bind_s h
  refine wb_callVv (s1 := q_2) [.ref (G.1 7)] hX sh_13 ml_567 (tAh_look hc_1) (by decide) rfl rfl (Nat.le_of_ble_eq_true rfl) dX10_still_8 (pq := 11) rfl ?_
  refine wb_iconst (v := iI (0)) hX dX10_still_11 rfl (pq := 12) rfl ?_
  refine wb_istore_n (loc' := [(1, .int (iI (0))), (0, .ref (G.1 0))]) hX hN dX10_still_12 (by decide) rfl (pq := 13) rfl ?_
  refine wb_sub [1, 0] (loc' := [(0, .ref (G.1 0)), (1, .int (iI (0)))]) rfl ?_
  exact tW_still_L13 hX hQ hN 100000 _ _ h
set_option maxHeartbeats 4000000 in
set_option maxRecDepth 100000 in
theorem tW_keeps_J19 {G : wG} {X : wX} {s : wM} {r0 : Int32} {s1 : wM} (hX : wOK G X cX10_keeps RX10 (some .int) 4) (hQ : wRt G X (wQi G r0 s1)) (hN : wNl X = 7) (h : fW_keeps_J19 s = some (r0, s1)) : WB G X 19 [] [] s := by
  unfold fW_keeps_J19 at h
  refine wb_iconst (v := iI (-1)) hX dX10_keeps_19 rfl (pq := 20) rfl ?_
  exact wb_iret hX hQ h dX10_keeps_20
set_option maxHeartbeats 4000000 in
set_option maxRecDepth 100000 in
theorem tW_keeps_J111 {G : wG} {X : wX} {k33 : Int32 → Int32 → Int32 → wM → Option (Int32 × wM)} {x1 : Int32} {x2 : Int32} {x3 : Int32} {x4 : Int32} {x5 : Int32} {s : wM} {r0 : Int32} {s1 : wM} (hX : wOK G X cX10_keeps RX10 (some .int) 4) (hQ : wRt G X (wQi G r0 s1)) (hN : wNl X = 7) (hk33 : ∀ (x3 : Int32) (x4 : Int32) (x5 : Int32) (s : wM), k33 x3 x4 x5 s = some (r0, s1) → WB G X 33 [(0, .ref (G.1 0)), (1, .int x1), (2, .int x2), (3, .int x3), (4, .int x4), (5, .int x5)] [] s) (h : fW_keeps_J111 k33 x1 x2 x3 x4 x5 s = some (r0, s1)) : WB G X 111 [(0, .ref (G.1 0)), (1, .int x1), (2, .int x2), (3, .int x3), (4, .int x4), (5, .int x5)] [] s := by
  unfold fW_keeps_J111 at h
  refine wb_goto (tgt := 33) hX dX10_keeps_111 (by decide) ?_
  exact hk33 _ _ _ _ h
set_option maxHeartbeats 4000000 in
set_option maxRecDepth 100000 in
theorem tW_keeps_J89 {G : wG} {X : wX} {k33 : Int32 → Int32 → Int32 → wM → Option (Int32 × wM)} {x1 : Int32} {x2 : Int32} {x3 : Int32} {x4 : Int32} {x6 : Int32} {v0 : Int32} {s : wM} {r0 : Int32} {s1 : wM} (hX : wOK G X cX10_keeps RX10 (some .int) 4) (hQ : wRt G X (wQi G r0 s1)) (hN : wNl X = 7) (hk33 : ∀ (x3 : Int32) (x4 : Int32) (x5 : Int32) (s : wM), k33 x3 x4 x5 s = some (r0, s1) → WB G X 33 [(0, .ref (G.1 0)), (1, .int x1), (2, .int x2), (3, .int x3), (4, .int x4), (5, .int x5)] [] s) (h : fW_keeps_J89 k33 x1 x2 x3 x4 x6 v0 s = some (r0, s1)) : WB G X 89 [(0, .ref (G.1 0)), (1, .int x1), (2, .int x2), (3, .int x3), (4, .int x4), (6, .int x6)] [.int v0] s := by
  unfold fW_keeps_J89 at h
  refine wb_istore (loc' := [(5, .int v0), (0, .ref (G.1 0)), (1, .int x1), (2, .int x2), (3, .int x3), (4, .int x4), (6, .int x6)]) hX hN dX10_keeps_89 (by decide) rfl (pq := 91) rfl ?_
  refine wb_iload 0 hX dX10_keeps_91 rfl (pq := 93) rfl ?_
  refine wb_if_eq (tgt := 111) hX dX10_keeps_93 (by decide) (fun c_1 => ?_) (pq := 96) rfl (fun c_1 => ?_)
  · have h := ite_t c_1 h
    refine wb_sub [1, 2, 3, 4, 5, 0] (loc' := [(0, .ref (G.1 0)), (1, .int x1), (2, .int x2), (3, .int x3), (4, .int x4), (5, .int v0)]) rfl ?_
    exact tW_keeps_J111 hX hQ hN hk33 h
  · have h := ite_f c_1 h
    refine wb_iload_n 4 hX dX10_keeps_96 rfl (pq := 97) rfl ?_
    refine wb_aload_n 1 hX dX10_keeps_97 rfl (pq := 98) rfl ?_
    refine wb_getR hX fl_335 sh_0 rfl dX10_keeps_98 (pq := 101) rfl ?_
    refine wb_iload 6 hX dX10_keeps_101 rfl (pq := 103) rfl ?_
    obtain ⟨q_3, hc_2, h⟩ := bind_s h
    refine wb_callVi (r0 := q_3.1) (s1 := q_3.2) [.int x6] hX sh_23 ml_854 (tSe_stepsTo hc_2) (by decide) rfl rfl (Nat.le_of_ble_eq_true rfl) dX10_keeps_103 (pq := 106) rfl ?_
    refine wb_iadd hX dX10_keeps_106 (pq := 107) rfl ?_
    refine wb_istore_n (loc' := [(3, .int (x3 + q_3.1)), (5, .int v0), (0, .ref (G.1 0)), (1, .int x1), (2, .int x2), (4, .int x4), (6, .int x6)]) hX hN dX10_keeps_107 (by decide) rfl (pq := 108) rfl ?_
    refine wb_iinc (v := (x4 + iI (1))) (loc' := [(4, .int (x4 + iI (1))), (3, .int (x3 + q_3.1)), (5, .int v0), (0, .ref (G.1 0)), (1, .int x1), (2, .int x2), (6, .int x6)]) 5 hX hN dX10_keeps_108 rfl rfl (by decide) rfl (pq := 111) rfl ?_
    refine wb_sub [3, 4, 5, 1, 0, 2] (loc' := [(0, .ref (G.1 0)), (1, .int x1), (2, .int x2), (3, .int (x3 + q_3.1)), (4, .int (x4 + iI (1))), (5, .int v0)]) rfl ?_
    exact tW_keeps_J111 hX hQ hN hk33 h
set_option maxHeartbeats 4000000 in
set_option maxRecDepth 100000 in
theorem tW_keeps_J114 {G : wG} {X : wX} {x3 : Int32} {x4 : Int32} {s : wM} {r0 : Int32} {s1 : wM} (hX : wOK G X cX10_keeps RX10 (some .int) 4) (hQ : wRt G X (wQi G r0 s1)) (hN : wNl X = 7) (h : fW_keeps_J114 x3 x4 s = some (r0, s1)) : WB G X 114 [(0, .ref (G.1 0)), (3, .int x3), (4, .int x4)] [] s := by
  unfold fW_keeps_J114 at h
  refine wb_aload_n 0 hX dX10_keeps_114 rfl (pq := 115) rfl ?_
  refine wb_getR hX fl_337 sh_0 rfl dX10_keeps_115 (pq := 118) rfl ?_
  refine wb_iload_n 1 hX dX10_keeps_118 rfl (pq := 119) rfl ?_
  obtain ⟨q_2, hc_1, h⟩ := bind_s h
  refine wb_callVv (s1 := q_2) [.int x3] hX sh_32 ml_539 (tNum_tell hc_1) (by decide) rfl rfl (Nat.le_of_ble_eq_true rfl) dX10_keeps_119 (pq := 122) rfl ?_
  refine wb_iload 2 hX dX10_keeps_122 rfl (pq := 124) rfl ?_
  exact wb_iret hX hQ h dX10_keeps_124
set_option maxHeartbeats 4000000 in
set_option maxRecDepth 100000 in
theorem tW_keeps_L33 {G : wG} {X : wX} {x1 : Int32} {x2 : Int32} {r0 : Int32} {s1 : wM} (hX : wOK G X cX10_keeps RX10 (some .int) 4) (hQ : wRt G X (wQi G r0 s1)) (hN : wNl X = 7) : ∀ (n : Nat) (x3 : Int32) (x4 : Int32) (x5 : Int32) (s : wM), wh4 (fW_keeps_L33 x1 x2) n x3 x4 x5 s = some (r0, s1) → WB G X 33 [(0, .ref (G.1 0)), (1, .int x1), (2, .int x2), (3, .int x3), (4, .int x4), (5, .int x5)] [] s := by
  intro n
  induction n with
  | zero => intro x3 x4 x5 s h; cases h
  | succ n hk33 =>
    intro x3 x4 x5 s h
    have h : fW_keeps_L33 x1 x2 x3 x4 x5 s (wh4 (fW_keeps_L33 x1 x2) n) = some (r0, s1) := h
    unfold fW_keeps_L33 at h
    refine wb_iload 4 hX dX10_keeps_33 rfl (pq := 35) rfl ?_
    refine wb_iload_n 1 hX dX10_keeps_35 rfl (pq := 36) rfl ?_
    refine wb_icmp_ge (tgt := 114) hX dX10_keeps_36 (by decide) (fun c_1 => ?_) (pq := 39) rfl (fun c_1 => ?_)
    · have h := ite_t c_1 h
      refine wb_sub [0, 3, 4] (loc' := [(0, .ref (G.1 0)), (3, .int x3), (4, .int x4)]) rfl ?_
      exact tW_keeps_J114 hX hQ hN h
    · have h := ite_f c_1 h
      refine wb_iload 5 hX dX10_keeps_39 rfl (pq := 41) rfl ?_
      refine wb_if_eq (tgt := 114) hX dX10_keeps_41 (by decide) (fun c_2 => ?_) (pq := 44) rfl (fun c_2 => ?_)
      · have h := ite_t c_2 h
        refine wb_sub [0, 3, 4] (loc' := [(0, .ref (G.1 0)), (3, .int x3), (4, .int x4)]) rfl ?_
        exact tW_keeps_J114 hX hQ hN h
      · have h := ite_f c_2 h
        refine wb_aload_n 0 hX dX10_keeps_44 rfl (pq := 45) rfl ?_
        refine wb_getR hX fl_335 sh_0 rfl dX10_keeps_45 (pq := 48) rfl ?_
        refine wb_aload_n 0 hX dX10_keeps_48 rfl (pq := 49) rfl ?_
        refine wb_getR hX fl_334 sh_0 rfl dX10_keeps_49 (pq := 52) rfl ?_
        obtain ⟨q_4, hc_3, h⟩ := bind_s h
        refine wb_callVl (r0 := q_4) (s1 := s) [] hX sh_13 ml_725 (tAh_pack hc_3) (by decide) rfl rfl (Nat.le_of_ble_eq_true rfl) dX10_keeps_52 (pq := 55) rfl ?_
        refine wb_iload_n 2 hX dX10_keeps_55 rfl (pq := 56) rfl ?_
        obtain ⟨q_6, hc_5, h⟩ := bind_s h
        refine wb_callVi (r0 := q_6.1) (s1 := q_6.2) [.long q_4, .int x2] hX sh_23 ml_726 (tSe_findWithin hc_5) (by decide) rfl rfl (Nat.le_of_ble_eq_true rfl) dX10_keeps_56 (pq := 59) rfl ?_
        refine wb_if_ne (tgt := 65) hX dX10_keeps_59 (by decide) (pq := 62) rfl (fun c_7 => ?_) (fun c_7 => ?_)
        · have h := ite_t c_7 h
          refine wb_bipush (v := iI (-3)) hX dX10_keeps_62 (by decide) (pq := 64) rfl ?_
          exact wb_iret hX hQ h dX10_keeps_64
        · have h := ite_f c_7 h
          refine wb_aload_n 0 hX dX10_keeps_65 rfl (pq := 66) rfl ?_
          refine wb_getR hX fl_335 sh_0 rfl dX10_keeps_66 (pq := 69) rfl ?_
          refine wb_aload_n 0 hX dX10_keeps_69 rfl (pq := 70) rfl ?_
          refine wb_getR hX fl_334 sh_0 rfl dX10_keeps_70 (pq := 73) rfl ?_
          obtain ⟨q_9, hc_8, h⟩ := bind_s h
          refine wb_callVi (r0 := q_9.1) (s1 := q_9.2) [.ref (G.1 13)] hX sh_23 ml_849 (tSe_firstLawfulOnSunday hc_8) (by decide) rfl rfl (Nat.le_of_ble_eq_true rfl) dX10_keeps_73 (pq := 76) rfl ?_
          refine wb_istore (loc' := [(6, .int q_9.1), (0, .ref (G.1 0)), (1, .int x1), (2, .int x2), (3, .int x3), (4, .int x4), (5, .int x5)]) hX hN dX10_keeps_76 (by decide) rfl (pq := 78) rfl ?_
          refine wb_iload 0 hX dX10_keeps_78 rfl (pq := 80) rfl ?_
          refine wb_iconst (v := iI (-1)) hX dX10_keeps_80 rfl (pq := 81) rfl ?_
          refine wb_icmp_eq (tgt := 88) hX dX10_keeps_81 (by decide) (fun c_10 => ?_) (pq := 84) rfl (fun c_10 => ?_)
          · have h := ite_t c_10 h
            refine wb_iconst (v := iI (0)) hX dX10_keeps_88 rfl (pq := 89) rfl ?_
            refine wb_sub [1, 2, 3, 4, 5, 0] (loc' := [(0, .ref (G.1 0)), (1, .int x1), (2, .int x2), (3, .int x3), (4, .int x4), (6, .int q_9.1)]) rfl ?_
            exact tW_keeps_J89 hX hQ hN hk33 h
          · have h := ite_f c_10 h
            refine wb_iconst (v := iI (1)) hX dX10_keeps_84 rfl (pq := 85) rfl ?_
            refine wb_goto (tgt := 89) hX dX10_keeps_85 (by decide) ?_
            refine wb_sub [1, 2, 3, 4, 5, 0] (loc' := [(0, .ref (G.1 0)), (1, .int x1), (2, .int x2), (3, .int x3), (4, .int x4), (6, .int q_9.1)]) rfl ?_
            exact tW_keeps_J89 hX hQ hN hk33 h
set_option maxHeartbeats 4000000 in
set_option maxRecDepth 100000 in
theorem tW_keeps {l : Launch} {G : wG} {s : wM} {x1 : Int32} {x2 : Int32} {r0 : Int32} {s1 : wM} (h : fW_keeps s x1 x2 = some (r0, s1)) : wMet l G yX10_keeps cX10_keeps 7 (some .int) 4 [.ref (G.1 0), .int x1, .int x2] s (wQi G r0 s1) := by
  refine wMet_of (own := RX10) (by decide +kernel) rfl (Nat.le_of_ble_eq_true rfl) ?_
  intro X hX hQ hN hl
  show WB G X 0 [(0, .ref (G.1 0)), (1, .int x1), (2, .int x2)] [] s
  unfold fW_keeps at h
  refine wb_iload_n 1 hX dX10_keeps_0 rfl (pq := 1) rfl ?_
  refine wb_iconst (v := iI (0)) hX dX10_keeps_1 rfl (pq := 2) rfl ?_
  refine wb_bipush (v := iI (12)) hX dX10_keeps_2 (by decide) (pq := 4) rfl ?_
  obtain ⟨q_2, hc_1, h⟩ := bind_s h
  refine wb_callSi (r0 := q_2) (s1 := s) [.int x1, .int (iI (0)), .int (iI (12))] hX ml_467 (tW_isWithin hc_1) (by decide) rfl rfl (Nat.le_of_ble_eq_true rfl) dX10_keeps_4 (pq := 7) rfl ?_
  refine wb_if_eq (tgt := 19) hX dX10_keeps_7 (by decide) (fun c_3 => ?_) (pq := 10) rfl (fun c_3 => ?_)
  · have h := ite_t c_3 h
    refine wb_sub [] (loc' := []) rfl ?_
    exact tW_keeps_J19 hX hQ hN h
  · have h := ite_f c_3 h
    refine wb_iload_n 2 hX dX10_keeps_10 rfl (pq := 11) rfl ?_
    refine wb_iconst (v := iI (0)) hX dX10_keeps_11 rfl (pq := 12) rfl ?_
    refine wb_iconst (v := iI (2)) hX dX10_keeps_12 rfl (pq := 13) rfl ?_
    obtain ⟨q_5, hc_4, h⟩ := bind_s h
    refine wb_callSi (r0 := q_5) (s1 := s) [.int x2, .int (iI (0)), .int (iI (2))] hX ml_467 (tW_isWithin hc_4) (by decide) rfl rfl (Nat.le_of_ble_eq_true rfl) dX10_keeps_13 (pq := 16) rfl ?_
    refine wb_if_ne (tgt := 21) hX dX10_keeps_16 (by decide) (pq := 19) rfl (fun c_6 => ?_) (fun c_6 => ?_)
    · have h := ite_t c_6 h
      refine wb_sub [] (loc' := []) rfl ?_
      exact tW_keeps_J19 hX hQ hN h
    · have h := ite_f c_6 h
      refine wb_aload_n 0 hX dX10_keeps_21 rfl (pq := 22) rfl ?_
      obtain ⟨q_8, hc_7, h⟩ := bind_s h
      refine wb_callVv (s1 := q_8) [] hX sh_0 ml_651 (tW_prepareSearch hc_7) (by decide) rfl rfl (Nat.le_of_ble_eq_true rfl) dX10_keeps_22 (pq := 25) rfl ?_
      refine wb_iconst (v := iI (0)) hX dX10_keeps_25 rfl (pq := 26) rfl ?_
      refine wb_istore_n (loc' := [(3, .int (iI (0))), (0, .ref (G.1 0)), (1, .int x1), (2, .int x2)]) hX hN dX10_keeps_26 (by decide) rfl (pq := 27) rfl ?_
      refine wb_iconst (v := iI (0)) hX dX10_keeps_27 rfl (pq := 28) rfl ?_
      refine wb_istore (loc' := [(4, .int (iI (0))), (3, .int (iI (0))), (0, .ref (G.1 0)), (1, .int x1), (2, .int x2)]) hX hN dX10_keeps_28 (by decide) rfl (pq := 30) rfl ?_
      refine wb_iconst (v := iI (1)) hX dX10_keeps_30 rfl (pq := 31) rfl ?_
      refine wb_istore (loc' := [(5, .int (iI (1))), (4, .int (iI (0))), (3, .int (iI (0))), (0, .ref (G.1 0)), (1, .int x1), (2, .int x2)]) hX hN dX10_keeps_31 (by decide) rfl (pq := 33) rfl ?_
      refine wb_sub [3, 4, 5, 2, 1, 0] (loc' := [(0, .ref (G.1 0)), (1, .int x1), (2, .int x2), (3, .int (iI (0))), (4, .int (iI (0))), (5, .int (iI (1)))]) rfl ?_
      exact tW_keeps_L33 hX hQ hN 100000 _ _ _ _ h
set_option maxHeartbeats 4000000 in
set_option maxRecDepth 100000 in
theorem tW_mercy_L39 {G : wG} {X : wX} {x1 : Int32} {r0 : Int32} {s1 : wM} (hX : wOK G X cX10_mercy RX10 (some .int) 3) (hQ : wRt G X (wQi G r0 s1)) (hN : wNl X = 3) : ∀ (n : Nat) (x2 : Int32) (s : wM), wh2 (fW_mercy_L39 x1) n x2 s = some (r0, s1) → WB G X 39 [(0, .ref (G.1 0)), (1, .int x1), (2, .int x2)] [] s := by
  intro n
  induction n with
  | zero => intro x2 s h; cases h
  | succ n hk39 =>
    intro x2 s h
    have h : fW_mercy_L39 x1 x2 s (wh2 (fW_mercy_L39 x1) n) = some (r0, s1) := h
    unfold fW_mercy_L39 at h
    refine wb_iload_n 2 hX dX10_mercy_39 rfl (pq := 40) rfl ?_
    refine wb_iload_n 1 hX dX10_mercy_40 rfl (pq := 41) rfl ?_
    refine wb_icmp_ge (tgt := 70) hX dX10_mercy_41 (by decide) (fun c_1 => ?_) (pq := 44) rfl (fun c_1 => ?_)
    · have h := ite_t c_1 h
      refine wb_aload_n 0 hX dX10_mercy_70 rfl (pq := 71) rfl ?_
      refine wb_getR hX fl_337 sh_0 rfl dX10_mercy_71 (pq := 74) rfl ?_
      refine wb_aload_n 0 hX dX10_mercy_74 rfl (pq := 75) rfl ?_
      refine wb_getR hX fl_336 sh_0 rfl dX10_mercy_75 (pq := 78) rfl ?_
      obtain ⟨q_3, hc_2, h⟩ := bind_s h
      refine wb_callVi (r0 := q_3) (s1 := s) [] hX sh_28 ml_875 (tGr_smallestCover hc_2) (by decide) rfl rfl (Nat.le_of_ble_eq_true rfl) dX10_mercy_78 (pq := 81) rfl ?_
      obtain ⟨q_5, hc_4, h⟩ := bind_s h
      refine wb_callVv (s1 := q_5) [.int q_3] hX sh_32 ml_539 (tNum_tell hc_4) (by decide) rfl rfl (Nat.le_of_ble_eq_true rfl) dX10_mercy_81 (pq := 84) rfl ?_
      refine wb_aload_n 0 hX dX10_mercy_84 rfl (pq := 85) rfl ?_
      refine wb_getR hX fl_336 sh_0 rfl dX10_mercy_85 (pq := 88) rfl ?_
      obtain ⟨q_7, hc_6, h⟩ := bind_s h
      refine wb_callVi (r0 := q_7) (s1 := q_5) [] hX sh_28 ml_883 (tGr_pairs hc_6) (by decide) rfl rfl (Nat.le_of_ble_eq_true rfl) dX10_mercy_88 (pq := 91) rfl ?_
      exact wb_iret hX hQ h dX10_mercy_91
    · have h := ite_f c_1 h
      refine wb_aload_n 0 hX dX10_mercy_44 rfl (pq := 45) rfl ?_
      refine wb_getR hX fl_334 sh_0 rfl dX10_mercy_45 (pq := 48) rfl ?_
      refine wb_iconst (v := iI (0)) hX dX10_mercy_48 rfl (pq := 49) rfl ?_
      refine wb_iconst (v := iI (0)) hX dX10_mercy_49 rfl (pq := 50) rfl ?_
      obtain ⟨q_9, hc_8, h⟩ := bind_s h
      refine wb_callVv (s1 := q_9) [.int (iI (0)), .int (iI (0))] hX sh_13 ml_577 (tAh_pass hc_8) (by decide) rfl rfl (Nat.le_of_ble_eq_true rfl) dX10_mercy_50 (pq := 53) rfl ?_
      refine wb_aload_n 0 hX dX10_mercy_53 rfl (pq := 54) rfl ?_
      refine wb_getR hX fl_334 sh_0 rfl dX10_mercy_54 (pq := 57) rfl ?_
      refine wb_aload_n 0 hX dX10_mercy_57 rfl (pq := 58) rfl ?_
      refine wb_getR hX fl_336 sh_0 rfl dX10_mercy_58 (pq := 61) rfl ?_
      obtain ⟨q_11, hc_10, h⟩ := bind_s h
      refine wb_callVv (s1 := q_11) [.ref (G.1 28)] hX sh_13 ml_867 (tAh_markEven hc_10) (by decide) rfl rfl (Nat.le_of_ble_eq_true rfl) dX10_mercy_61 (pq := 64) rfl ?_
      refine wb_iinc (v := (x2 + iI (1))) (loc' := [(2, .int (x2 + iI (1))), (0, .ref (G.1 0)), (1, .int x1)]) 2 hX hN dX10_mercy_64 rfl rfl (by decide) rfl (pq := 67) rfl ?_
      refine wb_goto (tgt := 39) hX dX10_mercy_67 (by decide) ?_
      refine wb_sub [1, 2, 0] (loc' := [(0, .ref (G.1 0)), (1, .int x1), (2, .int (x2 + iI (1)))]) rfl ?_
      exact hk39 _ _ h
set_option maxHeartbeats 4000000 in
set_option maxRecDepth 100000 in
theorem tW_mercy {l : Launch} {G : wG} {s : wM} {x1 : Int32} {r0 : Int32} {s1 : wM} (h : fW_mercy s x1 = some (r0, s1)) : wMet l G yX10_mercy cX10_mercy 3 (some .int) 3 [.ref (G.1 0), .int x1] s (wQi G r0 s1) := by
  refine wMet_of (own := RX10) (by decide +kernel) rfl (Nat.le_of_ble_eq_true rfl) ?_
  intro X hX hQ hN hl
  show WB G X 0 [(0, .ref (G.1 0)), (1, .int x1)] [] s
  unfold fW_mercy at h
  refine wb_iload_n 1 hX dX10_mercy_0 rfl (pq := 1) rfl ?_
  refine wb_iconst (v := iI (0)) hX dX10_mercy_1 rfl (pq := 2) rfl ?_
  refine wb_bipush (v := iI (100)) hX dX10_mercy_2 (by decide) (pq := 4) rfl ?_
  obtain ⟨q_2, hc_1, h⟩ := bind_s h
  refine wb_callSi (r0 := q_2) (s1 := s) [.int x1, .int (iI (0)), .int (iI (100))] hX ml_467 (tW_isWithin hc_1) (by decide) rfl rfl (Nat.le_of_ble_eq_true rfl) dX10_mercy_4 (pq := 7) rfl ?_
  refine wb_if_ne (tgt := 12) hX dX10_mercy_7 (by decide) (pq := 10) rfl (fun c_3 => ?_) (fun c_3 => ?_)
  · have h := ite_t c_3 h
    refine wb_iconst (v := iI (-1)) hX dX10_mercy_10 rfl (pq := 11) rfl ?_
    exact wb_iret hX hQ h dX10_mercy_11
  · have h := ite_f c_3 h
    refine wb_aload_n 0 hX dX10_mercy_12 rfl (pq := 13) rfl ?_
    refine wb_getR hX fl_334 sh_0 rfl dX10_mercy_13 (pq := 16) rfl ?_
    refine wb_aload_n 0 hX dX10_mercy_16 rfl (pq := 17) rfl ?_
    refine wb_getR hX fl_333 sh_0 rfl dX10_mercy_17 (pq := 20) rfl ?_
    obtain ⟨q_5, hc_4, h⟩ := bind_s h
    refine wb_callVv (s1 := q_5) [.ref (G.1 7)] hX sh_13 ml_567 (tAh_look hc_4) (by decide) rfl rfl (Nat.le_of_ble_eq_true rfl) dX10_mercy_20 (pq := 23) rfl ?_
    refine wb_aload_n 0 hX dX10_mercy_23 rfl (pq := 24) rfl ?_
    refine wb_getR hX fl_336 sh_0 rfl dX10_mercy_24 (pq := 27) rfl ?_
    refine wb_aload_n 0 hX dX10_mercy_27 rfl (pq := 28) rfl ?_
    refine wb_getR hX fl_333 sh_0 rfl dX10_mercy_28 (pq := 31) rfl ?_
    refine wb_getI hX fl_109 sh_7 rfl dX10_mercy_31 (pq := 34) rfl ?_
    obtain ⟨q_7, hc_6, h⟩ := bind_s h
    refine wb_callVv (s1 := q_7) [.int (q_5.1 7 4)] hX sh_28 ml_862 (tGr_clear hc_6) (by decide) rfl rfl (Nat.le_of_ble_eq_true rfl) dX10_mercy_34 (pq := 37) rfl ?_
    refine wb_iconst (v := iI (0)) hX dX10_mercy_37 rfl (pq := 38) rfl ?_
    refine wb_istore_n (loc' := [(2, .int (iI (0))), (0, .ref (G.1 0)), (1, .int x1)]) hX hN dX10_mercy_38 (by decide) rfl (pq := 39) rfl ?_
    refine wb_sub [1, 2, 0] (loc' := [(0, .ref (G.1 0)), (1, .int x1), (2, .int (iI (0)))]) rfl ?_
    exact tW_mercy_L39 hX hQ hN 100000 _ _ h
set_option maxHeartbeats 4000000 in
set_option maxRecDepth 100000 in
theorem tW_drought_L40 {G : wG} {X : wX} {x1 : Int32} {r0 : Int32} {s1 : wM} (hX : wOK G X cX10_drought RX10 (some .int) 3) (hQ : wRt G X (wQi G r0 s1)) (hN : wNl X = 3) : ∀ (n : Nat) (x2 : Int32) (s : wM), wh2 (fW_drought_L40 x1) n x2 s = some (r0, s1) → WB G X 40 [(0, .ref (G.1 0)), (1, .int x1), (2, .int x2)] [] s := by
  intro n
  induction n with
  | zero => intro x2 s h; cases h
  | succ n hk40 =>
    intro x2 s h
    have h : fW_drought_L40 x1 x2 s (wh2 (fW_drought_L40 x1) n) = some (r0, s1) := h
    unfold fW_drought_L40 at h
    refine wb_iload_n 2 hX dX10_drought_40 rfl (pq := 41) rfl ?_
    refine wb_bipush (v := iI (100)) hX dX10_drought_41 (by decide) (pq := 43) rfl ?_
    refine wb_icmp_gt (tgt := 79) hX dX10_drought_43 (by decide) (fun c_1 => ?_) (pq := 46) rfl (fun c_1 => ?_)
    · have h := ite_t c_1 h
      refine wb_bipush (v := iI (-2)) hX dX10_drought_79 (by decide) (pq := 81) rfl ?_
      exact wb_iret hX hQ h dX10_drought_81
    · have h := ite_f c_1 h
      refine wb_aload_n 0 hX dX10_drought_46 rfl (pq := 47) rfl ?_
      refine wb_getR hX fl_334 sh_0 rfl dX10_drought_47 (pq := 50) rfl ?_
      refine wb_iload_n 1 hX dX10_drought_50 rfl (pq := 51) rfl ?_
      refine wb_aload_n 0 hX dX10_drought_51 rfl (pq := 52) rfl ?_
      refine wb_getR hX fl_333 sh_0 rfl dX10_drought_52 (pq := 55) rfl ?_
      obtain ⟨q_3, hc_2, h⟩ := bind_s h
      refine wb_callVi (r0 := q_3) (s1 := s) [] hX sh_7 ml_891 (tLand_everyone hc_2) (by decide) rfl rfl (Nat.le_of_ble_eq_true rfl) dX10_drought_55 (pq := 58) rfl ?_
      obtain ⟨q_5, hc_4, h⟩ := bind_s h
      refine wb_callVv (s1 := q_5) [.int x1, .int q_3] hX sh_13 ml_577 (tAh_pass hc_4) (by decide) rfl rfl (Nat.le_of_ble_eq_true rfl) dX10_drought_58 (pq := 61) rfl ?_
      refine wb_aload_n 0 hX dX10_drought_61 rfl (pq := 62) rfl ?_
      refine wb_getR hX fl_334 sh_0 rfl dX10_drought_62 (pq := 65) rfl ?_
      obtain ⟨q_7, hc_6, h⟩ := bind_s h
      refine wb_callVi (r0 := q_7) (s1 := q_5) [] hX sh_13 ml_892 (tAh_allAlike hc_6) (by decide) rfl rfl (Nat.le_of_ble_eq_true rfl) dX10_drought_65 (pq := 68) rfl ?_
      refine wb_if_eq (tgt := 73) hX dX10_drought_68 (by decide) (fun c_8 => ?_) (pq := 71) rfl (fun c_8 => ?_)
      · have h := ite_t c_8 h
        refine wb_iinc (v := (x2 + iI (1))) (loc' := [(2, .int (x2 + iI (1))), (0, .ref (G.1 0)), (1, .int x1)]) 2 hX hN dX10_drought_73 rfl rfl (by decide) rfl (pq := 76) rfl ?_
        refine wb_goto (tgt := 40) hX dX10_drought_76 (by decide) ?_
        refine wb_sub [1, 2, 0] (loc' := [(0, .ref (G.1 0)), (1, .int x1), (2, .int (x2 + iI (1)))]) rfl ?_
        exact hk40 _ _ h
      · have h := ite_f c_8 h
        refine wb_iload_n 2 hX dX10_drought_71 rfl (pq := 72) rfl ?_
        exact wb_iret hX hQ h dX10_drought_72
set_option maxHeartbeats 4000000 in
set_option maxRecDepth 100000 in
theorem tW_drought {l : Launch} {G : wG} {s : wM} {x1 : Int32} {r0 : Int32} {s1 : wM} (h : fW_drought s x1 = some (r0, s1)) : wMet l G yX10_drought cX10_drought 3 (some .int) 3 [.ref (G.1 0), .int x1] s (wQi G r0 s1) := by
  refine wMet_of (own := RX10) (by decide +kernel) rfl (Nat.le_of_ble_eq_true rfl) ?_
  intro X hX hQ hN hl
  show WB G X 0 [(0, .ref (G.1 0)), (1, .int x1)] [] s
  unfold fW_drought at h
  refine wb_iload_n 1 hX dX10_drought_0 rfl (pq := 1) rfl ?_
  refine wb_bipush (v := iI (-9)) hX dX10_drought_1 (by decide) (pq := 3) rfl ?_
  refine wb_bipush (v := iI (9)) hX dX10_drought_3 (by decide) (pq := 5) rfl ?_
  obtain ⟨q_2, hc_1, h⟩ := bind_s h
  refine wb_callSi (r0 := q_2) (s1 := s) [.int x1, .int (iI (-9)), .int (iI (9))] hX ml_467 (tW_isWithin hc_1) (by decide) rfl rfl (Nat.le_of_ble_eq_true rfl) dX10_drought_5 (pq := 8) rfl ?_
  refine wb_if_ne (tgt := 13) hX dX10_drought_8 (by decide) (pq := 11) rfl (fun c_3 => ?_) (fun c_3 => ?_)
  · have h := ite_t c_3 h
    refine wb_iconst (v := iI (-1)) hX dX10_drought_11 rfl (pq := 12) rfl ?_
    exact wb_iret hX hQ h dX10_drought_12
  · have h := ite_f c_3 h
    refine wb_aload_n 0 hX dX10_drought_13 rfl (pq := 14) rfl ?_
    refine wb_getR hX fl_333 sh_0 rfl dX10_drought_14 (pq := 17) rfl ?_
    refine wb_getI hX fl_109 sh_7 rfl dX10_drought_17 (pq := 20) rfl ?_
    refine wb_iconst (v := iI (2)) hX dX10_drought_20 rfl (pq := 21) rfl ?_
    refine wb_icmp_ge (tgt := 27) hX dX10_drought_21 (by decide) (fun c_4 => ?_) (pq := 24) rfl (fun c_4 => ?_)
    · have h := ite_t c_4 h
      refine wb_aload_n 0 hX dX10_drought_27 rfl (pq := 28) rfl ?_
      refine wb_getR hX fl_334 sh_0 rfl dX10_drought_28 (pq := 31) rfl ?_
      refine wb_aload_n 0 hX dX10_drought_31 rfl (pq := 32) rfl ?_
      refine wb_getR hX fl_333 sh_0 rfl dX10_drought_32 (pq := 35) rfl ?_
      obtain ⟨q_6, hc_5, h⟩ := bind_s h
      refine wb_callVv (s1 := q_6) [.ref (G.1 7)] hX sh_13 ml_567 (tAh_look hc_5) (by decide) rfl rfl (Nat.le_of_ble_eq_true rfl) dX10_drought_35 (pq := 38) rfl ?_
      refine wb_iconst (v := iI (1)) hX dX10_drought_38 rfl (pq := 39) rfl ?_
      refine wb_istore_n (loc' := [(2, .int (iI (1))), (0, .ref (G.1 0)), (1, .int x1)]) hX hN dX10_drought_39 (by decide) rfl (pq := 40) rfl ?_
      refine wb_sub [1, 2, 0] (loc' := [(0, .ref (G.1 0)), (1, .int x1), (2, .int (iI (1)))]) rfl ?_
      exact tW_drought_L40 hX hQ hN 100000 _ _ h
    · have h := ite_f c_4 h
      refine wb_bipush (v := iI (-2)) hX dX10_drought_24 (by decide) (pq := 26) rfl ?_
      exact wb_iret hX hQ h dX10_drought_26
set_option maxHeartbeats 4000000 in
set_option maxRecDepth 100000 in
theorem tW_clash_L46 {G : wG} {X : wX} {x3 : Int32} {r0 : Int32} {s1 : wM} (hX : wOK G X cX10_clash RX10 (some .int) 3) (hQ : wRt G X (wQi G r0 s1)) (hN : wNl X = 5) : ∀ (n : Nat) (x4 : Int32) (s : wM), wh2 (fW_clash_L46 x3) n x4 s = some (r0, s1) → WB G X 46 [(0, .ref (G.1 0)), (3, .int x3), (4, .int x4)] [] s := by
  intro n
  induction n with
  | zero => intro x4 s h; cases h
  | succ n hk46 =>
    intro x4 s h
    have h : fW_clash_L46 x3 x4 s (wh2 (fW_clash_L46 x3) n) = some (r0, s1) := h
    unfold fW_clash_L46 at h
    refine wb_iload 2 hX dX10_clash_46 rfl (pq := 48) rfl ?_
    refine wb_bipush (v := iI (100)) hX dX10_clash_48 (by decide) (pq := 50) rfl ?_
    refine wb_icmp_gt (tgt := 82) hX dX10_clash_50 (by decide) (fun c_1 => ?_) (pq := 53) rfl (fun c_1 => ?_)
    · have h := ite_t c_1 h
      refine wb_bipush (v := iI (-2)) hX dX10_clash_82 (by decide) (pq := 84) rfl ?_
      exact wb_iret hX hQ h dX10_clash_84
    · have h := ite_f c_1 h
      refine wb_aload_n 0 hX dX10_clash_53 rfl (pq := 54) rfl ?_
      refine wb_getR hX fl_334 sh_0 rfl dX10_clash_54 (pq := 57) rfl ?_
      refine wb_iconst (v := iI (0)) hX dX10_clash_57 rfl (pq := 58) rfl ?_
      refine wb_iconst (v := iI (0)) hX dX10_clash_58 rfl (pq := 59) rfl ?_
      obtain ⟨q_3, hc_2, h⟩ := bind_s h
      refine wb_callVv (s1 := q_3) [.int (iI (0)), .int (iI (0))] hX sh_13 ml_577 (tAh_pass hc_2) (by decide) rfl rfl (Nat.le_of_ble_eq_true rfl) dX10_clash_59 (pq := 62) rfl ?_
      refine wb_aload_n 0 hX dX10_clash_62 rfl (pq := 63) rfl ?_
      refine wb_getR hX fl_334 sh_0 rfl dX10_clash_63 (pq := 66) rfl ?_
      refine wb_iload_n 1 hX dX10_clash_66 rfl (pq := 67) rfl ?_
      obtain ⟨q_5, hc_4, h⟩ := bind_s h
      refine wb_callVi (r0 := q_5) (s1 := q_3) [.int x3] hX sh_13 ml_905 (tAh_isEven hc_4) (by decide) rfl rfl (Nat.le_of_ble_eq_true rfl) dX10_clash_67 (pq := 70) rfl ?_
      refine wb_if_eq (tgt := 76) hX dX10_clash_70 (by decide) (fun c_6 => ?_) (pq := 73) rfl (fun c_6 => ?_)
      · have h := ite_t c_6 h
        refine wb_iinc (v := (x4 + iI (1))) (loc' := [(4, .int (x4 + iI (1))), (0, .ref (G.1 0)), (3, .int x3)]) 2 hX hN dX10_clash_76 rfl rfl (by decide) rfl (pq := 79) rfl ?_
        refine wb_goto (tgt := 46) hX dX10_clash_79 (by decide) ?_
        refine wb_sub [1, 2, 0] (loc' := [(0, .ref (G.1 0)), (3, .int x3), (4, .int (x4 + iI (1)))]) rfl ?_
        exact hk46 _ _ h
      · have h := ite_f c_6 h
        refine wb_iload 2 hX dX10_clash_73 rfl (pq := 75) rfl ?_
        exact wb_iret hX hQ h dX10_clash_75
set_option maxHeartbeats 4000000 in
set_option maxRecDepth 100000 in
theorem tW_clash {l : Launch} {G : wG} {s : wM} {x1 : Int32} {x2 : Int32} {r0 : Int32} {s1 : wM} (h : fW_clash s x1 x2 = some (r0, s1)) : wMet l G yX10_clash cX10_clash 5 (some .int) 3 [.ref (G.1 0), .int x1, .int x2] s (wQi G r0 s1) := by
  refine wMet_of (own := RX10) (by decide +kernel) rfl (Nat.le_of_ble_eq_true rfl) ?_
  intro X hX hQ hN hl
  show WB G X 0 [(0, .ref (G.1 0)), (1, .int x1), (2, .int x2)] [] s
  unfold fW_clash at h
  refine wb_aload_n 0 hX dX10_clash_0 rfl (pq := 1) rfl ?_
  refine wb_getR hX fl_333 sh_0 rfl dX10_clash_1 (pq := 4) rfl ?_
  refine wb_iload_n 1 hX dX10_clash_4 rfl (pq := 5) rfl ?_
  refine wb_iload_n 2 hX dX10_clash_5 rfl (pq := 6) rfl ?_
  obtain ⟨q_2, hc_1, h⟩ := bind_s h
  refine wb_callVi (r0 := q_2) (s1 := s) [.int x1, .int x2] hX sh_7 ml_451 (tLand_hasTwo hc_1) (by decide) rfl rfl (Nat.le_of_ble_eq_true rfl) dX10_clash_6 (pq := 9) rfl ?_
  refine wb_if_ne (tgt := 14) hX dX10_clash_9 (by decide) (pq := 12) rfl (fun c_3 => ?_) (fun c_3 => ?_)
  · have h := ite_t c_3 h
    refine wb_iconst (v := iI (-1)) hX dX10_clash_12 rfl (pq := 13) rfl ?_
    exact wb_iret hX hQ h dX10_clash_13
  · have h := ite_f c_3 h
    refine wb_aload_n 0 hX dX10_clash_14 rfl (pq := 15) rfl ?_
    refine wb_getR hX fl_334 sh_0 rfl dX10_clash_15 (pq := 18) rfl ?_
    refine wb_aload_n 0 hX dX10_clash_18 rfl (pq := 19) rfl ?_
    refine wb_getR hX fl_333 sh_0 rfl dX10_clash_19 (pq := 22) rfl ?_
    obtain ⟨q_5, hc_4, h⟩ := bind_s h
    refine wb_callVv (s1 := q_5) [.ref (G.1 7)] hX sh_13 ml_567 (tAh_look hc_4) (by decide) rfl rfl (Nat.le_of_ble_eq_true rfl) dX10_clash_22 (pq := 25) rfl ?_
    refine wb_aload_n 0 hX dX10_clash_25 rfl (pq := 26) rfl ?_
    refine wb_getR hX fl_334 sh_0 rfl dX10_clash_26 (pq := 29) rfl ?_
    refine wb_iload_n 1 hX dX10_clash_29 rfl (pq := 30) rfl ?_
    refine wb_iload_n 2 hX dX10_clash_30 rfl (pq := 31) rfl ?_
    obtain ⟨q_7, hc_6, h⟩ := bind_s h
    refine wb_callVi (r0 := q_7) (s1 := q_5) [.int x1, .int x2] hX sh_13 ml_900 (tAh_pairOf hc_6) (by decide) rfl rfl (Nat.le_of_ble_eq_true rfl) dX10_clash_31 (pq := 34) rfl ?_
    refine wb_istore_n (loc' := [(3, .int q_7), (0, .ref (G.1 0)), (1, .int x1), (2, .int x2)]) hX hN dX10_clash_34 (by decide) rfl (pq := 35) rfl ?_
    refine wb_iload_n 0 hX dX10_clash_35 rfl (pq := 36) rfl ?_
    refine wb_iconst (v := iI (-1)) hX dX10_clash_36 rfl (pq := 37) rfl ?_
    refine wb_icmp_ne (tgt := 43) hX dX10_clash_37 (by decide) (pq := 40) rfl (fun c_8 => ?_) (fun c_8 => ?_)
    · have h := ite_t c_8 h
      refine wb_bipush (v := iI (-2)) hX dX10_clash_40 (by decide) (pq := 42) rfl ?_
      exact wb_iret hX hQ h dX10_clash_42
    · have h := ite_f c_8 h
      refine wb_iconst (v := iI (1)) hX dX10_clash_43 rfl (pq := 44) rfl ?_
      refine wb_istore (loc' := [(4, .int (iI (1))), (3, .int q_7), (0, .ref (G.1 0)), (1, .int x1), (2, .int x2)]) hX hN dX10_clash_44 (by decide) rfl (pq := 46) rfl ?_
      refine wb_sub [2, 1, 0] (loc' := [(0, .ref (G.1 0)), (3, .int q_7), (4, .int (iI (1)))]) rfl ?_
      exact tW_clash_L46 hX hQ hN 100000 _ _ h
set_option maxHeartbeats 4000000 in
set_option maxRecDepth 100000 in
theorem tW_payer_J148 {G : wG} {X : wX} {k95 : Int32 → Int32 → Int32 → Option (Int32 × wM)} {x3 : Int32} {x4 : Int32} {v0 : Int32} {s : wM} {r0 : Int32} {s1 : wM} (hX : wOK G X cX10_payer RX10 (some .int) 3) (hQ : wRt G X (wQi G r0 s1)) (hN : wNl X = 5) (hk95 : ∀ (x2 : Int32) (x3 : Int32) (x4 : Int32), k95 x2 x3 x4 = some (r0, s1) → WB G X 95 [(0, .ref (G.1 0)), (2, .int x2), (3, .int x3), (4, .int x4)] [] s) (h : fW_payer_J148 k95 x3 x4 v0 s = some (r0, s1)) : WB G X 148 [(0, .ref (G.1 0)), (3, .int x3), (4, .int x4)] [.int v0] s := by
  unfold fW_payer_J148 at h
  refine wb_istore_n (loc' := [(2, .int v0), (0, .ref (G.1 0)), (3, .int x3), (4, .int x4)]) hX hN dX10_payer_148 (by decide) rfl (pq := 149) rfl ?_
  refine wb_iinc (v := (x4 + iI (1))) (loc' := [(4, .int (x4 + iI (1))), (2, .int v0), (0, .ref (G.1 0)), (3, .int x3)]) 3 hX hN dX10_payer_149 rfl rfl (by decide) rfl (pq := 152) rfl ?_
  refine wb_goto (tgt := 95) hX dX10_payer_152 (by decide) ?_
  refine wb_sub [2, 1, 3, 0] (loc' := [(0, .ref (G.1 0)), (2, .int v0), (3, .int x3), (4, .int (x4 + iI (1)))]) rfl ?_
  exact hk95 _ _ _ h
set_option maxHeartbeats 4000000 in
set_option maxRecDepth 100000 in
theorem tW_payer_L95 {G : wG} {X : wX} {s : wM} {r0 : Int32} {s1 : wM} (hX : wOK G X cX10_payer RX10 (some .int) 3) (hQ : wRt G X (wQi G r0 s1)) (hN : wNl X = 5) : ∀ (n : Nat) (x2 : Int32) (x3 : Int32) (x4 : Int32), wh3 (fW_payer_L95 s) n x2 x3 x4 = some (r0, s1) → WB G X 95 [(0, .ref (G.1 0)), (2, .int x2), (3, .int x3), (4, .int x4)] [] s := by
  intro n
  induction n with
  | zero => intro x2 x3 x4 h; cases h
  | succ n hk95 =>
    intro x2 x3 x4 h
    have h : fW_payer_L95 s x2 x3 x4 (wh3 (fW_payer_L95 s) n) = some (r0, s1) := h
    unfold fW_payer_L95 at h
    refine wb_iload 3 hX dX10_payer_95 rfl (pq := 97) rfl ?_
    refine wb_aload_n 0 hX dX10_payer_97 rfl (pq := 98) rfl ?_
    refine wb_getR hX fl_333 sh_0 rfl dX10_payer_98 (pq := 101) rfl ?_
    refine wb_getI hX fl_109 sh_7 rfl dX10_payer_101 (pq := 104) rfl ?_
    refine wb_icmp_ge (tgt := 155) hX dX10_payer_104 (by decide) (fun c_1 => ?_) (pq := 107) rfl (fun c_1 => ?_)
    · have h := ite_t c_1 h
      refine wb_aload_n 0 hX dX10_payer_155 rfl (pq := 156) rfl ?_
      refine wb_getR hX fl_337 sh_0 rfl dX10_payer_156 (pq := 159) rfl ?_
      refine wb_aload_n 0 hX dX10_payer_159 rfl (pq := 160) rfl ?_
      refine wb_getR hX fl_334 sh_0 rfl dX10_payer_160 (pq := 163) rfl ?_
      refine wb_getR hX fl_141 sh_13 rfl dX10_payer_163 (pq := 166) rfl ?_
      refine wb_iload_n 1 hX dX10_payer_166 rfl (pq := 167) rfl ?_
      obtain ⟨hi_2, h⟩ := chk_some h
      refine wb_iald hX sh_16 hi_2 dX10_payer_167 (pq := 168) rfl ?_
      obtain ⟨q_4, hc_3, h⟩ := bind_s h
      refine wb_callVv (s1 := q_4) [.int (s.1 16 x2.toNatClampNeg)] hX sh_32 ml_539 (tNum_tell hc_3) (by decide) rfl rfl (Nat.le_of_ble_eq_true rfl) dX10_payer_168 (pq := 171) rfl ?_
      refine wb_aload_n 0 hX dX10_payer_171 rfl (pq := 172) rfl ?_
      refine wb_getR hX fl_337 sh_0 rfl dX10_payer_172 (pq := 175) rfl ?_
      refine wb_iload_n 2 hX dX10_payer_175 rfl (pq := 176) rfl ?_
      obtain ⟨q_6, hc_5, h⟩ := bind_s h
      refine wb_callVv (s1 := q_6) [.int x3] hX sh_32 ml_608 (tNum_add hc_5) (by decide) rfl rfl (Nat.le_of_ble_eq_true rfl) dX10_payer_176 (pq := 179) rfl ?_
      refine wb_iload_n 1 hX dX10_payer_179 rfl (pq := 180) rfl ?_
      exact wb_iret hX hQ h dX10_payer_180
    · have h := ite_f c_1 h
      refine wb_iload_n 2 hX dX10_payer_107 rfl (pq := 108) rfl ?_
      refine wb_aload_n 0 hX dX10_payer_108 rfl (pq := 109) rfl ?_
      refine wb_getR hX fl_334 sh_0 rfl dX10_payer_109 (pq := 112) rfl ?_
      refine wb_getR hX fl_141 sh_13 rfl dX10_payer_112 (pq := 115) rfl ?_
      refine wb_iload 3 hX dX10_payer_115 rfl (pq := 117) rfl ?_
      obtain ⟨hi_7, h⟩ := chk_some h
      refine wb_iald hX sh_16 hi_7 dX10_payer_117 (pq := 118) rfl ?_
      refine wb_iadd hX dX10_payer_118 (pq := 119) rfl ?_
      refine wb_istore_n (loc' := [(3, .int (x3 + (s.1 16 x4.toNatClampNeg))), (0, .ref (G.1 0)), (2, .int x2), (4, .int x4)]) hX hN dX10_payer_119 (by decide) rfl (pq := 120) rfl ?_
      refine wb_aload_n 1 hX dX10_payer_120 rfl (pq := 121) rfl ?_
      refine wb_getR hX fl_334 sh_0 rfl dX10_payer_121 (pq := 124) rfl ?_
      refine wb_getR hX fl_141 sh_13 rfl dX10_payer_124 (pq := 127) rfl ?_
      refine wb_iload 3 hX dX10_payer_127 rfl (pq := 129) rfl ?_
      refine wb_iald hX sh_16 hi_7 dX10_payer_129 (pq := 130) rfl ?_
      refine wb_aload_n 1 hX dX10_payer_130 rfl (pq := 131) rfl ?_
      refine wb_getR hX fl_334 sh_0 rfl dX10_payer_131 (pq := 134) rfl ?_
      refine wb_getR hX fl_141 sh_13 rfl dX10_payer_134 (pq := 137) rfl ?_
      refine wb_iload_n 2 hX dX10_payer_137 rfl (pq := 138) rfl ?_
      obtain ⟨hi_8, h⟩ := chk_some h
      refine wb_iald hX sh_16 hi_8 dX10_payer_138 (pq := 139) rfl ?_
      refine wb_icmp_le (tgt := 147) hX dX10_payer_139 (by decide) (fun c_9 => ?_) (pq := 142) rfl (fun c_9 => ?_)
      · have h := ite_t c_9 h
        refine wb_iload_n 2 hX dX10_payer_147 rfl (pq := 148) rfl ?_
        refine wb_sub [1, 0, 3] (loc' := [(0, .ref (G.1 0)), (3, .int (x3 + (s.1 16 x4.toNatClampNeg))), (4, .int x4)]) rfl ?_
        exact tW_payer_J148 hX hQ hN hk95 h
      · have h := ite_f c_9 h
        refine wb_iload 3 hX dX10_payer_142 rfl (pq := 144) rfl ?_
        refine wb_goto (tgt := 148) hX dX10_payer_144 (by decide) ?_
        refine wb_sub [1, 0, 3] (loc' := [(0, .ref (G.1 0)), (3, .int (x3 + (s.1 16 x4.toNatClampNeg))), (4, .int x4)]) rfl ?_
        exact tW_payer_J148 hX hQ hN hk95 h
set_option maxHeartbeats 4000000 in
set_option maxRecDepth 100000 in
theorem tW_payer_L45 {G : wG} {X : wX} {x1 : Int32} {r0 : Int32} {s1 : wM} (hX : wOK G X cX10_payer RX10 (some .int) 3) (hQ : wRt G X (wQi G r0 s1)) (hN : wNl X = 5) : ∀ (n : Nat) (x2 : Int32) (s : wM), wh2 (fW_payer_L45 x1) n x2 s = some (r0, s1) → WB G X 45 [(0, .ref (G.1 0)), (1, .int x1), (2, .int x2)] [] s := by
  intro n
  induction n with
  | zero => intro x2 s h; cases h
  | succ n hk45 =>
    intro x2 s h
    have h : fW_payer_L45 x1 x2 s (wh2 (fW_payer_L45 x1) n) = some (r0, s1) := h
    unfold fW_payer_L45 at h
    refine wb_iload_n 2 hX dX10_payer_45 rfl (pq := 46) rfl ?_
    refine wb_iload_n 1 hX dX10_payer_46 rfl (pq := 47) rfl ?_
    refine wb_icmp_ge (tgt := 88) hX dX10_payer_47 (by decide) (fun c_1 => ?_) (pq := 50) rfl (fun c_1 => ?_)
    · have h := ite_t c_1 h
      refine wb_iconst (v := iI (0)) hX dX10_payer_88 rfl (pq := 89) rfl ?_
      refine wb_istore_n (loc' := [(2, .int (iI (0))), (0, .ref (G.1 0)), (1, .int x1)]) hX hN dX10_payer_89 (by decide) rfl (pq := 90) rfl ?_
      refine wb_iconst (v := iI (0)) hX dX10_payer_90 rfl (pq := 91) rfl ?_
      refine wb_istore_n (loc' := [(3, .int (iI (0))), (2, .int (iI (0))), (0, .ref (G.1 0)), (1, .int x1)]) hX hN dX10_payer_91 (by decide) rfl (pq := 92) rfl ?_
      refine wb_iconst (v := iI (0)) hX dX10_payer_92 rfl (pq := 93) rfl ?_
      refine wb_istore (loc' := [(4, .int (iI (0))), (3, .int (iI (0))), (2, .int (iI (0))), (0, .ref (G.1 0)), (1, .int x1)]) hX hN dX10_payer_93 (by decide) rfl (pq := 95) rfl ?_
      refine wb_sub [3, 2, 1, 0] (loc' := [(0, .ref (G.1 0)), (2, .int (iI (0))), (3, .int (iI (0))), (4, .int (iI (0)))]) rfl ?_
      exact tW_payer_L95 hX hQ hN 100000 _ _ _ h
    · have h := ite_f c_1 h
      refine wb_aload_n 0 hX dX10_payer_50 rfl (pq := 51) rfl ?_
      refine wb_getR hX fl_334 sh_0 rfl dX10_payer_51 (pq := 54) rfl ?_
      refine wb_iconst (v := iI (0)) hX dX10_payer_54 rfl (pq := 55) rfl ?_
      refine wb_iconst (v := iI (0)) hX dX10_payer_55 rfl (pq := 56) rfl ?_
      obtain ⟨q_3, hc_2, h⟩ := bind_s h
      refine wb_callVv (s1 := q_3) [.int (iI (0)), .int (iI (0))] hX sh_13 ml_577 (tAh_pass hc_2) (by decide) rfl rfl (Nat.le_of_ble_eq_true rfl) dX10_payer_56 (pq := 59) rfl ?_
      refine wb_aload_n 0 hX dX10_payer_59 rfl (pq := 60) rfl ?_
      refine wb_getR hX fl_334 sh_0 rfl dX10_payer_60 (pq := 63) rfl ?_
      refine wb_aload_n 0 hX dX10_payer_63 rfl (pq := 64) rfl ?_
      refine wb_getR hX fl_334 sh_0 rfl dX10_payer_64 (pq := 67) rfl ?_
      refine wb_getR hX fl_141 sh_13 rfl dX10_payer_67 (pq := 70) rfl ?_
      refine wb_aload_n 0 hX dX10_payer_70 rfl (pq := 71) rfl ?_
      refine wb_getR hX fl_333 sh_0 rfl dX10_payer_71 (pq := 74) rfl ?_
      refine wb_getR hX fl_103 sh_7 rfl dX10_payer_74 (pq := 77) rfl ?_
      refine wb_iconst (v := iI (1)) hX dX10_payer_77 rfl (pq := 78) rfl ?_
      refine wb_iald hX sh_11 (by unfold vp_in; decide) dX10_payer_78 (pq := 79) rfl ?_
      obtain ⟨q_5, hc_4, h⟩ := bind_s h
      refine wb_callVv (s1 := q_5) [.ref (G.1 16), .int (q_3.1 11 (iI (1)).toNatClampNeg)] hX sh_13 ml_596 (tAh_payInto sh_16 hc_4) (by decide) rfl rfl (Nat.le_of_ble_eq_true rfl) dX10_payer_79 (pq := 82) rfl ?_
      refine wb_iinc (v := (x2 + iI (1))) (loc' := [(2, .int (x2 + iI (1))), (0, .ref (G.1 0)), (1, .int x1)]) 2 hX hN dX10_payer_82 rfl rfl (by decide) rfl (pq := 85) rfl ?_
      refine wb_goto (tgt := 45) hX dX10_payer_85 (by decide) ?_
      refine wb_sub [1, 2, 0] (loc' := [(0, .ref (G.1 0)), (1, .int x1), (2, .int (x2 + iI (1)))]) rfl ?_
      exact hk45 _ _ h
set_option maxHeartbeats 4000000 in
set_option maxRecDepth 100000 in
theorem tW_payer {l : Launch} {G : wG} {s : wM} {x1 : Int32} {r0 : Int32} {s1 : wM} (h : fW_payer s x1 = some (r0, s1)) : wMet l G yX10_payer cX10_payer 5 (some .int) 3 [.ref (G.1 0), .int x1] s (wQi G r0 s1) := by
  refine wMet_of (own := RX10) (by decide +kernel) rfl (Nat.le_of_ble_eq_true rfl) ?_
  intro X hX hQ hN hl
  show WB G X 0 [(0, .ref (G.1 0)), (1, .int x1)] [] s
  unfold fW_payer at h
  refine wb_iload_n 1 hX dX10_payer_0 rfl (pq := 1) rfl ?_
  refine wb_iconst (v := iI (0)) hX dX10_payer_1 rfl (pq := 2) rfl ?_
  refine wb_bipush (v := iI (100)) hX dX10_payer_2 (by decide) (pq := 4) rfl ?_
  obtain ⟨q_2, hc_1, h⟩ := bind_s h
  refine wb_callSi (r0 := q_2) (s1 := s) [.int x1, .int (iI (0)), .int (iI (100))] hX ml_467 (tW_isWithin hc_1) (by decide) rfl rfl (Nat.le_of_ble_eq_true rfl) dX10_payer_4 (pq := 7) rfl ?_
  refine wb_if_ne (tgt := 12) hX dX10_payer_7 (by decide) (pq := 10) rfl (fun c_3 => ?_) (fun c_3 => ?_)
  · have h := ite_t c_3 h
    refine wb_iconst (v := iI (-1)) hX dX10_payer_10 rfl (pq := 11) rfl ?_
    exact wb_iret hX hQ h dX10_payer_11
  · have h := ite_f c_3 h
    refine wb_aload_n 0 hX dX10_payer_12 rfl (pq := 13) rfl ?_
    refine wb_getR hX fl_333 sh_0 rfl dX10_payer_13 (pq := 16) rfl ?_
    refine wb_getI hX fl_109 sh_7 rfl dX10_payer_16 (pq := 19) rfl ?_
    refine wb_if_ne (tgt := 25) hX dX10_payer_19 (by decide) (pq := 22) rfl (fun c_4 => ?_) (fun c_4 => ?_)
    · have h := ite_t c_4 h
      refine wb_bipush (v := iI (-2)) hX dX10_payer_22 (by decide) (pq := 24) rfl ?_
      exact wb_iret hX hQ h dX10_payer_24
    · have h := ite_f c_4 h
      refine wb_aload_n 0 hX dX10_payer_25 rfl (pq := 26) rfl ?_
      refine wb_getR hX fl_334 sh_0 rfl dX10_payer_26 (pq := 29) rfl ?_
      refine wb_aload_n 0 hX dX10_payer_29 rfl (pq := 30) rfl ?_
      refine wb_getR hX fl_333 sh_0 rfl dX10_payer_30 (pq := 33) rfl ?_
      obtain ⟨q_6, hc_5, h⟩ := bind_s h
      refine wb_callVv (s1 := q_6) [.ref (G.1 7)] hX sh_13 ml_567 (tAh_look hc_5) (by decide) rfl rfl (Nat.le_of_ble_eq_true rfl) dX10_payer_33 (pq := 36) rfl ?_
      refine wb_aload_n 0 hX dX10_payer_36 rfl (pq := 37) rfl ?_
      refine wb_getR hX fl_334 sh_0 rfl dX10_payer_37 (pq := 40) rfl ?_
      obtain ⟨q_8, hc_7, h⟩ := bind_s h
      refine wb_callVv (s1 := q_8) [] hX sh_13 ml_910 (tAh_clearPaid hc_7) (by decide) rfl rfl (Nat.le_of_ble_eq_true rfl) dX10_payer_40 (pq := 43) rfl ?_
      refine wb_iconst (v := iI (0)) hX dX10_payer_43 rfl (pq := 44) rfl ?_
      refine wb_istore_n (loc' := [(2, .int (iI (0))), (0, .ref (G.1 0)), (1, .int x1)]) hX hN dX10_payer_44 (by decide) rfl (pq := 45) rfl ?_
      refine wb_sub [1, 2, 0] (loc' := [(0, .ref (G.1 0)), (1, .int x1), (2, .int (iI (0)))]) rfl ?_
      exact tW_payer_L45 hX hQ hN 100000 _ _ h
