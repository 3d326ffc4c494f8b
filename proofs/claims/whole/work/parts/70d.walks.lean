set_option maxHeartbeats 4000000 in
set_option maxRecDepth 100000 in
theorem tW_evenAfterRain {l : Launch} {G : wG} {s : wM} {x1 : Int32} {x2 : Int32} {r0 : Int32} {s1 : wM} (h : fW_evenAfterRain s x1 x2 = some (r0, s1)) : wMet l G yX10_evenAfterRain cX10_evenAfterRain 3 (some .int) 3 [.ref (G.1 0), .int x1, .int x2] s (wQi G r0 s1) := by
  refine wMet_of (own := RX10) (by decide +kernel) rfl (Nat.le_of_ble_eq_true rfl) ?_
  intro X hX hQ hN hl
  show WB G X 0 [(0, .ref (G.1 0)), (1, .int x1), (2, .int x2)] [] s
  unfold fW_evenAfterRain at h
  refine wb_aload_n 0 hX dX10_evenAfterRain_0 rfl (pq := 1) rfl ?_
  refine wb_getR hX fl_334 sh_0 rfl dX10_evenAfterRain_1 (pq := 4) rfl ?_
  refine wb_aload_n 0 hX dX10_evenAfterRain_4 rfl (pq := 5) rfl ?_
  refine wb_getR hX fl_333 sh_0 rfl dX10_evenAfterRain_5 (pq := 8) rfl ?_
  obtain ⟨q_2, hc_1, h⟩ := bind_s h
  refine wb_callVv (s1 := q_2) [.ref (G.1 7)] hX sh_13 ml_567 (tAh_look hc_1) (by decide) rfl rfl (Nat.le_of_ble_eq_true rfl) dX10_evenAfterRain_8 (pq := 11) rfl ?_
  refine wb_aload_n 0 hX dX10_evenAfterRain_11 rfl (pq := 12) rfl ?_
  refine wb_getR hX fl_334 sh_0 rfl dX10_evenAfterRain_12 (pq := 15) rfl ?_
  refine wb_iload_n 1 hX dX10_evenAfterRain_15 rfl (pq := 16) rfl ?_
  refine wb_iload_n 2 hX dX10_evenAfterRain_16 rfl (pq := 17) rfl ?_
  obtain ⟨q_4, hc_3, h⟩ := bind_s h
  refine wb_callVv (s1 := q_4) [.int x1, .int x2] hX sh_13 ml_577 (tAh_pass hc_3) (by decide) rfl rfl (Nat.le_of_ble_eq_true rfl) dX10_evenAfterRain_17 (pq := 20) rfl ?_
  refine wb_aload_n 0 hX dX10_evenAfterRain_20 rfl (pq := 21) rfl ?_
  refine wb_getR hX fl_334 sh_0 rfl dX10_evenAfterRain_21 (pq := 24) rfl ?_
  obtain ⟨q_6, hc_5, h⟩ := bind_s h
  refine wb_callVi (r0 := q_6) (s1 := q_4) [] hX sh_13 ml_604 (tAh_evenPairs hc_5) (by decide) rfl rfl (Nat.le_of_ble_eq_true rfl) dX10_evenAfterRain_24 (pq := 27) rfl ?_
  exact wb_iret hX hQ h dX10_evenAfterRain_27
set_option maxHeartbeats 4000000 in
set_option maxRecDepth 100000 in
theorem tW_pray_J66 {G : wG} {X : wX} {k26 : Int32 → Int32 → Int32 → wM → Option (Int32 × wM)} {k38 : Int32 → Int32 → Int32 → wM → Option (Int32 × wM)} {x1 : Int32} {x2 : Int32} {x3 : Int32} {x4 : Int32} {x5 : Int32} {s : wM} {r0 : Int32} {s1 : wM} (hX : wOK G X cX10_pray RX10 (some .int) 4) (hQ : wRt G X (wQi G r0 s1)) (hN : wNl X = 7) (hk26 : ∀ (x2 : Int32) (x3 : Int32) (x4 : Int32) (s : wM), k26 x2 x3 x4 s = some (r0, s1) → WB G X 26 [(0, .ref (G.1 0)), (1, .int x1), (2, .int x2), (3, .int x3), (4, .int x4)] [] s) (hk38 : ∀ (x2 : Int32) (x3 : Int32) (x5 : Int32) (s : wM), k38 x2 x3 x5 s = some (r0, s1) → WB G X 38 [(0, .ref (G.1 0)), (1, .int x1), (2, .int x2), (3, .int x3), (4, .int x4), (5, .int x5)] [] s) (h : fW_pray_J66 k26 k38 x1 x2 x3 x4 x5 s = some (r0, s1)) : WB G X 66 [(0, .ref (G.1 0)), (1, .int x1), (2, .int x2), (3, .int x3), (4, .int x4), (5, .int x5)] [] s := by
  unfold fW_pray_J66 at h
  refine wb_iload 5 hX dX10_pray_66 rfl (pq := 68) rfl ?_
  refine wb_iconst (v := iI (2)) hX dX10_pray_68 rfl (pq := 69) rfl ?_
  refine wb_iload 4 hX dX10_pray_69 rfl (pq := 71) rfl ?_
  refine wb_imul hX dX10_pray_71 (pq := 72) rfl ?_
  refine wb_iadd hX dX10_pray_72 (pq := 73) rfl ?_
  refine wb_istore (loc' := [(5, .int (x5 + ((iI (2)) * x4))), (0, .ref (G.1 0)), (1, .int x1), (2, .int x2), (3, .int x3), (4, .int x4)]) hX hN dX10_pray_73 (by decide) rfl (pq := 75) rfl ?_
  refine wb_goto (tgt := 38) hX dX10_pray_75 (by decide) ?_
  refine wb_sub [1, 2, 3, 4, 5, 0] (loc' := [(0, .ref (G.1 0)), (1, .int x1), (2, .int x2), (3, .int x3), (4, .int x4), (5, .int (x5 + ((iI (2)) * x4)))]) rfl ?_
  exact hk38 _ _ _ _ h
set_option maxHeartbeats 4000000 in
set_option maxRecDepth 100000 in
theorem tW_pray_L38 {G : wG} {X : wX} {k26 : Int32 → Int32 → Int32 → wM → Option (Int32 × wM)} {x1 : Int32} {x4 : Int32} {r0 : Int32} {s1 : wM} (hX : wOK G X cX10_pray RX10 (some .int) 4) (hQ : wRt G X (wQi G r0 s1)) (hN : wNl X = 7) (hk26 : ∀ (x2 : Int32) (x3 : Int32) (x4 : Int32) (s : wM), k26 x2 x3 x4 s = some (r0, s1) → WB G X 26 [(0, .ref (G.1 0)), (1, .int x1), (2, .int x2), (3, .int x3), (4, .int x4)] [] s) : ∀ (n : Nat) (x2 : Int32) (x3 : Int32) (x5 : Int32) (s : wM), wh4 (fW_pray_L38 k26 x1 x4) n x2 x3 x5 s = some (r0, s1) → WB G X 38 [(0, .ref (G.1 0)), (1, .int x1), (2, .int x2), (3, .int x3), (4, .int x4), (5, .int x5)] [] s := by
  intro n
  induction n with
  | zero => intro x2 x3 x5 s h; cases h
  | succ n hk38 =>
    intro x2 x3 x5 s h
    have h : fW_pray_L38 k26 x1 x4 x2 x3 x5 s (wh4 (fW_pray_L38 k26 x1 x4) n) = some (r0, s1) := h
    unfold fW_pray_L38 at h
    refine wb_iload 5 hX dX10_pray_38 rfl (pq := 40) rfl ?_
    refine wb_iload 4 hX dX10_pray_40 rfl (pq := 42) rfl ?_
    refine wb_icmp_gt (tgt := 78) hX dX10_pray_42 (by decide) (fun c_1 => ?_) (pq := 45) rfl (fun c_1 => ?_)
    · have h := ite_t c_1 h
      refine wb_iinc (v := (x4 + iI (1))) (loc' := [(4, .int (x4 + iI (1))), (0, .ref (G.1 0)), (1, .int x1), (2, .int x2), (3, .int x3), (5, .int x5)]) 4 hX hN dX10_pray_78 rfl rfl (by decide) rfl (pq := 81) rfl ?_
      refine wb_goto (tgt := 26) hX dX10_pray_81 (by decide) ?_
      refine wb_sub [1, 2, 3, 4, 0] (loc' := [(0, .ref (G.1 0)), (1, .int x1), (2, .int x2), (3, .int x3), (4, .int (x4 + iI (1)))]) rfl ?_
      exact hk26 _ _ _ _ h
    · have h := ite_f c_1 h
      refine wb_aload_n 0 hX dX10_pray_45 rfl (pq := 46) rfl ?_
      refine wb_iload 5 hX dX10_pray_46 rfl (pq := 48) rfl ?_
      refine wb_iload_n 1 hX dX10_pray_48 rfl (pq := 49) rfl ?_
      obtain ⟨q_3, hc_2, h⟩ := bind_s h
      refine wb_callVi (r0 := q_3.1) (s1 := q_3.2) [.int x5, .int x1] hX sh_0 ml_918 (tW_evenAfterRain hc_2) (by decide) rfl rfl (Nat.le_of_ble_eq_true rfl) dX10_pray_49 (pq := 52) rfl ?_
      refine wb_istore (loc' := [(6, .int q_3.1), (0, .ref (G.1 0)), (1, .int x1), (2, .int x2), (3, .int x3), (4, .int x4), (5, .int x5)]) hX hN dX10_pray_52 (by decide) rfl (pq := 54) rfl ?_
      refine wb_iload 0 hX dX10_pray_54 rfl (pq := 56) rfl ?_
      refine wb_iload_n 4 hX dX10_pray_56 rfl (pq := 57) rfl ?_
      refine wb_icmp_ge (tgt := 66) hX dX10_pray_57 (by decide) (fun c_4 => ?_) (pq := 60) rfl (fun c_4 => ?_)
      · have h := ite_t c_4 h
        refine wb_sub [1, 2, 3, 4, 5, 6] (loc' := [(0, .ref (G.1 0)), (1, .int x1), (2, .int x2), (3, .int x3), (4, .int x4), (5, .int x5)]) rfl ?_
        exact tW_pray_J66 hX hQ hN hk26 hk38 h
      · have h := ite_f c_4 h
        refine wb_iload 0 hX dX10_pray_60 rfl (pq := 62) rfl ?_
        refine wb_istore_n (loc' := [(3, .int q_3.1), (6, .int q_3.1), (0, .ref (G.1 0)), (1, .int x1), (2, .int x2), (4, .int x4), (5, .int x5)]) hX hN dX10_pray_62 (by decide) rfl (pq := 63) rfl ?_
        refine wb_iload 6 hX dX10_pray_63 rfl (pq := 65) rfl ?_
        refine wb_istore_n (loc' := [(2, .int x5), (3, .int q_3.1), (6, .int q_3.1), (0, .ref (G.1 0)), (1, .int x1), (4, .int x4), (5, .int x5)]) hX hN dX10_pray_65 (by decide) rfl (pq := 66) rfl ?_
        refine wb_sub [3, 4, 0, 1, 5, 6] (loc' := [(0, .ref (G.1 0)), (1, .int x1), (2, .int x5), (3, .int q_3.1), (4, .int x4), (5, .int x5)]) rfl ?_
        exact tW_pray_J66 hX hQ hN hk26 hk38 h
set_option maxHeartbeats 4000000 in
set_option maxRecDepth 100000 in
theorem tW_pray_L26 {G : wG} {X : wX} {x1 : Int32} {r0 : Int32} {s1 : wM} (hX : wOK G X cX10_pray RX10 (some .int) 4) (hQ : wRt G X (wQi G r0 s1)) (hN : wNl X = 7) : ∀ (n : Nat) (x2 : Int32) (x3 : Int32) (x4 : Int32) (s : wM), wh4 (fW_pray_L26 x1) n x2 x3 x4 s = some (r0, s1) → WB G X 26 [(0, .ref (G.1 0)), (1, .int x1), (2, .int x2), (3, .int x3), (4, .int x4)] [] s := by
  intro n
  induction n with
  | zero => intro x2 x3 x4 s h; cases h
  | succ n hk26 =>
    intro x2 x3 x4 s h
    have h : fW_pray_L26 x1 x2 x3 x4 s (wh4 (fW_pray_L26 x1) n) = some (r0, s1) := h
    unfold fW_pray_L26 at h
    refine wb_iload 4 hX dX10_pray_26 rfl (pq := 28) rfl ?_
    refine wb_bipush (v := iI (9)) hX dX10_pray_28 (by decide) (pq := 30) rfl ?_
    refine wb_icmp_gt (tgt := 84) hX dX10_pray_30 (by decide) (fun c_1 => ?_) (pq := 33) rfl (fun c_1 => ?_)
    · have h := ite_t c_1 h
      refine wb_aload_n 0 hX dX10_pray_84 rfl (pq := 85) rfl ?_
      refine wb_getR hX fl_337 sh_0 rfl dX10_pray_85 (pq := 88) rfl ?_
      refine wb_iload_n 3 hX dX10_pray_88 rfl (pq := 89) rfl ?_
      obtain ⟨q_3, hc_2, h⟩ := bind_s h
      refine wb_callVv (s1 := q_3) [.int x3] hX sh_32 ml_539 (tNum_tell hc_2) (by decide) rfl rfl (Nat.le_of_ble_eq_true rfl) dX10_pray_89 (pq := 92) rfl ?_
      refine wb_iload_n 2 hX dX10_pray_92 rfl (pq := 93) rfl ?_
      exact wb_iret hX hQ h dX10_pray_93
    · have h := ite_f c_1 h
      refine wb_iload 4 hX dX10_pray_33 rfl (pq := 35) rfl ?_
      refine wb_ineg hX dX10_pray_35 (pq := 36) rfl ?_
      refine wb_istore (loc' := [(5, .int (-x4)), (0, .ref (G.1 0)), (1, .int x1), (2, .int x2), (3, .int x3), (4, .int x4)]) hX hN dX10_pray_36 (by decide) rfl (pq := 38) rfl ?_
      refine wb_sub [1, 2, 3, 4, 5, 0] (loc' := [(0, .ref (G.1 0)), (1, .int x1), (2, .int x2), (3, .int x3), (4, .int x4), (5, .int (-x4))]) rfl ?_
      exact tW_pray_L38 hX hQ hN hk26 100000 _ _ _ _ h
set_option maxHeartbeats 4000000 in
set_option maxRecDepth 100000 in
theorem tW_pray {l : Launch} {G : wG} {s : wM} {x1 : Int32} {r0 : Int32} {s1 : wM} (h : fW_pray s x1 = some (r0, s1)) : wMet l G yX10_pray cX10_pray 7 (some .int) 4 [.ref (G.1 0), .int x1] s (wQi G r0 s1) := by
  refine wMet_of (own := RX10) (by decide +kernel) rfl (Nat.le_of_ble_eq_true rfl) ?_
  intro X hX hQ hN hl
  show WB G X 0 [(0, .ref (G.1 0)), (1, .int x1)] [] s
  unfold fW_pray at h
  refine wb_aload_n 0 hX dX10_pray_0 rfl (pq := 1) rfl ?_
  refine wb_getR hX fl_333 sh_0 rfl dX10_pray_1 (pq := 4) rfl ?_
  refine wb_iload_n 1 hX dX10_pray_4 rfl (pq := 5) rfl ?_
  obtain ⟨q_2, hc_1, h⟩ := bind_s h
  refine wb_callVi (r0 := q_2) (s1 := s) [.int x1] hX sh_7 ml_555 (tLand_hasAll hc_1) (by decide) rfl rfl (Nat.le_of_ble_eq_true rfl) dX10_pray_5 (pq := 8) rfl ?_
  refine wb_if_ne (tgt := 14) hX dX10_pray_8 (by decide) (pq := 11) rfl (fun c_3 => ?_) (fun c_3 => ?_)
  · have h := ite_t c_3 h
    refine wb_bipush (v := iI (-10)) hX dX10_pray_11 (by decide) (pq := 13) rfl ?_
    exact wb_iret hX hQ h dX10_pray_13
  · have h := ite_f c_3 h
    refine wb_iconst (v := iI (0)) hX dX10_pray_14 rfl (pq := 15) rfl ?_
    refine wb_istore_n (loc' := [(2, .int (iI (0))), (0, .ref (G.1 0)), (1, .int x1)]) hX hN dX10_pray_15 (by decide) rfl (pq := 16) rfl ?_
    refine wb_aload_n 1 hX dX10_pray_16 rfl (pq := 17) rfl ?_
    refine wb_iconst (v := iI (0)) hX dX10_pray_17 rfl (pq := 18) rfl ?_
    refine wb_iload_n 2 hX dX10_pray_18 rfl (pq := 19) rfl ?_
    obtain ⟨q_5, hc_4, h⟩ := bind_s h
    refine wb_callVi (r0 := q_5.1) (s1 := q_5.2) [.int (iI (0)), .int x1] hX sh_0 ml_918 (tW_evenAfterRain hc_4) (by decide) rfl rfl (Nat.le_of_ble_eq_true rfl) dX10_pray_19 (pq := 22) rfl ?_
    refine wb_istore_n (loc' := [(3, .int q_5.1), (2, .int (iI (0))), (0, .ref (G.1 0)), (1, .int x1)]) hX hN dX10_pray_22 (by decide) rfl (pq := 23) rfl ?_
    refine wb_iconst (v := iI (1)) hX dX10_pray_23 rfl (pq := 24) rfl ?_
    refine wb_istore (loc' := [(4, .int (iI (1))), (3, .int q_5.1), (2, .int (iI (0))), (0, .ref (G.1 0)), (1, .int x1)]) hX hN dX10_pray_24 (by decide) rfl (pq := 26) rfl ?_
    refine wb_sub [3, 4, 2, 1, 0] (loc' := [(0, .ref (G.1 0)), (1, .int x1), (2, .int (iI (0))), (3, .int q_5.1), (4, .int (iI (1)))]) rfl ?_
    exact tW_pray_L26 hX hQ hN 100000 _ _ _ _ h
set_option maxHeartbeats 4000000 in
set_option maxRecDepth 100000 in
theorem tW_seal_J101 {G : wG} {X : wX} {k17 : Int32 → Int32 → Int32 → wM → Option (Int32 × wM)} {x1 : Int32} {x2 : Int32} {x3 : Int32} {s : wM} {r0 : Int32} {s1 : wM} (hX : wOK G X cX10_seal RX10 (some .int) 4) (hQ : wRt G X (wQi G r0 s1)) (hN : wNl X = 6) (hk17 : ∀ (x1 : Int32) (x2 : Int32) (x3 : Int32) (s : wM), k17 x1 x2 x3 s = some (r0, s1) → WB G X 17 [(0, .ref (G.1 0)), (1, .int x1), (2, .int x2), (3, .int x3)] [] s) (h : fW_seal_J101 k17 x1 x2 x3 s = some (r0, s1)) : WB G X 101 [(0, .ref (G.1 0)), (1, .int x1), (2, .int x2), (3, .int x3)] [] s := by
  unfold fW_seal_J101 at h
  refine wb_iinc (v := (x3 + iI (1))) (loc' := [(3, .int (x3 + iI (1))), (0, .ref (G.1 0)), (1, .int x1), (2, .int x2)]) 3 hX hN dX10_seal_101 rfl rfl (by decide) rfl (pq := 104) rfl ?_
  refine wb_goto (tgt := 17) hX dX10_seal_104 (by decide) ?_
  refine wb_sub [1, 2, 3, 0] (loc' := [(0, .ref (G.1 0)), (1, .int x1), (2, .int x2), (3, .int (x3 + iI (1)))]) rfl ?_
  exact hk17 _ _ _ _ h
set_option maxHeartbeats 4000000 in
set_option maxRecDepth 100000 in
theorem tW_seal_J96 {G : wG} {X : wX} {k17 : Int32 → Int32 → Int32 → wM → Option (Int32 × wM)} {x3 : Int32} {x5 : Int32} {s : wM} {r0 : Int32} {s1 : wM} (hX : wOK G X cX10_seal RX10 (some .int) 4) (hQ : wRt G X (wQi G r0 s1)) (hN : wNl X = 6) (hk17 : ∀ (x1 : Int32) (x2 : Int32) (x3 : Int32) (s : wM), k17 x1 x2 x3 s = some (r0, s1) → WB G X 17 [(0, .ref (G.1 0)), (1, .int x1), (2, .int x2), (3, .int x3)] [] s) (h : fW_seal_J96 k17 x3 x5 s = some (r0, s1)) : WB G X 96 [(0, .ref (G.1 0)), (3, .int x3), (5, .int x5)] [] s := by
  unfold fW_seal_J96 at h
  refine wb_iload_n 1 hX dX10_seal_96 rfl (pq := 97) rfl ?_
  refine wb_istore_n (loc' := [(1, .int x3), (0, .ref (G.1 0)), (3, .int x3), (5, .int x5)]) hX hN dX10_seal_97 (by decide) rfl (pq := 98) rfl ?_
  refine wb_iload 3 hX dX10_seal_98 rfl (pq := 100) rfl ?_
  refine wb_istore_n (loc' := [(2, .int x5), (1, .int x3), (0, .ref (G.1 0)), (3, .int x3), (5, .int x5)]) hX hN dX10_seal_100 (by decide) rfl (pq := 101) rfl ?_
  refine wb_sub [2, 1, 0, 3] (loc' := [(0, .ref (G.1 0)), (1, .int x3), (2, .int x5), (3, .int x3)]) rfl ?_
  exact tW_seal_J101 hX hQ hN hk17 h
set_option maxHeartbeats 4000000 in
set_option maxRecDepth 100000 in
theorem tW_seal_L17 {G : wG} {X : wX} {r0 : Int32} {s1 : wM} (hX : wOK G X cX10_seal RX10 (some .int) 4) (hQ : wRt G X (wQi G r0 s1)) (hN : wNl X = 6) : ∀ (n : Nat) (x1 : Int32) (x2 : Int32) (x3 : Int32) (s : wM), wh4 (fW_seal_L17) n x1 x2 x3 s = some (r0, s1) → WB G X 17 [(0, .ref (G.1 0)), (1, .int x1), (2, .int x2), (3, .int x3)] [] s := by
  intro n
  induction n with
  | zero => intro x1 x2 x3 s h; cases h
  | succ n hk17 =>
    intro x1 x2 x3 s h
    have h : fW_seal_L17 x1 x2 x3 s (wh4 (fW_seal_L17) n) = some (r0, s1) := h
    unfold fW_seal_L17 at h
    refine wb_iload_n 3 hX dX10_seal_17 rfl (pq := 18) rfl ?_
    refine wb_aload_n 0 hX dX10_seal_18 rfl (pq := 19) rfl ?_
    refine wb_getR hX fl_334 sh_0 rfl dX10_seal_19 (pq := 22) rfl ?_
    refine wb_getI hX fl_149 sh_13 rfl dX10_seal_22 (pq := 25) rfl ?_
    refine wb_icmp_ge (tgt := 107) hX dX10_seal_25 (by decide) (fun c_1 => ?_) (pq := 28) rfl (fun c_1 => ?_)
    · have h := ite_t c_1 h
      refine wb_iload_n 1 hX dX10_seal_107 rfl (pq := 108) rfl ?_
      refine wb_iconst (v := iI (-1)) hX dX10_seal_108 rfl (pq := 109) rfl ?_
      refine wb_icmp_ne (tgt := 115) hX dX10_seal_109 (by decide) (pq := 112) rfl (fun c_2 => ?_) (fun c_2 => ?_)
      · have h := ite_t c_2 h
        refine wb_bipush (v := iI (-2)) hX dX10_seal_112 (by decide) (pq := 114) rfl ?_
        exact wb_iret hX hQ h dX10_seal_114
      · have h := ite_f c_2 h
        refine wb_aload_n 0 hX dX10_seal_115 rfl (pq := 116) rfl ?_
        refine wb_getR hX fl_337 sh_0 rfl dX10_seal_116 (pq := 119) rfl ?_
        refine wb_aload_n 0 hX dX10_seal_119 rfl (pq := 120) rfl ?_
        refine wb_getR hX fl_334 sh_0 rfl dX10_seal_120 (pq := 123) rfl ?_
        refine wb_getR hX fl_145 sh_13 rfl dX10_seal_123 (pq := 126) rfl ?_
        refine wb_iload_n 1 hX dX10_seal_126 rfl (pq := 127) rfl ?_
        obtain ⟨hi_3, h⟩ := chk_some h
        refine wb_iald hX sh_18 hi_3 dX10_seal_127 (pq := 128) rfl ?_
        obtain ⟨q_5, hc_4, h⟩ := bind_s h
        refine wb_callVv (s1 := q_5) [.int (s.1 18 x1.toNatClampNeg)] hX sh_32 ml_539 (tNum_tell hc_4) (by decide) rfl rfl (Nat.le_of_ble_eq_true rfl) dX10_seal_128 (pq := 131) rfl ?_
        refine wb_aload_n 0 hX dX10_seal_131 rfl (pq := 132) rfl ?_
        refine wb_getR hX fl_337 sh_0 rfl dX10_seal_132 (pq := 135) rfl ?_
        refine wb_iload_n 2 hX dX10_seal_135 rfl (pq := 136) rfl ?_
        obtain ⟨q_7, hc_6, h⟩ := bind_s h
        refine wb_callSi (r0 := q_7) (s1 := q_5) [.int x2] hX ml_834 (tW_weeksTold hc_6) (by decide) rfl rfl (Nat.le_of_ble_eq_true rfl) dX10_seal_136 (pq := 139) rfl ?_
        obtain ⟨q_9, hc_8, h⟩ := bind_s h
        refine wb_callVv (s1 := q_9) [.int q_7] hX sh_32 ml_608 (tNum_add hc_8) (by decide) rfl rfl (Nat.le_of_ble_eq_true rfl) dX10_seal_139 (pq := 142) rfl ?_
        refine wb_aload_n 0 hX dX10_seal_142 rfl (pq := 143) rfl ?_
        refine wb_getR hX fl_334 sh_0 rfl dX10_seal_143 (pq := 146) rfl ?_
        refine wb_getR hX fl_143 sh_13 rfl dX10_seal_146 (pq := 149) rfl ?_
        refine wb_iload_n 1 hX dX10_seal_149 rfl (pq := 150) rfl ?_
        refine wb_iald hX sh_17 hi_3 dX10_seal_150 (pq := 151) rfl ?_
        exact wb_iret hX hQ h dX10_seal_151
    · have h := ite_f c_1 h
      refine wb_aload_n 0 hX dX10_seal_28 rfl (pq := 29) rfl ?_
      refine wb_getR hX fl_334 sh_0 rfl dX10_seal_29 (pq := 32) rfl ?_
      refine wb_getR hX fl_147 sh_13 rfl dX10_seal_32 (pq := 35) rfl ?_
      refine wb_iload_n 3 hX dX10_seal_35 rfl (pq := 36) rfl ?_
      obtain ⟨hi_10, h⟩ := chk_some h
      refine wb_iald hX sh_19 hi_10 dX10_seal_36 (pq := 37) rfl ?_
      refine wb_istore (loc' := [(4, .int (s.1 19 x3.toNatClampNeg)), (0, .ref (G.1 0)), (1, .int x1), (2, .int x2), (3, .int x3)]) hX hN dX10_seal_37 (by decide) rfl (pq := 39) rfl ?_
      refine wb_iload 0 hX dX10_seal_39 rfl (pq := 41) rfl ?_
      refine wb_if_le (tgt := 101) hX dX10_seal_41 (by decide) (fun c_11 => ?_) (pq := 44) rfl (fun c_11 => ?_)
      · have h := ite_t c_11 h
        refine wb_sub [1, 2, 3, 4] (loc' := [(0, .ref (G.1 0)), (1, .int x1), (2, .int x2), (3, .int x3)]) rfl ?_
        exact tW_seal_J101 hX hQ hN hk17 h
      · have h := ite_f c_11 h
        refine wb_aload_n 1 hX dX10_seal_44 rfl (pq := 45) rfl ?_
        refine wb_getR hX fl_334 sh_0 rfl dX10_seal_45 (pq := 48) rfl ?_
        refine wb_aload_n 1 hX dX10_seal_48 rfl (pq := 49) rfl ?_
        refine wb_getR hX fl_333 sh_0 rfl dX10_seal_49 (pq := 52) rfl ?_
        obtain ⟨q_13, hc_12, h⟩ := bind_s h
        refine wb_callVv (s1 := q_13) [.ref (G.1 7)] hX sh_13 ml_926 (tAh_rewind hc_12) (by decide) rfl rfl (Nat.le_of_ble_eq_true rfl) dX10_seal_52 (pq := 55) rfl ?_
        refine wb_aload_n 1 hX dX10_seal_55 rfl (pq := 56) rfl ?_
        refine wb_getR hX fl_334 sh_0 rfl dX10_seal_56 (pq := 59) rfl ?_
        refine wb_getR hX fl_147 sh_13 rfl dX10_seal_59 (pq := 62) rfl ?_
        refine wb_iload_n 4 hX dX10_seal_62 rfl (pq := 63) rfl ?_
        refine wb_iconst (v := iI (0)) hX dX10_seal_63 rfl (pq := 64) rfl ?_
        refine wb_iast hX sh_19 hi_10 dX10_seal_64 (pq := 65) rfl ?_
        refine wb_mem (fun s_14 es_14 => ?_)
        have h := nmM_s h s_14 es_14
        refine wb_aload_n 1 hX dX10_seal_65 rfl (pq := 66) rfl ?_
        refine wb_getR hX fl_334 sh_0 rfl dX10_seal_66 (pq := 69) rfl ?_
        obtain ⟨q_16, hc_15, h⟩ := bind_s h
        refine wb_callVi (r0 := q_16.1) (s1 := q_16.2) [] hX sh_13 ml_828 (tAh_lasting hc_15) (by decide) rfl rfl (Nat.le_of_ble_eq_true rfl) dX10_seal_69 (pq := 72) rfl ?_
        refine wb_istore (loc' := [(5, .int q_16.1), (4, .int (s.1 19 x3.toNatClampNeg)), (0, .ref (G.1 0)), (1, .int x1), (2, .int x2), (3, .int x3)]) hX hN dX10_seal_72 (by decide) rfl (pq := 74) rfl ?_
        refine wb_aload_n 2 hX dX10_seal_74 rfl (pq := 75) rfl ?_
        refine wb_getR hX fl_334 sh_0 rfl dX10_seal_75 (pq := 78) rfl ?_
        refine wb_getR hX fl_147 sh_13 rfl dX10_seal_78 (pq := 81) rfl ?_
        refine wb_iload_n 5 hX dX10_seal_81 rfl (pq := 82) rfl ?_
        refine wb_iload 1 hX dX10_seal_82 rfl (pq := 84) rfl ?_
        refine wb_iast hX sh_19 hi_10 dX10_seal_84 (pq := 85) rfl ?_
        refine wb_mem (fun s_17 es_17 => ?_)
        have h := nmM_s h s_17 es_17
        refine wb_iload_n 3 hX dX10_seal_85 rfl (pq := 86) rfl ?_
        refine wb_iconst (v := iI (-1)) hX dX10_seal_86 rfl (pq := 87) rfl ?_
        refine wb_icmp_eq (tgt := 96) hX dX10_seal_87 (by decide) (fun c_18 => ?_) (pq := 90) rfl (fun c_18 => ?_)
        · have h := ite_t c_18 h
          refine wb_sub [2, 5, 0] (loc' := [(0, .ref (G.1 0)), (3, .int x3), (5, .int q_16.1)]) rfl ?_
          exact tW_seal_J96 hX hQ hN hk17 h
        · have h := ite_f c_18 h
          refine wb_iload 0 hX dX10_seal_90 rfl (pq := 92) rfl ?_
          refine wb_iload_n 4 hX dX10_seal_92 rfl (pq := 93) rfl ?_
          refine wb_icmp_le (tgt := 101) hX dX10_seal_93 (by decide) (fun c_19 => ?_) (pq := 96) rfl (fun c_19 => ?_)
          · have h := ite_t c_19 h
            refine wb_sub [2, 3, 4, 5] (loc' := [(0, .ref (G.1 0)), (1, .int x1), (2, .int x2), (3, .int x3)]) rfl ?_
            exact tW_seal_J101 hX hQ hN hk17 h
          · have h := ite_f c_19 h
            refine wb_sub [2, 5, 0] (loc' := [(0, .ref (G.1 0)), (3, .int x3), (5, .int q_16.1)]) rfl ?_
            exact tW_seal_J96 hX hQ hN hk17 h
set_option maxHeartbeats 4000000 in
set_option maxRecDepth 100000 in
theorem tW_seal {l : Launch} {G : wG} {s : wM} {r0 : Int32} {s1 : wM} (h : fW_seal s = some (r0, s1)) : wMet l G yX10_seal cX10_seal 6 (some .int) 4 [.ref (G.1 0)] s (wQi G r0 s1) := by
  refine wMet_of (own := RX10) (by decide +kernel) rfl (Nat.le_of_ble_eq_true rfl) ?_
  intro X hX hQ hN hl
  show WB G X 0 [(0, .ref (G.1 0))] [] s
  unfold fW_seal at h
  refine wb_aload_n 0 hX dX10_seal_0 rfl (pq := 1) rfl ?_
  refine wb_getR hX fl_334 sh_0 rfl dX10_seal_1 (pq := 4) rfl ?_
  refine wb_aload_n 0 hX dX10_seal_4 rfl (pq := 5) rfl ?_
  refine wb_getR hX fl_333 sh_0 rfl dX10_seal_5 (pq := 8) rfl ?_
  obtain ⟨q_2, hc_1, h⟩ := bind_s h
  refine wb_callVv (s1 := q_2) [.ref (G.1 7)] hX sh_13 ml_567 (tAh_look hc_1) (by decide) rfl rfl (Nat.le_of_ble_eq_true rfl) dX10_seal_8 (pq := 11) rfl ?_
  refine wb_iconst (v := iI (-1)) hX dX10_seal_11 rfl (pq := 12) rfl ?_
  refine wb_istore_n (loc' := [(1, .int (iI (-1))), (0, .ref (G.1 0))]) hX hN dX10_seal_12 (by decide) rfl (pq := 13) rfl ?_
  refine wb_iconst (v := iI (0)) hX dX10_seal_13 rfl (pq := 14) rfl ?_
  refine wb_istore_n (loc' := [(2, .int (iI (0))), (1, .int (iI (-1))), (0, .ref (G.1 0))]) hX hN dX10_seal_14 (by decide) rfl (pq := 15) rfl ?_
  refine wb_iconst (v := iI (0)) hX dX10_seal_15 rfl (pq := 16) rfl ?_
  refine wb_istore_n (loc' := [(3, .int (iI (0))), (2, .int (iI (0))), (1, .int (iI (-1))), (0, .ref (G.1 0))]) hX hN dX10_seal_16 (by decide) rfl (pq := 17) rfl ?_
  refine wb_sub [3, 2, 1, 0] (loc' := [(0, .ref (G.1 0)), (1, .int (iI (-1))), (2, .int (iI (0))), (3, .int (iI (0)))]) rfl ?_
  exact tW_seal_L17 hX hQ hN 100000 _ _ _ _ h
set_option maxHeartbeats 4000000 in
set_option maxRecDepth 100000 in
theorem tW_road_J22 {G : wG} {X : wX} {s : wM} {r0 : Int32} {s1 : wM} (hX : wOK G X cX10_road RX10 (some .int) 3) (hQ : wRt G X (wQi G r0 s1)) (hN : wNl X = 6) (h : fW_road_J22 s = some (r0, s1)) : WB G X 22 [] [] s := by
  unfold fW_road_J22 at h
  refine wb_iconst (v := iI (-1)) hX dX10_road_22 rfl (pq := 23) rfl ?_
  exact wb_iret hX hQ h dX10_road_23
set_option maxHeartbeats 4000000 in
set_option maxRecDepth 100000 in
theorem tW_road_L76 {G : wG} {X : wX} {x3 : Int32} {r0 : Int32} {s1 : wM} (hX : wOK G X cX10_road RX10 (some .int) 3) (hQ : wRt G X (wQi G r0 s1)) (hN : wNl X = 6) : ∀ (n : Nat) (x4 : Int32) (x5 : Int32) (s : wM), wh3 (fW_road_L76 x3) n x4 x5 s = some (r0, s1) → WB G X 76 [(0, .ref (G.1 0)), (3, .int x3), (4, .int x4), (5, .int x5)] [] s := by
  intro n
  induction n with
  | zero => intro x4 x5 s h; cases h
  | succ n hk76 =>
    intro x4 x5 s h
    have h : fW_road_L76 x3 x4 x5 s (wh3 (fW_road_L76 x3) n) = some (r0, s1) := h
    unfold fW_road_L76 at h
    refine wb_iload 3 hX dX10_road_76 rfl (pq := 78) rfl ?_
    refine wb_if_le (tgt := 109) hX dX10_road_78 (by decide) (fun c_1 => ?_) (pq := 81) rfl (fun c_1 => ?_)
    · have h := ite_t c_1 h
      refine wb_iload_n 1 hX dX10_road_109 rfl (pq := 110) rfl ?_
      exact wb_iret hX hQ h dX10_road_110
    · have h := ite_f c_1 h
      refine wb_aload_n 0 hX dX10_road_81 rfl (pq := 82) rfl ?_
      refine wb_getR hX fl_336 sh_0 rfl dX10_road_82 (pq := 85) rfl ?_
      refine wb_iload 2 hX dX10_road_85 rfl (pq := 87) rfl ?_
      refine wb_iload 3 hX dX10_road_87 rfl (pq := 89) rfl ?_
      obtain ⟨q_3, hc_2, h⟩ := bind_s h
      refine wb_callVi (r0 := q_3) (s1 := s) [.int x4, .int x5] hX sh_28 ml_939 (tGr_nearer hc_2) (by decide) rfl rfl (Nat.le_of_ble_eq_true rfl) dX10_road_89 (pq := 92) rfl ?_
      refine wb_istore (loc' := [(4, .int q_3), (0, .ref (G.1 0)), (3, .int x3), (5, .int x5)]) hX hN dX10_road_92 (by decide) rfl (pq := 94) rfl ?_
      refine wb_aload_n 1 hX dX10_road_94 rfl (pq := 95) rfl ?_
      refine wb_getR hX fl_337 sh_0 rfl dX10_road_95 (pq := 98) rfl ?_
      refine wb_iload 0 hX dX10_road_98 rfl (pq := 100) rfl ?_
      obtain ⟨q_5, hc_4, h⟩ := bind_s h
      refine wb_callVv (s1 := q_5) [.int q_3] hX sh_32 ml_608 (tNum_add hc_4) (by decide) rfl rfl (Nat.le_of_ble_eq_true rfl) dX10_road_100 (pq := 103) rfl ?_
      refine wb_iinc (v := (x5 + iI (-1))) (loc' := [(5, .int (x5 + iI (-1))), (4, .int q_3), (0, .ref (G.1 0)), (3, .int x3)]) 3 hX hN dX10_road_103 rfl rfl (by decide) rfl (pq := 106) rfl ?_
      refine wb_goto (tgt := 76) hX dX10_road_106 (by decide) ?_
      refine wb_sub [2, 3, 1, 0] (loc' := [(0, .ref (G.1 0)), (3, .int x3), (4, .int q_3), (5, .int (x5 + iI (-1)))]) rfl ?_
      exact hk76 _ _ _ h
set_option maxHeartbeats 4000000 in
set_option maxRecDepth 100000 in
theorem tW_road {l : Launch} {G : wG} {s : wM} {x1 : Int32} {x2 : Int32} {r0 : Int32} {s1 : wM} (h : fW_road s x1 x2 = some (r0, s1)) : wMet l G yX10_road cX10_road 6 (some .int) 3 [.ref (G.1 0), .int x1, .int x2] s (wQi G r0 s1) := by
  refine wMet_of (own := RX10) (by decide +kernel) rfl (Nat.le_of_ble_eq_true rfl) ?_
  intro X hX hQ hN hl
  show WB G X 0 [(0, .ref (G.1 0)), (1, .int x1), (2, .int x2)] [] s
  unfold fW_road at h
  refine wb_aload_n 0 hX dX10_road_0 rfl (pq := 1) rfl ?_
  refine wb_getR hX fl_333 sh_0 rfl dX10_road_1 (pq := 4) rfl ?_
  refine wb_iload_n 1 hX dX10_road_4 rfl (pq := 5) rfl ?_
  obtain ⟨q_2, hc_1, h⟩ := bind_s h
  refine wb_callVi (r0 := q_2) (s1 := s) [.int x1] hX sh_7 ml_478 (tLand_has hc_1) (by decide) rfl rfl (Nat.le_of_ble_eq_true rfl) dX10_road_5 (pq := 8) rfl ?_
  refine wb_if_eq (tgt := 22) hX dX10_road_8 (by decide) (fun c_3 => ?_) (pq := 11) rfl (fun c_3 => ?_)
  · have h := ite_t c_3 h
    refine wb_sub [] (loc' := []) rfl ?_
    exact tW_road_J22 hX hQ hN h
  · have h := ite_f c_3 h
    refine wb_aload_n 0 hX dX10_road_11 rfl (pq := 12) rfl ?_
    refine wb_getR hX fl_333 sh_0 rfl dX10_road_12 (pq := 15) rfl ?_
    refine wb_iload_n 2 hX dX10_road_15 rfl (pq := 16) rfl ?_
    obtain ⟨q_5, hc_4, h⟩ := bind_s h
    refine wb_callVi (r0 := q_5) (s1 := s) [.int x2] hX sh_7 ml_478 (tLand_has hc_4) (by decide) rfl rfl (Nat.le_of_ble_eq_true rfl) dX10_road_16 (pq := 19) rfl ?_
    refine wb_if_ne (tgt := 24) hX dX10_road_19 (by decide) (pq := 22) rfl (fun c_6 => ?_) (fun c_6 => ?_)
    · have h := ite_t c_6 h
      refine wb_sub [] (loc' := []) rfl ?_
      exact tW_road_J22 hX hQ hN h
    · have h := ite_f c_6 h
      refine wb_aload_n 0 hX dX10_road_24 rfl (pq := 25) rfl ?_
      refine wb_getR hX fl_336 sh_0 rfl dX10_road_25 (pq := 28) rfl ?_
      refine wb_aload_n 0 hX dX10_road_28 rfl (pq := 29) rfl ?_
      refine wb_getR hX fl_333 sh_0 rfl dX10_road_29 (pq := 32) rfl ?_
      obtain ⟨q_8, hc_7, h⟩ := bind_s h
      refine wb_callVv (s1 := q_8) [.ref (G.1 7)] hX sh_28 ml_781 (tGr_look hc_7) (by decide) rfl rfl (Nat.le_of_ble_eq_true rfl) dX10_road_32 (pq := 35) rfl ?_
      refine wb_aload_n 0 hX dX10_road_35 rfl (pq := 36) rfl ?_
      refine wb_getR hX fl_336 sh_0 rfl dX10_road_36 (pq := 39) rfl ?_
      refine wb_iload_n 2 hX dX10_road_39 rfl (pq := 40) rfl ?_
      obtain ⟨q_10, hc_9, h⟩ := bind_s h
      refine wb_callVv (s1 := q_10) [.int x2] hX sh_28 ml_931 (tGr_measureTo hc_9) (by decide) rfl rfl (Nat.le_of_ble_eq_true rfl) dX10_road_40 (pq := 43) rfl ?_
      refine wb_aload_n 0 hX dX10_road_43 rfl (pq := 44) rfl ?_
      refine wb_getR hX fl_336 sh_0 rfl dX10_road_44 (pq := 47) rfl ?_
      refine wb_getR hX fl_240 sh_28 rfl dX10_road_47 (pq := 50) rfl ?_
      refine wb_iload_n 1 hX dX10_road_50 rfl (pq := 51) rfl ?_
      obtain ⟨hi_11, h⟩ := chk_some h
      refine wb_iald hX sh_30 hi_11 dX10_road_51 (pq := 52) rfl ?_
      refine wb_istore_n (loc' := [(3, .int (q_10.1 30 x1.toNatClampNeg)), (0, .ref (G.1 0)), (1, .int x1), (2, .int x2)]) hX hN dX10_road_52 (by decide) rfl (pq := 53) rfl ?_
      refine wb_iload_n 0 hX dX10_road_53 rfl (pq := 54) rfl ?_
      refine wb_iconst (v := iI (-1)) hX dX10_road_54 rfl (pq := 55) rfl ?_
      refine wb_icmp_ne (tgt := 61) hX dX10_road_55 (by decide) (pq := 58) rfl (fun c_12 => ?_) (fun c_12 => ?_)
      · have h := ite_t c_12 h
        refine wb_bipush (v := iI (-2)) hX dX10_road_58 (by decide) (pq := 60) rfl ?_
        exact wb_iret hX hQ h dX10_road_60
      · have h := ite_f c_12 h
        refine wb_aload_n 1 hX dX10_road_61 rfl (pq := 62) rfl ?_
        refine wb_getR hX fl_337 sh_0 rfl dX10_road_62 (pq := 65) rfl ?_
        obtain ⟨q_14, hc_13, h⟩ := bind_s h
        refine wb_callVv (s1 := q_14) [] hX sh_32 ml_642 (tNum_clear hc_13) (by decide) rfl rfl (Nat.le_of_ble_eq_true rfl) dX10_road_65 (pq := 68) rfl ?_
        refine wb_iload_n 2 hX dX10_road_68 rfl (pq := 69) rfl ?_
        refine wb_istore (loc' := [(4, .int x1), (3, .int (q_10.1 30 x1.toNatClampNeg)), (0, .ref (G.1 0)), (1, .int x1), (2, .int x2)]) hX hN dX10_road_69 (by decide) rfl (pq := 71) rfl ?_
        refine wb_iload_n 1 hX dX10_road_71 rfl (pq := 72) rfl ?_
        refine wb_iconst (v := iI (1)) hX dX10_road_72 rfl (pq := 73) rfl ?_
        refine wb_isub hX dX10_road_73 (pq := 74) rfl ?_
        refine wb_topi (fun y_15 ey_15 => ?_)
        have h := nmI_s h y_15 ey_15
        refine wb_istore (loc' := [(5, .int y_15), (4, .int x1), (3, .int (q_10.1 30 x1.toNatClampNeg)), (0, .ref (G.1 0)), (1, .int x1), (2, .int x2)]) hX hN dX10_road_74 (by decide) rfl (pq := 76) rfl ?_
        refine wb_sub [3, 2, 1, 0] (loc' := [(0, .ref (G.1 0)), (3, .int (q_10.1 30 x1.toNatClampNeg)), (4, .int x1), (5, .int y_15)]) rfl ?_
        exact tW_road_L76 hX hQ hN 100000 _ _ _ h
set_option maxHeartbeats 4000000 in
set_option maxRecDepth 100000 in
theorem tW_boon_J135 {G : wG} {X : wX} {k39 : Int32 → Int32 → Int32 → wM → Option (Int32 × wM)} {x1 : Int32} {x2 : Int32} {x3 : Int32} {x4 : Int32} {s : wM} {r0 : Int32} {s1 : wM} (hX : wOK G X cX10_boon RX10 (some .int) 4) (hQ : wRt G X (wQi G r0 s1)) (hN : wNl X = 6) (hk39 : ∀ (x2 : Int32) (x3 : Int32) (x4 : Int32) (s : wM), k39 x2 x3 x4 s = some (r0, s1) → WB G X 39 [(0, .ref (G.1 0)), (1, .int x1), (2, .int x2), (3, .int x3), (4, .int x4)] [] s) (h : fW_boon_J135 k39 x1 x2 x3 x4 s = some (r0, s1)) : WB G X 135 [(0, .ref (G.1 0)), (1, .int x1), (2, .int x2), (3, .int x3), (4, .int x4)] [] s := by
  unfold fW_boon_J135 at h
  refine wb_iinc (v := (x4 + iI (1))) (loc' := [(4, .int (x4 + iI (1))), (0, .ref (G.1 0)), (1, .int x1), (2, .int x2), (3, .int x3)]) 4 hX hN dX10_boon_135 rfl rfl (by decide) rfl (pq := 138) rfl ?_
  refine wb_goto (tgt := 39) hX dX10_boon_138 (by decide) ?_
  refine wb_sub [1, 2, 3, 4, 0] (loc' := [(0, .ref (G.1 0)), (1, .int x1), (2, .int x2), (3, .int x3), (4, .int (x4 + iI (1)))]) rfl ?_
  exact hk39 _ _ _ _ h
set_option maxHeartbeats 4000000 in
set_option maxRecDepth 100000 in
theorem tW_boon_J129 {G : wG} {X : wX} {k39 : Int32 → Int32 → Int32 → wM → Option (Int32 × wM)} {x1 : Int32} {x4 : Int32} {x5 : Int32} {s : wM} {r0 : Int32} {s1 : wM} (hX : wOK G X cX10_boon RX10 (some .int) 4) (hQ : wRt G X (wQi G r0 s1)) (hN : wNl X = 6) (hk39 : ∀ (x2 : Int32) (x3 : Int32) (x4 : Int32) (s : wM), k39 x2 x3 x4 s = some (r0, s1) → WB G X 39 [(0, .ref (G.1 0)), (1, .int x1), (2, .int x2), (3, .int x3), (4, .int x4)] [] s) (h : fW_boon_J129 k39 x1 x4 x5 s = some (r0, s1)) : WB G X 129 [(0, .ref (G.1 0)), (1, .int x1), (4, .int x4), (5, .int x5)] [] s := by
  unfold fW_boon_J129 at h
  refine wb_iload 2 hX dX10_boon_129 rfl (pq := 131) rfl ?_
  refine wb_istore_n (loc' := [(2, .int x4), (0, .ref (G.1 0)), (1, .int x1), (4, .int x4), (5, .int x5)]) hX hN dX10_boon_131 (by decide) rfl (pq := 132) rfl ?_
  refine wb_iload 4 hX dX10_boon_132 rfl (pq := 134) rfl ?_
  refine wb_istore_n (loc' := [(3, .int x5), (2, .int x4), (0, .ref (G.1 0)), (1, .int x1), (4, .int x4), (5, .int x5)]) hX hN dX10_boon_134 (by decide) rfl (pq := 135) rfl ?_
  refine wb_sub [2, 3, 1, 0, 4] (loc' := [(0, .ref (G.1 0)), (1, .int x1), (2, .int x4), (3, .int x5), (4, .int x4)]) rfl ?_
  exact tW_boon_J135 hX hQ hN hk39 h
set_option maxHeartbeats 4000000 in
set_option maxRecDepth 100000 in
theorem tW_boon_L39 {G : wG} {X : wX} {x1 : Int32} {r0 : Int32} {s1 : wM} (hX : wOK G X cX10_boon RX10 (some .int) 4) (hQ : wRt G X (wQi G r0 s1)) (hN : wNl X = 6) : ∀ (n : Nat) (x2 : Int32) (x3 : Int32) (x4 : Int32) (s : wM), wh4 (fW_boon_L39 x1) n x2 x3 x4 s = some (r0, s1) → WB G X 39 [(0, .ref (G.1 0)), (1, .int x1), (2, .int x2), (3, .int x3), (4, .int x4)] [] s := by
  intro n
  induction n with
  | zero => intro x2 x3 x4 s h; cases h
  | succ n hk39 =>
    intro x2 x3 x4 s h
    have h : fW_boon_L39 x1 x2 x3 x4 s (wh4 (fW_boon_L39 x1) n) = some (r0, s1) := h
    unfold fW_boon_L39 at h
    refine wb_iload 4 hX dX10_boon_39 rfl (pq := 41) rfl ?_
    refine wb_aload_n 0 hX dX10_boon_41 rfl (pq := 42) rfl ?_
    refine wb_getR hX fl_333 sh_0 rfl dX10_boon_42 (pq := 45) rfl ?_
    refine wb_getI hX fl_109 sh_7 rfl dX10_boon_45 (pq := 48) rfl ?_
    refine wb_icmp_ge (tgt := 141) hX dX10_boon_48 (by decide) (fun c_1 => ?_) (pq := 51) rfl (fun c_1 => ?_)
    · have h := ite_t c_1 h
      refine wb_aload_n 0 hX dX10_boon_141 rfl (pq := 142) rfl ?_
      refine wb_getR hX fl_337 sh_0 rfl dX10_boon_142 (pq := 145) rfl ?_
      refine wb_iload_n 3 hX dX10_boon_145 rfl (pq := 146) rfl ?_
      obtain ⟨q_3, hc_2, h⟩ := bind_s h
      refine wb_callSi (r0 := q_3) (s1 := s) [.int x3] hX ml_834 (tW_weeksTold hc_2) (by decide) rfl rfl (Nat.le_of_ble_eq_true rfl) dX10_boon_146 (pq := 149) rfl ?_
      obtain ⟨q_5, hc_4, h⟩ := bind_s h
      refine wb_callVv (s1 := q_5) [.int q_3] hX sh_32 ml_539 (tNum_tell hc_4) (by decide) rfl rfl (Nat.le_of_ble_eq_true rfl) dX10_boon_149 (pq := 152) rfl ?_
      refine wb_aload_n 0 hX dX10_boon_152 rfl (pq := 153) rfl ?_
      refine wb_getR hX fl_337 sh_0 rfl dX10_boon_153 (pq := 156) rfl ?_
      refine wb_iload_n 1 hX dX10_boon_156 rfl (pq := 157) rfl ?_
      obtain ⟨q_7, hc_6, h⟩ := bind_s h
      refine wb_callSi (r0 := q_7) (s1 := q_5) [.int x1] hX ml_834 (tW_weeksTold hc_6) (by decide) rfl rfl (Nat.le_of_ble_eq_true rfl) dX10_boon_157 (pq := 160) rfl ?_
      obtain ⟨q_9, hc_8, h⟩ := bind_s h
      refine wb_callVv (s1 := q_9) [.int q_7] hX sh_32 ml_608 (tNum_add hc_8) (by decide) rfl rfl (Nat.le_of_ble_eq_true rfl) dX10_boon_160 (pq := 163) rfl ?_
      refine wb_iload_n 2 hX dX10_boon_163 rfl (pq := 164) rfl ?_
      exact wb_iret hX hQ h dX10_boon_164
    · have h := ite_f c_1 h
      refine wb_aload_n 0 hX dX10_boon_51 rfl (pq := 52) rfl ?_
      refine wb_getR hX fl_334 sh_0 rfl dX10_boon_52 (pq := 55) rfl ?_
      refine wb_aload_n 0 hX dX10_boon_55 rfl (pq := 56) rfl ?_
      refine wb_getR hX fl_333 sh_0 rfl dX10_boon_56 (pq := 59) rfl ?_
      obtain ⟨q_11, hc_10, h⟩ := bind_s h
      refine wb_callVv (s1 := q_11) [.ref (G.1 7)] hX sh_13 ml_926 (tAh_rewind hc_10) (by decide) rfl rfl (Nat.le_of_ble_eq_true rfl) dX10_boon_59 (pq := 62) rfl ?_
      refine wb_aload_n 0 hX dX10_boon_62 rfl (pq := 63) rfl ?_
      refine wb_getR hX fl_334 sh_0 rfl dX10_boon_63 (pq := 66) rfl ?_
      refine wb_getR hX fl_139 sh_13 rfl dX10_boon_66 (pq := 69) rfl ?_
      refine wb_iload 4 hX dX10_boon_69 rfl (pq := 71) rfl ?_
      refine wb_bipush (v := iI (9)) hX dX10_boon_71 (by decide) (pq := 73) rfl ?_
      refine wb_aload_n 0 hX dX10_boon_73 rfl (pq := 74) rfl ?_
      refine wb_getR hX fl_333 sh_0 rfl dX10_boon_74 (pq := 77) rfl ?_
      refine wb_getR hX fl_95 sh_7 rfl dX10_boon_77 (pq := 80) rfl ?_
      refine wb_iload 4 hX dX10_boon_80 rfl (pq := 82) rfl ?_
      obtain ⟨hi_12, h⟩ := chk_some h
      refine wb_iald hX sh_9 hi_12 dX10_boon_82 (pq := 83) rfl ?_
      refine wb_iconst (v := iI (1)) hX dX10_boon_83 rfl (pq := 84) rfl ?_
      refine wb_iadd hX dX10_boon_84 (pq := 85) rfl ?_
      refine wb_mmin hX k_489 k_394 k_14 k_395 (Nat.le_of_ble_eq_true rfl) dX10_boon_85 (pq := 88) rfl ?_
      refine wb_iast hX sh_15 hi_12 dX10_boon_88 (pq := 89) rfl ?_
      refine wb_mem (fun s_13 es_13 => ?_)
      have h := nmM_s h s_13 es_13
      refine wb_aload_n 0 hX dX10_boon_89 rfl (pq := 90) rfl ?_
      refine wb_getR hX fl_334 sh_0 rfl dX10_boon_90 (pq := 93) rfl ?_
      obtain ⟨q_15, hc_14, h⟩ := bind_s h
      refine wb_callVi (r0 := q_15.1) (s1 := q_15.2) [] hX sh_13 ml_828 (tAh_lasting hc_14) (by decide) rfl rfl (Nat.le_of_ble_eq_true rfl) dX10_boon_93 (pq := 96) rfl ?_
      refine wb_istore (loc' := [(5, .int q_15.1), (0, .ref (G.1 0)), (1, .int x1), (2, .int x2), (3, .int x3), (4, .int x4)]) hX hN dX10_boon_96 (by decide) rfl (pq := 98) rfl ?_
      refine wb_aload_n 1 hX dX10_boon_98 rfl (pq := 99) rfl ?_
      refine wb_getR hX fl_334 sh_0 rfl dX10_boon_99 (pq := 102) rfl ?_
      refine wb_getR hX fl_139 sh_13 rfl dX10_boon_102 (pq := 105) rfl ?_
      refine wb_iload 5 hX dX10_boon_105 rfl (pq := 107) rfl ?_
      refine wb_aload_n 1 hX dX10_boon_107 rfl (pq := 108) rfl ?_
      refine wb_getR hX fl_333 sh_0 rfl dX10_boon_108 (pq := 111) rfl ?_
      refine wb_getR hX fl_95 sh_7 rfl dX10_boon_111 (pq := 114) rfl ?_
      refine wb_iload 5 hX dX10_boon_114 rfl (pq := 116) rfl ?_
      refine wb_iald hX sh_9 hi_12 dX10_boon_116 (pq := 117) rfl ?_
      refine wb_iast hX sh_15 hi_12 dX10_boon_117 (pq := 118) rfl ?_
      refine wb_mem (fun s_16 es_16 => ?_)
      have h := nmM_s h s_16 es_16
      refine wb_iload_n 3 hX dX10_boon_118 rfl (pq := 119) rfl ?_
      refine wb_iconst (v := iI (-1)) hX dX10_boon_119 rfl (pq := 120) rfl ?_
      refine wb_icmp_eq (tgt := 129) hX dX10_boon_120 (by decide) (fun c_17 => ?_) (pq := 123) rfl (fun c_17 => ?_)
      · have h := ite_t c_17 h
        refine wb_sub [1, 2, 5, 0] (loc' := [(0, .ref (G.1 0)), (1, .int x1), (4, .int x4), (5, .int q_15.1)]) rfl ?_
        exact tW_boon_J129 hX hQ hN hk39 h
      · have h := ite_f c_17 h
        refine wb_iload 0 hX dX10_boon_123 rfl (pq := 125) rfl ?_
        refine wb_iload_n 4 hX dX10_boon_125 rfl (pq := 126) rfl ?_
        refine wb_icmp_le (tgt := 135) hX dX10_boon_126 (by decide) (fun c_18 => ?_) (pq := 129) rfl (fun c_18 => ?_)
        · have h := ite_t c_18 h
          refine wb_sub [1, 2, 3, 4, 5] (loc' := [(0, .ref (G.1 0)), (1, .int x1), (2, .int x2), (3, .int x3), (4, .int x4)]) rfl ?_
          exact tW_boon_J135 hX hQ hN hk39 h
        · have h := ite_f c_18 h
          refine wb_sub [1, 2, 5, 0] (loc' := [(0, .ref (G.1 0)), (1, .int x1), (4, .int x4), (5, .int q_15.1)]) rfl ?_
          exact tW_boon_J129 hX hQ hN hk39 h
set_option maxHeartbeats 4000000 in
set_option maxRecDepth 100000 in
theorem tW_boon {l : Launch} {G : wG} {s : wM} {r0 : Int32} {s1 : wM} (h : fW_boon s = some (r0, s1)) : wMet l G yX10_boon cX10_boon 6 (some .int) 4 [.ref (G.1 0)] s (wQi G r0 s1) := by
  refine wMet_of (own := RX10) (by decide +kernel) rfl (Nat.le_of_ble_eq_true rfl) ?_
  intro X hX hQ hN hl
  show WB G X 0 [(0, .ref (G.1 0))] [] s
  unfold fW_boon at h
  refine wb_aload_n 0 hX dX10_boon_0 rfl (pq := 1) rfl ?_
  refine wb_getR hX fl_333 sh_0 rfl dX10_boon_1 (pq := 4) rfl ?_
  refine wb_getI hX fl_109 sh_7 rfl dX10_boon_4 (pq := 7) rfl ?_
  refine wb_if_ne (tgt := 13) hX dX10_boon_7 (by decide) (pq := 10) rfl (fun c_1 => ?_) (fun c_1 => ?_)
  · have h := ite_t c_1 h
    refine wb_bipush (v := iI (-2)) hX dX10_boon_10 (by decide) (pq := 12) rfl ?_
    exact wb_iret hX hQ h dX10_boon_12
  · have h := ite_f c_1 h
    refine wb_aload_n 0 hX dX10_boon_13 rfl (pq := 14) rfl ?_
    refine wb_getR hX fl_334 sh_0 rfl dX10_boon_14 (pq := 17) rfl ?_
    refine wb_aload_n 0 hX dX10_boon_17 rfl (pq := 18) rfl ?_
    refine wb_getR hX fl_333 sh_0 rfl dX10_boon_18 (pq := 21) rfl ?_
    obtain ⟨q_3, hc_2, h⟩ := bind_s h
    refine wb_callVv (s1 := q_3) [.ref (G.1 7)] hX sh_13 ml_567 (tAh_look hc_2) (by decide) rfl rfl (Nat.le_of_ble_eq_true rfl) dX10_boon_21 (pq := 24) rfl ?_
    refine wb_aload_n 0 hX dX10_boon_24 rfl (pq := 25) rfl ?_
    refine wb_getR hX fl_334 sh_0 rfl dX10_boon_25 (pq := 28) rfl ?_
    obtain ⟨q_5, hc_4, h⟩ := bind_s h
    refine wb_callVi (r0 := q_5.1) (s1 := q_5.2) [] hX sh_13 ml_828 (tAh_lasting hc_4) (by decide) rfl rfl (Nat.le_of_ble_eq_true rfl) dX10_boon_28 (pq := 31) rfl ?_
    refine wb_istore_n (loc' := [(1, .int q_5.1), (0, .ref (G.1 0))]) hX hN dX10_boon_31 (by decide) rfl (pq := 32) rfl ?_
    refine wb_iconst (v := iI (-1)) hX dX10_boon_32 rfl (pq := 33) rfl ?_
    refine wb_istore_n (loc' := [(2, .int (iI (-1))), (1, .int q_5.1), (0, .ref (G.1 0))]) hX hN dX10_boon_33 (by decide) rfl (pq := 34) rfl ?_
    refine wb_iconst (v := iI (0)) hX dX10_boon_34 rfl (pq := 35) rfl ?_
    refine wb_istore_n (loc' := [(3, .int (iI (0))), (2, .int (iI (-1))), (1, .int q_5.1), (0, .ref (G.1 0))]) hX hN dX10_boon_35 (by decide) rfl (pq := 36) rfl ?_
    refine wb_iconst (v := iI (0)) hX dX10_boon_36 rfl (pq := 37) rfl ?_
    refine wb_istore (loc' := [(4, .int (iI (0))), (3, .int (iI (0))), (2, .int (iI (-1))), (1, .int q_5.1), (0, .ref (G.1 0))]) hX hN dX10_boon_37 (by decide) rfl (pq := 39) rfl ?_
    refine wb_sub [4, 3, 2, 1, 0] (loc' := [(0, .ref (G.1 0)), (1, .int q_5.1), (2, .int (iI (-1))), (3, .int (iI (0))), (4, .int (iI (0)))]) rfl ?_
    exact tW_boon_L39 hX hQ hN 100000 _ _ _ _ h
set_option maxHeartbeats 4000000 in
set_option maxRecDepth 100000 in
theorem tW_seen_J32 {G : wG} {X : wX} {s : wM} {r0 : Int32} {s1 : wM} (hX : wOK G X cX10_seen RX10 (some .int) 1) (hQ : wRt G X (wQi G r0 s1)) (hN : wNl X = 3) (h : fW_seen_J32 s = some (r0, s1)) : WB G X 32 [] [] s := by
  unfold fW_seen_J32 at h
  refine wb_iconst (v := iI (-1)) hX dX10_seen_32 rfl (pq := 33) rfl ?_
  exact wb_iret hX hQ h dX10_seen_33
set_option maxHeartbeats 4000000 in
set_option maxRecDepth 100000 in
theorem tW_seen {l : Launch} {G : wG} {s : wM} {x1 : Int32} {x2 : Int32} {r0 : Int32} {s1 : wM} (h : fW_seen s x1 x2 = some (r0, s1)) : wMet l G yX10_seen cX10_seen 3 (some .int) 1 [.ref (G.1 0), .int x1, .int x2] s (wQi G r0 s1) := by
  refine wMet_of (own := RX10) (by decide +kernel) rfl (Nat.le_of_ble_eq_true rfl) ?_
  intro X hX hQ hN hl
  show WB G X 0 [(0, .ref (G.1 0)), (1, .int x1), (2, .int x2)] [] s
  unfold fW_seen at h
  refine wb_iload_n 1 hX dX10_seen_0 rfl (pq := 1) rfl ?_
  refine wb_iconst (v := iI (1)) hX dX10_seen_1 rfl (pq := 2) rfl ?_
  refine wb_bipush (v := iI (100)) hX dX10_seen_2 (by decide) (pq := 4) rfl ?_
  obtain ⟨q_2, hc_1, h⟩ := bind_s h
  refine wb_callSi (r0 := q_2) (s1 := s) [.int x1, .int (iI (1)), .int (iI (100))] hX ml_467 (tW_isWithin hc_1) (by decide) rfl rfl (Nat.le_of_ble_eq_true rfl) dX10_seen_4 (pq := 7) rfl ?_
  refine wb_if_eq (tgt := 32) hX dX10_seen_7 (by decide) (fun c_3 => ?_) (pq := 10) rfl (fun c_3 => ?_)
  · have h := ite_t c_3 h
    refine wb_sub [] (loc' := []) rfl ?_
    exact tW_seen_J32 hX hQ hN h
  · have h := ite_f c_3 h
    refine wb_iload_n 2 hX dX10_seen_10 rfl (pq := 11) rfl ?_
    refine wb_iconst (v := iI (0)) hX dX10_seen_11 rfl (pq := 12) rfl ?_
    refine wb_bipush (v := iI (36)) hX dX10_seen_12 (by decide) (pq := 14) rfl ?_
    obtain ⟨q_5, hc_4, h⟩ := bind_s h
    refine wb_callSi (r0 := q_5) (s1 := s) [.int x2, .int (iI (0)), .int (iI (36))] hX ml_467 (tW_isWithin hc_4) (by decide) rfl rfl (Nat.le_of_ble_eq_true rfl) dX10_seen_14 (pq := 17) rfl ?_
    refine wb_if_eq (tgt := 32) hX dX10_seen_17 (by decide) (fun c_6 => ?_) (pq := 20) rfl (fun c_6 => ?_)
    · have h := ite_t c_6 h
      refine wb_sub [] (loc' := []) rfl ?_
      exact tW_seen_J32 hX hQ hN h
    · have h := ite_f c_6 h
      refine wb_aload_n 0 hX dX10_seen_20 rfl (pq := 21) rfl ?_
      refine wb_getR hX fl_340 sh_0 rfl dX10_seen_21 (pq := 24) rfl ?_
      refine wb_getI hX fl_320 sh_142 rfl dX10_seen_24 (pq := 27) rfl ?_
      refine wb_bipush (v := iI (10)) hX dX10_seen_27 (by decide) (pq := 29) rfl ?_
      refine wb_icmp_ne (tgt := 34) hX dX10_seen_29 (by decide) (pq := 32) rfl (fun c_7 => ?_) (fun c_7 => ?_)
      · have h := ite_t c_7 h
        refine wb_sub [] (loc' := []) rfl ?_
        exact tW_seen_J32 hX hQ hN h
      · have h := ite_f c_7 h
        refine wb_aload_n 0 hX dX10_seen_34 rfl (pq := 35) rfl ?_
        refine wb_getR hX fl_340 sh_0 rfl dX10_seen_35 (pq := 38) rfl ?_
        refine wb_iload_n 1 hX dX10_seen_38 rfl (pq := 39) rfl ?_
        refine wb_iload_n 2 hX dX10_seen_39 rfl (pq := 40) rfl ?_
        obtain ⟨q_9, hc_8, h⟩ := bind_s h
        refine wb_callVv (s1 := q_9) [.int x1, .int x2] hX sh_142 ml_951 (tSi_add hc_8) (by decide) rfl rfl (Nat.le_of_ble_eq_true rfl) dX10_seen_40 (pq := 43) rfl ?_
        refine wb_aload_n 0 hX dX10_seen_43 rfl (pq := 44) rfl ?_
        refine wb_getR hX fl_340 sh_0 rfl dX10_seen_44 (pq := 47) rfl ?_
        refine wb_getI hX fl_320 sh_142 rfl dX10_seen_47 (pq := 50) rfl ?_
        exact wb_iret hX hQ h dX10_seen_50
set_option maxHeartbeats 4000000 in
set_option maxRecDepth 100000 in
theorem tW_forget {l : Launch} {G : wG} {s : wM} {r0 : Int32} {s1 : wM} (h : fW_forget s = some (r0, s1)) : wMet l G yX10_forget cX10_forget 1 (some .int) 0 [.ref (G.1 0)] s (wQi G r0 s1) := by
  refine wMet_of (own := RX10) (by decide +kernel) rfl (Nat.le_of_ble_eq_true rfl) ?_
  intro X hX hQ hN hl
  show WB G X 0 [(0, .ref (G.1 0))] [] s
  unfold fW_forget at h
  refine wb_aload_n 0 hX dX10_forget_0 rfl (pq := 1) rfl ?_
  refine wb_getR hX fl_340 sh_0 rfl dX10_forget_1 (pq := 4) rfl ?_
  refine wb_getI hX fl_320 sh_142 rfl dX10_forget_4 (pq := 7) rfl ?_
  refine wb_if_ne (tgt := 12) hX dX10_forget_7 (by decide) (pq := 10) rfl (fun c_1 => ?_) (fun c_1 => ?_)
  · have h := ite_t c_1 h
    refine wb_iconst (v := iI (-1)) hX dX10_forget_10 rfl (pq := 11) rfl ?_
    exact wb_iret hX hQ h dX10_forget_11
  · have h := ite_f c_1 h
    refine wb_aload_n 0 hX dX10_forget_12 rfl (pq := 13) rfl ?_
    refine wb_getR hX fl_340 sh_0 rfl dX10_forget_13 (pq := 16) rfl ?_
    refine wb_dup hX dX10_forget_16 rfl (pq := 17) rfl ?_
    refine wb_getI hX fl_320 sh_142 rfl dX10_forget_17 (pq := 20) rfl ?_
    refine wb_iconst (v := iI (1)) hX dX10_forget_20 rfl (pq := 21) rfl ?_
    refine wb_isub hX dX10_forget_21 (pq := 22) rfl ?_
    refine wb_putI hX fp_320 sh_142 rfl dX10_forget_22 rfl rfl (pq := 25) rfl ?_
    refine wb_mem (fun s_2 es_2 => ?_)
    have h := nmM_s h s_2 es_2
    refine wb_aload_n 0 hX dX10_forget_25 rfl (pq := 26) rfl ?_
    refine wb_getR hX fl_340 sh_0 rfl dX10_forget_26 (pq := 29) rfl ?_
    refine wb_getI hX fl_320 sh_142 rfl dX10_forget_29 (pq := 32) rfl ?_
    exact wb_iret hX hQ h dX10_forget_32
set_option maxHeartbeats 4000000 in
set_option maxRecDepth 100000 in
theorem tW_springs_J77 {G : wG} {X : wX} {k28 : Int32 → Int32 → wM → Option (Int32 × wM)} {x1 : Int32} {x3 : Int32} {v0 : Int32} {v1 : Int32} {s : wM} {r0 : Int32} {s1 : wM} (hX : wOK G X cX10_springs RX10 (some .int) 4) (hQ : wRt G X (wQi G r0 s1)) (hN : wNl X = 4) (hk28 : ∀ (x2 : Int32) (x3 : Int32) (s : wM), k28 x2 x3 s = some (r0, s1) → WB G X 28 [(0, .ref (G.1 0)), (1, .int x1), (2, .int x2), (3, .int x3)] [] s) (h : fW_springs_J77 k28 x1 x3 v0 v1 s = some (r0, s1)) : WB G X 77 [(0, .ref (G.1 0)), (1, .int x1), (3, .int x3)] [.int v0, .int v1] s := by
  unfold fW_springs_J77 at h
  refine wb_ior hX dX10_springs_77 (pq := 78) rfl ?_
  refine wb_istore_n (loc' := [(2, .int (v1 ||| v0)), (0, .ref (G.1 0)), (1, .int x1), (3, .int x3)]) hX hN dX10_springs_78 (by decide) rfl (pq := 79) rfl ?_
  refine wb_iinc (v := (x3 + iI (1))) (loc' := [(3, .int (x3 + iI (1))), (2, .int (v1 ||| v0)), (0, .ref (G.1 0)), (1, .int x1)]) 3 hX hN dX10_springs_79 rfl rfl (by decide) rfl (pq := 82) rfl ?_
  refine wb_goto (tgt := 28) hX dX10_springs_82 (by decide) ?_
  refine wb_sub [2, 3, 1, 0] (loc' := [(0, .ref (G.1 0)), (1, .int x1), (2, .int (v1 ||| v0)), (3, .int (x3 + iI (1)))]) rfl ?_
  exact hk28 _ _ _ h
set_option maxHeartbeats 4000000 in
set_option maxRecDepth 100000 in
theorem tW_springs_L28 {G : wG} {X : wX} {x1 : Int32} {r0 : Int32} {s1 : wM} (hX : wOK G X cX10_springs RX10 (some .int) 4) (hQ : wRt G X (wQi G r0 s1)) (hN : wNl X = 4) : ∀ (n : Nat) (x2 : Int32) (x3 : Int32) (s : wM), wh3 (fW_springs_L28 x1) n x2 x3 s = some (r0, s1) → WB G X 28 [(0, .ref (G.1 0)), (1, .int x1), (2, .int x2), (3, .int x3)] [] s := by
  intro n
  induction n with
  | zero => intro x2 x3 s h; cases h
  | succ n hk28 =>
    intro x2 x3 s h
    have h : fW_springs_L28 x1 x2 x3 s (wh3 (fW_springs_L28 x1) n) = some (r0, s1) := h
    unfold fW_springs_L28 at h
    refine wb_iload_n 3 hX dX10_springs_28 rfl (pq := 29) rfl ?_
    refine wb_bipush (v := iI (9)) hX dX10_springs_29 (by decide) (pq := 31) rfl ?_
    refine wb_icmp_gt (tgt := 85) hX dX10_springs_31 (by decide) (fun c_1 => ?_) (pq := 34) rfl (fun c_1 => ?_)
    · have h := ite_t c_1 h
      refine wb_iload_n 2 hX dX10_springs_85 rfl (pq := 86) rfl ?_
      exact wb_iret hX hQ h dX10_springs_86
    · have h := ite_f c_1 h
      refine wb_aload_n 0 hX dX10_springs_34 rfl (pq := 35) rfl ?_
      refine wb_getR hX fl_334 sh_0 rfl dX10_springs_35 (pq := 38) rfl ?_
      refine wb_aload_n 0 hX dX10_springs_38 rfl (pq := 39) rfl ?_
      refine wb_getR hX fl_333 sh_0 rfl dX10_springs_39 (pq := 42) rfl ?_
      obtain ⟨q_3, hc_2, h⟩ := bind_s h
      refine wb_callVv (s1 := q_3) [.ref (G.1 7)] hX sh_13 ml_926 (tAh_rewind hc_2) (by decide) rfl rfl (Nat.le_of_ble_eq_true rfl) dX10_springs_42 (pq := 45) rfl ?_
      refine wb_aload_n 0 hX dX10_springs_45 rfl (pq := 46) rfl ?_
      refine wb_getR hX fl_334 sh_0 rfl dX10_springs_46 (pq := 49) rfl ?_
      refine wb_getR hX fl_139 sh_13 rfl dX10_springs_49 (pq := 52) rfl ?_
      refine wb_iload_n 1 hX dX10_springs_52 rfl (pq := 53) rfl ?_
      refine wb_iload_n 3 hX dX10_springs_53 rfl (pq := 54) rfl ?_
      obtain ⟨hi_4, h⟩ := chk_some h
      refine wb_iast hX sh_15 hi_4 dX10_springs_54 (pq := 55) rfl ?_
      refine wb_mem (fun s_5 es_5 => ?_)
      have h := nmM_s h s_5 es_5
      refine wb_iload_n 2 hX dX10_springs_55 rfl (pq := 56) rfl ?_
      refine wb_aload_n 0 hX dX10_springs_56 rfl (pq := 57) rfl ?_
      refine wb_getR hX fl_340 sh_0 rfl dX10_springs_57 (pq := 60) rfl ?_
      refine wb_aload_n 0 hX dX10_springs_60 rfl (pq := 61) rfl ?_
      refine wb_getR hX fl_334 sh_0 rfl dX10_springs_61 (pq := 64) rfl ?_
      obtain ⟨q_7, hc_6, h⟩ := bind_s h
      refine wb_callVi (r0 := q_7.1) (s1 := q_7.2) [.ref (G.1 13)] hX sh_142 ml_963 (tSi_holdFor hc_6) (by decide) rfl rfl (Nat.le_of_ble_eq_true rfl) dX10_springs_64 (pq := 67) rfl ?_
      refine wb_if_eq (tgt := 76) hX dX10_springs_67 (by decide) (fun c_8 => ?_) (pq := 70) rfl (fun c_8 => ?_)
      · have h := ite_t c_8 h
        refine wb_iconst (v := iI (0)) hX dX10_springs_76 rfl (pq := 77) rfl ?_
        refine wb_sub [0, 1, 3] (loc' := [(0, .ref (G.1 0)), (1, .int x1), (3, .int x3)]) rfl ?_
        exact tW_springs_J77 hX hQ hN hk28 h
      · have h := ite_f c_8 h
        refine wb_iconst (v := iI (1)) hX dX10_springs_70 rfl (pq := 71) rfl ?_
        refine wb_iload_n 3 hX dX10_springs_71 rfl (pq := 72) rfl ?_
        refine wb_ishl hX dX10_springs_72 (pq := 73) rfl ?_
        refine wb_goto (tgt := 77) hX dX10_springs_73 (by decide) ?_
        refine wb_sub [0, 1, 3] (loc' := [(0, .ref (G.1 0)), (1, .int x1), (3, .int x3)]) rfl ?_
        exact tW_springs_J77 hX hQ hN hk28 h
set_option maxHeartbeats 4000000 in
set_option maxRecDepth 100000 in
theorem tW_springs {l : Launch} {G : wG} {s : wM} {x1 : Int32} {r0 : Int32} {s1 : wM} (h : fW_springs s x1 = some (r0, s1)) : wMet l G yX10_springs cX10_springs 4 (some .int) 4 [.ref (G.1 0), .int x1] s (wQi G r0 s1) := by
  refine wMet_of (own := RX10) (by decide +kernel) rfl (Nat.le_of_ble_eq_true rfl) ?_
  intro X hX hQ hN hl
  show WB G X 0 [(0, .ref (G.1 0)), (1, .int x1)] [] s
  unfold fW_springs at h
  refine wb_aload_n 0 hX dX10_springs_0 rfl (pq := 1) rfl ?_
  refine wb_getR hX fl_333 sh_0 rfl dX10_springs_1 (pq := 4) rfl ?_
  refine wb_iload_n 1 hX dX10_springs_4 rfl (pq := 5) rfl ?_
  obtain ⟨q_2, hc_1, h⟩ := bind_s h
  refine wb_callVi (r0 := q_2) (s1 := s) [.int x1] hX sh_7 ml_478 (tLand_has hc_1) (by decide) rfl rfl (Nat.le_of_ble_eq_true rfl) dX10_springs_5 (pq := 8) rfl ?_
  refine wb_if_ne (tgt := 13) hX dX10_springs_8 (by decide) (pq := 11) rfl (fun c_3 => ?_) (fun c_3 => ?_)
  · have h := ite_t c_3 h
    refine wb_iconst (v := iI (-1)) hX dX10_springs_11 rfl (pq := 12) rfl ?_
    exact wb_iret hX hQ h dX10_springs_12
  · have h := ite_f c_3 h
    refine wb_aload_n 0 hX dX10_springs_13 rfl (pq := 14) rfl ?_
    refine wb_getR hX fl_334 sh_0 rfl dX10_springs_14 (pq := 17) rfl ?_
    refine wb_aload_n 0 hX dX10_springs_17 rfl (pq := 18) rfl ?_
    refine wb_getR hX fl_333 sh_0 rfl dX10_springs_18 (pq := 21) rfl ?_
    obtain ⟨q_5, hc_4, h⟩ := bind_s h
    refine wb_callVv (s1 := q_5) [.ref (G.1 7)] hX sh_13 ml_567 (tAh_look hc_4) (by decide) rfl rfl (Nat.le_of_ble_eq_true rfl) dX10_springs_21 (pq := 24) rfl ?_
    refine wb_iconst (v := iI (0)) hX dX10_springs_24 rfl (pq := 25) rfl ?_
    refine wb_istore_n (loc' := [(2, .int (iI (0))), (0, .ref (G.1 0)), (1, .int x1)]) hX hN dX10_springs_25 (by decide) rfl (pq := 26) rfl ?_
    refine wb_iconst (v := iI (0)) hX dX10_springs_26 rfl (pq := 27) rfl ?_
    refine wb_istore_n (loc' := [(3, .int (iI (0))), (2, .int (iI (0))), (0, .ref (G.1 0)), (1, .int x1)]) hX hN dX10_springs_27 (by decide) rfl (pq := 28) rfl ?_
    refine wb_sub [2, 3, 1, 0] (loc' := [(0, .ref (G.1 0)), (1, .int x1), (2, .int (iI (0))), (3, .int (iI (0)))]) rfl ?_
    exact tW_springs_L28 hX hQ hN 100000 _ _ _ h
set_option maxHeartbeats 4000000 in
set_option maxRecDepth 100000 in
theorem tW_stones_J102 {G : wG} {X : wX} {k49 : Int32 → Int32 → wM → Option (Int32 × wM)} {x3 : Int32} {x5 : Int32} {v0 : Int32} {v1 : Int32} {s : wM} {r0 : Int32} {s1 : wM} (hX : wOK G X cX10_stones RX10 (some .int) 4) (hQ : wRt G X (wQi G r0 s1)) (hN : wNl X = 6) (hk49 : ∀ (x4 : Int32) (x5 : Int32) (s : wM), k49 x4 x5 s = some (r0, s1) → WB G X 49 [(0, .ref (G.1 0)), (3, .int x3), (4, .int x4), (5, .int x5)] [] s) (h : fW_stones_J102 k49 x3 x5 v0 v1 s = some (r0, s1)) : WB G X 102 [(0, .ref (G.1 0)), (3, .int x3), (5, .int x5)] [.int v0, .int v1] s := by
  unfold fW_stones_J102 at h
  refine wb_ior hX dX10_stones_102 (pq := 103) rfl ?_
  refine wb_istore (loc' := [(4, .int (v1 ||| v0)), (0, .ref (G.1 0)), (3, .int x3), (5, .int x5)]) hX hN dX10_stones_103 (by decide) rfl (pq := 105) rfl ?_
  refine wb_iinc (v := (x5 + iI (1))) (loc' := [(5, .int (x5 + iI (1))), (4, .int (v1 ||| v0)), (0, .ref (G.1 0)), (3, .int x3)]) 3 hX hN dX10_stones_105 rfl rfl (by decide) rfl (pq := 108) rfl ?_
  refine wb_goto (tgt := 49) hX dX10_stones_108 (by decide) ?_
  refine wb_sub [2, 3, 1, 0] (loc' := [(0, .ref (G.1 0)), (3, .int x3), (4, .int (v1 ||| v0)), (5, .int (x5 + iI (1)))]) rfl ?_
  exact hk49 _ _ _ h
set_option maxHeartbeats 4000000 in
set_option maxRecDepth 100000 in
theorem tW_stones_L49 {G : wG} {X : wX} {x3 : Int32} {r0 : Int32} {s1 : wM} (hX : wOK G X cX10_stones RX10 (some .int) 4) (hQ : wRt G X (wQi G r0 s1)) (hN : wNl X = 6) : ∀ (n : Nat) (x4 : Int32) (x5 : Int32) (s : wM), wh3 (fW_stones_L49 x3) n x4 x5 s = some (r0, s1) → WB G X 49 [(0, .ref (G.1 0)), (3, .int x3), (4, .int x4), (5, .int x5)] [] s := by
  intro n
  induction n with
  | zero => intro x4 x5 s h; cases h
  | succ n hk49 =>
    intro x4 x5 s h
    have h : fW_stones_L49 x3 x4 x5 s (wh3 (fW_stones_L49 x3) n) = some (r0, s1) := h
    unfold fW_stones_L49 at h
    refine wb_iload 3 hX dX10_stones_49 rfl (pq := 51) rfl ?_
    refine wb_bipush (v := iI (9)) hX dX10_stones_51 (by decide) (pq := 53) rfl ?_
    refine wb_icmp_gt (tgt := 111) hX dX10_stones_53 (by decide) (fun c_1 => ?_) (pq := 56) rfl (fun c_1 => ?_)
    · have h := ite_t c_1 h
      refine wb_iload 2 hX dX10_stones_111 rfl (pq := 113) rfl ?_
      exact wb_iret hX hQ h dX10_stones_113
    · have h := ite_f c_1 h
      refine wb_aload_n 0 hX dX10_stones_56 rfl (pq := 57) rfl ?_
      refine wb_getR hX fl_334 sh_0 rfl dX10_stones_57 (pq := 60) rfl ?_
      refine wb_aload_n 0 hX dX10_stones_60 rfl (pq := 61) rfl ?_
      refine wb_getR hX fl_333 sh_0 rfl dX10_stones_61 (pq := 64) rfl ?_
      obtain ⟨q_3, hc_2, h⟩ := bind_s h
      refine wb_callVv (s1 := q_3) [.ref (G.1 7)] hX sh_13 ml_926 (tAh_rewind hc_2) (by decide) rfl rfl (Nat.le_of_ble_eq_true rfl) dX10_stones_64 (pq := 67) rfl ?_
      refine wb_aload_n 0 hX dX10_stones_67 rfl (pq := 68) rfl ?_
      refine wb_getR hX fl_334 sh_0 rfl dX10_stones_68 (pq := 71) rfl ?_
      refine wb_getR hX fl_147 sh_13 rfl dX10_stones_71 (pq := 74) rfl ?_
      refine wb_iload_n 1 hX dX10_stones_74 rfl (pq := 75) rfl ?_
      refine wb_iload 3 hX dX10_stones_75 rfl (pq := 77) rfl ?_
      obtain ⟨hi_4, h⟩ := chk_some h
      refine wb_iast hX sh_19 hi_4 dX10_stones_77 (pq := 78) rfl ?_
      refine wb_mem (fun s_5 es_5 => ?_)
      have h := nmM_s h s_5 es_5
      refine wb_iload 2 hX dX10_stones_78 rfl (pq := 80) rfl ?_
      refine wb_aload_n 0 hX dX10_stones_80 rfl (pq := 81) rfl ?_
      refine wb_getR hX fl_340 sh_0 rfl dX10_stones_81 (pq := 84) rfl ?_
      refine wb_aload_n 0 hX dX10_stones_84 rfl (pq := 85) rfl ?_
      refine wb_getR hX fl_334 sh_0 rfl dX10_stones_85 (pq := 88) rfl ?_
      obtain ⟨q_7, hc_6, h⟩ := bind_s h
      refine wb_callVi (r0 := q_7.1) (s1 := q_7.2) [.ref (G.1 13)] hX sh_142 ml_963 (tSi_holdFor hc_6) (by decide) rfl rfl (Nat.le_of_ble_eq_true rfl) dX10_stones_88 (pq := 91) rfl ?_
      refine wb_if_eq (tgt := 101) hX dX10_stones_91 (by decide) (fun c_8 => ?_) (pq := 94) rfl (fun c_8 => ?_)
      · have h := ite_t c_8 h
        refine wb_iconst (v := iI (0)) hX dX10_stones_101 rfl (pq := 102) rfl ?_
        refine wb_sub [0, 1, 3] (loc' := [(0, .ref (G.1 0)), (3, .int x3), (5, .int x5)]) rfl ?_
        exact tW_stones_J102 hX hQ hN hk49 h
      · have h := ite_f c_8 h
        refine wb_iconst (v := iI (1)) hX dX10_stones_94 rfl (pq := 95) rfl ?_
        refine wb_iload 3 hX dX10_stones_95 rfl (pq := 97) rfl ?_
        refine wb_ishl hX dX10_stones_97 (pq := 98) rfl ?_
        refine wb_goto (tgt := 102) hX dX10_stones_98 (by decide) ?_
        refine wb_sub [0, 1, 3] (loc' := [(0, .ref (G.1 0)), (3, .int x3), (5, .int x5)]) rfl ?_
        exact tW_stones_J102 hX hQ hN hk49 h
set_option maxHeartbeats 4000000 in
set_option maxRecDepth 100000 in
theorem tW_stones {l : Launch} {G : wG} {s : wM} {x1 : Int32} {x2 : Int32} {r0 : Int32} {s1 : wM} (h : fW_stones s x1 x2 = some (r0, s1)) : wMet l G yX10_stones cX10_stones 6 (some .int) 4 [.ref (G.1 0), .int x1, .int x2] s (wQi G r0 s1) := by
  refine wMet_of (own := RX10) (by decide +kernel) rfl (Nat.le_of_ble_eq_true rfl) ?_
  intro X hX hQ hN hl
  show WB G X 0 [(0, .ref (G.1 0)), (1, .int x1), (2, .int x2)] [] s
  unfold fW_stones at h
  refine wb_aload_n 0 hX dX10_stones_0 rfl (pq := 1) rfl ?_
  refine wb_getR hX fl_333 sh_0 rfl dX10_stones_1 (pq := 4) rfl ?_
  refine wb_iload_n 1 hX dX10_stones_4 rfl (pq := 5) rfl ?_
  refine wb_iload_n 2 hX dX10_stones_5 rfl (pq := 6) rfl ?_
  obtain ⟨q_2, hc_1, h⟩ := bind_s h
  refine wb_callVi (r0 := q_2) (s1 := s) [.int x1, .int x2] hX sh_7 ml_451 (tLand_hasTwo hc_1) (by decide) rfl rfl (Nat.le_of_ble_eq_true rfl) dX10_stones_6 (pq := 9) rfl ?_
  refine wb_if_ne (tgt := 14) hX dX10_stones_9 (by decide) (pq := 12) rfl (fun c_3 => ?_) (fun c_3 => ?_)
  · have h := ite_t c_3 h
    refine wb_iconst (v := iI (-1)) hX dX10_stones_12 rfl (pq := 13) rfl ?_
    exact wb_iret hX hQ h dX10_stones_13
  · have h := ite_f c_3 h
    refine wb_aload_n 0 hX dX10_stones_14 rfl (pq := 15) rfl ?_
    refine wb_getR hX fl_334 sh_0 rfl dX10_stones_15 (pq := 18) rfl ?_
    refine wb_aload_n 0 hX dX10_stones_18 rfl (pq := 19) rfl ?_
    refine wb_getR hX fl_333 sh_0 rfl dX10_stones_19 (pq := 22) rfl ?_
    obtain ⟨q_5, hc_4, h⟩ := bind_s h
    refine wb_callVv (s1 := q_5) [.ref (G.1 7)] hX sh_13 ml_567 (tAh_look hc_4) (by decide) rfl rfl (Nat.le_of_ble_eq_true rfl) dX10_stones_22 (pq := 25) rfl ?_
    refine wb_aload_n 0 hX dX10_stones_25 rfl (pq := 26) rfl ?_
    refine wb_getR hX fl_334 sh_0 rfl dX10_stones_26 (pq := 29) rfl ?_
    refine wb_iload_n 1 hX dX10_stones_29 rfl (pq := 30) rfl ?_
    refine wb_iload_n 2 hX dX10_stones_30 rfl (pq := 31) rfl ?_
    obtain ⟨q_7, hc_6, h⟩ := bind_s h
    refine wb_callVi (r0 := q_7) (s1 := q_5) [.int x1, .int x2] hX sh_13 ml_900 (tAh_pairOf hc_6) (by decide) rfl rfl (Nat.le_of_ble_eq_true rfl) dX10_stones_31 (pq := 34) rfl ?_
    refine wb_istore_n (loc' := [(3, .int q_7), (0, .ref (G.1 0)), (1, .int x1), (2, .int x2)]) hX hN dX10_stones_34 (by decide) rfl (pq := 35) rfl ?_
    refine wb_iload_n 0 hX dX10_stones_35 rfl (pq := 36) rfl ?_
    refine wb_iconst (v := iI (-1)) hX dX10_stones_36 rfl (pq := 37) rfl ?_
    refine wb_icmp_ne (tgt := 43) hX dX10_stones_37 (by decide) (pq := 40) rfl (fun c_8 => ?_) (fun c_8 => ?_)
    · have h := ite_t c_8 h
      refine wb_bipush (v := iI (-2)) hX dX10_stones_40 (by decide) (pq := 42) rfl ?_
      exact wb_iret hX hQ h dX10_stones_42
    · have h := ite_f c_8 h
      refine wb_iconst (v := iI (0)) hX dX10_stones_43 rfl (pq := 44) rfl ?_
      refine wb_istore (loc' := [(4, .int (iI (0))), (3, .int q_7), (0, .ref (G.1 0)), (1, .int x1), (2, .int x2)]) hX hN dX10_stones_44 (by decide) rfl (pq := 46) rfl ?_
      refine wb_iconst (v := iI (0)) hX dX10_stones_46 rfl (pq := 47) rfl ?_
      refine wb_istore (loc' := [(5, .int (iI (0))), (4, .int (iI (0))), (3, .int q_7), (0, .ref (G.1 0)), (1, .int x1), (2, .int x2)]) hX hN dX10_stones_47 (by decide) rfl (pq := 49) rfl ?_
      refine wb_sub [3, 2, 1, 0] (loc' := [(0, .ref (G.1 0)), (3, .int q_7), (4, .int (iI (0))), (5, .int (iI (0)))]) rfl ?_
      exact tW_stones_L49 hX hQ hN 100000 _ _ _ h
set_option maxHeartbeats 4000000 in
set_option maxRecDepth 100000 in
theorem tW_wouldExplain {l : Launch} {G : wG} {s : wM} {x1 : Int32} {x2 : Int32} {r0 : Int32} {s1 : wM} (h : fW_wouldExplain s x1 x2 = some (r0, s1)) : wMet l G yX10_wouldExplain cX10_wouldExplain 3 (some .boolean) 4 [.ref (G.1 0), .int x1, .int x2] s (wQi G r0 s1) := by
  refine wMet_of (own := RX10) (by decide +kernel) rfl (Nat.le_of_ble_eq_true rfl) ?_
  intro X hX hQ hN hl
  show WB G X 0 [(0, .ref (G.1 0)), (1, .int x1), (2, .int x2)] [] s
  unfold fW_wouldExplain at h
  refine wb_aload_n 0 hX dX10_wouldExplain_0 rfl (pq := 1) rfl ?_
  refine wb_getR hX fl_334 sh_0 rfl dX10_wouldExplain_1 (pq := 4) rfl ?_
  refine wb_aload_n 0 hX dX10_wouldExplain_4 rfl (pq := 5) rfl ?_
  refine wb_getR hX fl_333 sh_0 rfl dX10_wouldExplain_5 (pq := 8) rfl ?_
  obtain ⟨q_2, hc_1, h⟩ := bind_s h
  refine wb_callVv (s1 := q_2) [.ref (G.1 7)] hX sh_13 ml_926 (tAh_rewind hc_1) (by decide) rfl rfl (Nat.le_of_ble_eq_true rfl) dX10_wouldExplain_8 (pq := 11) rfl ?_
  refine wb_aload_n 0 hX dX10_wouldExplain_11 rfl (pq := 12) rfl ?_
  refine wb_getR hX fl_334 sh_0 rfl dX10_wouldExplain_12 (pq := 15) rfl ?_
  refine wb_getR hX fl_137 sh_13 rfl dX10_wouldExplain_15 (pq := 18) rfl ?_
  refine wb_iload_n 1 hX dX10_wouldExplain_18 rfl (pq := 19) rfl ?_
  refine wb_dup2 hX dX10_wouldExplain_19 rfl rfl (pq := 20) rfl ?_
  obtain ⟨hi_3, h⟩ := chk_some h
  refine wb_iald hX sh_14 hi_3 dX10_wouldExplain_20 (pq := 21) rfl ?_
  refine wb_aload_n 0 hX dX10_wouldExplain_21 rfl (pq := 22) rfl ?_
  refine wb_getR hX fl_333 sh_0 rfl dX10_wouldExplain_22 (pq := 25) rfl ?_
  refine wb_getR hX fl_103 sh_7 rfl dX10_wouldExplain_25 (pq := 28) rfl ?_
  refine wb_iconst (v := iI (2)) hX dX10_wouldExplain_28 rfl (pq := 29) rfl ?_
  refine wb_iald hX sh_11 (by unfold vp_in; decide) dX10_wouldExplain_29 (pq := 30) rfl ?_
  refine wb_isub hX dX10_wouldExplain_30 (pq := 31) rfl ?_
  refine wb_iast hX sh_14 hi_3 dX10_wouldExplain_31 (pq := 32) rfl ?_
  refine wb_mem (fun s_4 es_4 => ?_)
  have h := nmM_s h s_4 es_4
  refine wb_aload_n 0 hX dX10_wouldExplain_32 rfl (pq := 33) rfl ?_
  refine wb_getR hX fl_334 sh_0 rfl dX10_wouldExplain_33 (pq := 36) rfl ?_
  refine wb_getR hX fl_137 sh_13 rfl dX10_wouldExplain_36 (pq := 39) rfl ?_
  refine wb_iload_n 2 hX dX10_wouldExplain_39 rfl (pq := 40) rfl ?_
  refine wb_dup2 hX dX10_wouldExplain_40 rfl rfl (pq := 41) rfl ?_
  obtain ⟨hi_5, h⟩ := chk_some h
  refine wb_iald hX sh_14 hi_5 dX10_wouldExplain_41 (pq := 42) rfl ?_
  refine wb_aload_n 0 hX dX10_wouldExplain_42 rfl (pq := 43) rfl ?_
  refine wb_getR hX fl_333 sh_0 rfl dX10_wouldExplain_43 (pq := 46) rfl ?_
  refine wb_getR hX fl_103 sh_7 rfl dX10_wouldExplain_46 (pq := 49) rfl ?_
  refine wb_iconst (v := iI (2)) hX dX10_wouldExplain_49 rfl (pq := 50) rfl ?_
  refine wb_iald hX sh_11 (by unfold vp_in; decide) dX10_wouldExplain_50 (pq := 51) rfl ?_
  refine wb_iadd hX dX10_wouldExplain_51 (pq := 52) rfl ?_
  refine wb_iast hX sh_14 hi_5 dX10_wouldExplain_52 (pq := 53) rfl ?_
  refine wb_mem (fun s_6 es_6 => ?_)
  have h := nmM_s h s_6 es_6
  refine wb_aload_n 0 hX dX10_wouldExplain_53 rfl (pq := 54) rfl ?_
  refine wb_getR hX fl_340 sh_0 rfl dX10_wouldExplain_54 (pq := 57) rfl ?_
  refine wb_aload_n 0 hX dX10_wouldExplain_57 rfl (pq := 58) rfl ?_
  refine wb_getR hX fl_334 sh_0 rfl dX10_wouldExplain_58 (pq := 61) rfl ?_
  obtain ⟨q_8, hc_7, h⟩ := bind_s h
  refine wb_callVi (r0 := q_8.1) (s1 := q_8.2) [.ref (G.1 13)] hX sh_142 ml_963 (tSi_holdFor hc_7) (by decide) rfl rfl (Nat.le_of_ble_eq_true rfl) dX10_wouldExplain_61 (pq := 64) rfl ?_
  obtain ⟨hz_9, h⟩ := chkZ_some h
  exact wb_zret hX hQ h hz_9.1 dX10_wouldExplain_64
set_option maxHeartbeats 4000000 in
set_option maxRecDepth 100000 in
theorem tW_nights_J104 {G : wG} {X : wX} {k34 : Int32 → Int32 → wM → Option (Int32 × wM)} {k48 : Int32 → Int32 → wM → Option (Int32 × wM)} {x1 : Int32} {x2 : Int32} {x3 : Int32} {x4 : Int32} {s : wM} {r0 : Int32} {s1 : wM} (hX : wOK G X cX10_nights RX10 (some .int) 5) (hQ : wRt G X (wQi G r0 s1)) (hN : wNl X = 5) (hk34 : ∀ (x2 : Int32) (x3 : Int32) (s : wM), k34 x2 x3 s = some (r0, s1) → WB G X 34 [(0, .ref (G.1 0)), (1, .int x1), (2, .int x2), (3, .int x3)] [] s) (hk48 : ∀ (x2 : Int32) (x4 : Int32) (s : wM), k48 x2 x4 s = some (r0, s1) → WB G X 48 [(0, .ref (G.1 0)), (1, .int x1), (2, .int x2), (3, .int x3), (4, .int x4)] [] s) (h : fW_nights_J104 k34 k48 x1 x2 x3 x4 s = some (r0, s1)) : WB G X 104 [(0, .ref (G.1 0)), (1, .int x1), (2, .int x2), (3, .int x3), (4, .int x4)] [] s := by
  unfold fW_nights_J104 at h
  refine wb_iinc (v := (x4 + iI (1))) (loc' := [(4, .int (x4 + iI (1))), (0, .ref (G.1 0)), (1, .int x1), (2, .int x2), (3, .int x3)]) 4 hX hN dX10_nights_104 rfl rfl (by decide) rfl (pq := 107) rfl ?_
  refine wb_goto (tgt := 48) hX dX10_nights_107 (by decide) ?_
  refine wb_sub [1, 2, 3, 4, 0] (loc' := [(0, .ref (G.1 0)), (1, .int x1), (2, .int x2), (3, .int x3), (4, .int (x4 + iI (1)))]) rfl ?_
  exact hk48 _ _ _ h
set_option maxHeartbeats 4000000 in
set_option maxRecDepth 100000 in
theorem tW_nights_J101 {G : wG} {X : wX} {k34 : Int32 → Int32 → wM → Option (Int32 × wM)} {k48 : Int32 → Int32 → wM → Option (Int32 × wM)} {x1 : Int32} {x2 : Int32} {x3 : Int32} {x4 : Int32} {s : wM} {r0 : Int32} {s1 : wM} (hX : wOK G X cX10_nights RX10 (some .int) 5) (hQ : wRt G X (wQi G r0 s1)) (hN : wNl X = 5) (hk34 : ∀ (x2 : Int32) (x3 : Int32) (s : wM), k34 x2 x3 s = some (r0, s1) → WB G X 34 [(0, .ref (G.1 0)), (1, .int x1), (2, .int x2), (3, .int x3)] [] s) (hk48 : ∀ (x2 : Int32) (x4 : Int32) (s : wM), k48 x2 x4 s = some (r0, s1) → WB G X 48 [(0, .ref (G.1 0)), (1, .int x1), (2, .int x2), (3, .int x3), (4, .int x4)] [] s) (h : fW_nights_J101 k34 k48 x1 x2 x3 x4 s = some (r0, s1)) : WB G X 101 [(0, .ref (G.1 0)), (1, .int x1), (2, .int x2), (3, .int x3), (4, .int x4)] [] s := by
  unfold fW_nights_J101 at h
  refine wb_iinc (v := (x2 + iI (1))) (loc' := [(2, .int (x2 + iI (1))), (0, .ref (G.1 0)), (1, .int x1), (3, .int x3), (4, .int x4)]) 2 hX hN dX10_nights_101 rfl rfl (by decide) rfl (pq := 104) rfl ?_
  refine wb_sub [1, 2, 0, 3, 4] (loc' := [(0, .ref (G.1 0)), (1, .int x1), (2, .int (x2 + iI (1))), (3, .int x3), (4, .int x4)]) rfl ?_
  exact tW_nights_J104 hX hQ hN hk34 hk48 h
set_option maxHeartbeats 4000000 in
set_option maxRecDepth 100000 in
theorem tW_nights_L48 {G : wG} {X : wX} {k34 : Int32 → Int32 → wM → Option (Int32 × wM)} {x1 : Int32} {x3 : Int32} {r0 : Int32} {s1 : wM} (hX : wOK G X cX10_nights RX10 (some .int) 5) (hQ : wRt G X (wQi G r0 s1)) (hN : wNl X = 5) (hk34 : ∀ (x2 : Int32) (x3 : Int32) (s : wM), k34 x2 x3 s = some (r0, s1) → WB G X 34 [(0, .ref (G.1 0)), (1, .int x1), (2, .int x2), (3, .int x3)] [] s) : ∀ (n : Nat) (x2 : Int32) (x4 : Int32) (s : wM), wh3 (fW_nights_L48 k34 x1 x3) n x2 x4 s = some (r0, s1) → WB G X 48 [(0, .ref (G.1 0)), (1, .int x1), (2, .int x2), (3, .int x3), (4, .int x4)] [] s := by
  intro n
  induction n with
  | zero => intro x2 x4 s h; cases h
  | succ n hk48 =>
    intro x2 x4 s h
    have h : fW_nights_L48 k34 x1 x3 x2 x4 s (wh3 (fW_nights_L48 k34 x1 x3) n) = some (r0, s1) := h
    unfold fW_nights_L48 at h
    refine wb_iload 4 hX dX10_nights_48 rfl (pq := 50) rfl ?_
    refine wb_aload_n 0 hX dX10_nights_50 rfl (pq := 51) rfl ?_
    refine wb_getR hX fl_333 sh_0 rfl dX10_nights_51 (pq := 54) rfl ?_
    refine wb_getI hX fl_109 sh_7 rfl dX10_nights_54 (pq := 57) rfl ?_
    refine wb_icmp_ge (tgt := 110) hX dX10_nights_57 (by decide) (fun c_1 => ?_) (pq := 60) rfl (fun c_1 => ?_)
    · have h := ite_t c_1 h
      refine wb_iinc (v := (x3 + iI (1))) (loc' := [(3, .int (x3 + iI (1))), (0, .ref (G.1 0)), (1, .int x1), (2, .int x2), (4, .int x4)]) 3 hX hN dX10_nights_110 rfl rfl (by decide) rfl (pq := 113) rfl ?_
      refine wb_goto (tgt := 34) hX dX10_nights_113 (by decide) ?_
      refine wb_sub [1, 2, 3, 0] (loc' := [(0, .ref (G.1 0)), (1, .int x1), (2, .int x2), (3, .int (x3 + iI (1)))]) rfl ?_
      exact hk34 _ _ _ h
    · have h := ite_f c_1 h
      refine wb_aload_n 0 hX dX10_nights_60 rfl (pq := 61) rfl ?_
      refine wb_getR hX fl_333 sh_0 rfl dX10_nights_61 (pq := 64) rfl ?_
      refine wb_iload_n 3 hX dX10_nights_64 rfl (pq := 65) rfl ?_
      refine wb_iload 4 hX dX10_nights_65 rfl (pq := 67) rfl ?_
      obtain ⟨q_3, hc_2, h⟩ := bind_s h
      refine wb_callVi (r0 := q_3) (s1 := s) [.int x3, .int x4] hX sh_7 ml_501 (tLand_canCarry hc_2) (by decide) rfl rfl (Nat.le_of_ble_eq_true rfl) dX10_nights_67 (pq := 70) rfl ?_
      refine wb_if_eq (tgt := 104) hX dX10_nights_70 (by decide) (fun c_4 => ?_) (pq := 73) rfl (fun c_4 => ?_)
      · have h := ite_t c_4 h
        exact tW_nights_J104 hX hQ hN hk34 hk48 h
      · have h := ite_f c_4 h
        refine wb_aload_n 0 hX dX10_nights_73 rfl (pq := 74) rfl ?_
        refine wb_iload_n 3 hX dX10_nights_74 rfl (pq := 75) rfl ?_
        refine wb_iload 4 hX dX10_nights_75 rfl (pq := 77) rfl ?_
        obtain ⟨q_6, hc_5, h⟩ := bind_s h
        refine wb_callVi (r0 := q_6.1) (s1 := q_6.2) [.int x3, .int x4] hX sh_0 ml_978 (tW_wouldExplain hc_5) (by decide) rfl rfl (Nat.le_of_ble_eq_true rfl) dX10_nights_77 (pq := 80) rfl ?_
        refine wb_if_eq (tgt := 104) hX dX10_nights_80 (by decide) (fun c_7 => ?_) (pq := 83) rfl (fun c_7 => ?_)
        · have h := ite_t c_7 h
          exact tW_nights_J104 hX hQ hN hk34 hk48 h
        · have h := ite_f c_7 h
          refine wb_iload_n 2 hX dX10_nights_83 rfl (pq := 84) rfl ?_
          refine wb_if_ne (tgt := 101) hX dX10_nights_84 (by decide) (pq := 87) rfl (fun c_8 => ?_) (fun c_8 => ?_)
          · have h := ite_t c_8 h
            refine wb_aload_n 0 hX dX10_nights_87 rfl (pq := 88) rfl ?_
            refine wb_getR hX fl_337 sh_0 rfl dX10_nights_88 (pq := 91) rfl ?_
            refine wb_bipush (v := iI (10)) hX dX10_nights_91 (by decide) (pq := 93) rfl ?_
            refine wb_iload_n 3 hX dX10_nights_93 rfl (pq := 94) rfl ?_
            refine wb_imul hX dX10_nights_94 (pq := 95) rfl ?_
            refine wb_iload 4 hX dX10_nights_95 rfl (pq := 97) rfl ?_
            refine wb_iadd hX dX10_nights_97 (pq := 98) rfl ?_
            obtain ⟨q_10, hc_9, h⟩ := bind_s h
            refine wb_callVv (s1 := q_10) [.int (((iI (10)) * x3) + x4)] hX sh_32 ml_608 (tNum_add hc_9) (by decide) rfl rfl (Nat.le_of_ble_eq_true rfl) dX10_nights_98 (pq := 101) rfl ?_
            exact tW_nights_J101 hX hQ hN hk34 hk48 h
          · have h := ite_f c_8 h
            exact tW_nights_J101 hX hQ hN hk34 hk48 h
set_option maxHeartbeats 4000000 in
set_option maxRecDepth 100000 in
theorem tW_nights_J129 {G : wG} {X : wX} {x2 : Int32} {v0 : Int32} {s : wM} {r0 : Int32} {s1 : wM} (hX : wOK G X cX10_nights RX10 (some .int) 5) (hQ : wRt G X (wQi G r0 s1)) (hN : wNl X = 5) (h : fW_nights_J129 x2 v0 s = some (r0, s1)) : WB G X 129 [(2, .int x2)] [.int v0, .ref (G.1 32)] s := by
  unfold fW_nights_J129 at h
  obtain ⟨q_2, hc_1, h⟩ := bind_s h
  refine wb_callVv (s1 := q_2) [.int v0] hX sh_32 ml_608 (tNum_add hc_1) (by decide) rfl rfl (Nat.le_of_ble_eq_true rfl) dX10_nights_129 (pq := 132) rfl ?_
  refine wb_iload_n 0 hX dX10_nights_132 rfl (pq := 133) rfl ?_
  exact wb_iret hX hQ h dX10_nights_133
set_option maxHeartbeats 4000000 in
set_option maxRecDepth 100000 in
theorem tW_nights_L34 {G : wG} {X : wX} {x1 : Int32} {r0 : Int32} {s1 : wM} (hX : wOK G X cX10_nights RX10 (some .int) 5) (hQ : wRt G X (wQi G r0 s1)) (hN : wNl X = 5) : ∀ (n : Nat) (x2 : Int32) (x3 : Int32) (s : wM), wh3 (fW_nights_L34 x1) n x2 x3 s = some (r0, s1) → WB G X 34 [(0, .ref (G.1 0)), (1, .int x1), (2, .int x2), (3, .int x3)] [] s := by
  intro n
  induction n with
  | zero => intro x2 x3 s h; cases h
  | succ n hk34 =>
    intro x2 x3 s h
    have h : fW_nights_L34 x1 x2 x3 s (wh3 (fW_nights_L34 x1) n) = some (r0, s1) := h
    unfold fW_nights_L34 at h
    refine wb_iload_n 3 hX dX10_nights_34 rfl (pq := 35) rfl ?_
    refine wb_aload_n 0 hX dX10_nights_35 rfl (pq := 36) rfl ?_
    refine wb_getR hX fl_333 sh_0 rfl dX10_nights_36 (pq := 39) rfl ?_
    refine wb_getI hX fl_109 sh_7 rfl dX10_nights_39 (pq := 42) rfl ?_
    refine wb_icmp_ge (tgt := 116) hX dX10_nights_42 (by decide) (fun c_1 => ?_) (pq := 45) rfl (fun c_1 => ?_)
    · have h := ite_t c_1 h
      refine wb_aload_n 0 hX dX10_nights_116 rfl (pq := 117) rfl ?_
      refine wb_getR hX fl_337 sh_0 rfl dX10_nights_117 (pq := 120) rfl ?_
      refine wb_iload_n 1 hX dX10_nights_120 rfl (pq := 121) rfl ?_
      refine wb_if_eq (tgt := 128) hX dX10_nights_121 (by decide) (fun c_2 => ?_) (pq := 124) rfl (fun c_2 => ?_)
      · have h := ite_t c_2 h
        refine wb_iconst (v := iI (0)) hX dX10_nights_128 rfl (pq := 129) rfl ?_
        refine wb_sub [2] (loc' := [(2, .int x2)]) rfl ?_
        exact tW_nights_J129 hX hQ hN h
      · have h := ite_f c_2 h
        refine wb_iconst (v := iI (1)) hX dX10_nights_124 rfl (pq := 125) rfl ?_
        refine wb_goto (tgt := 129) hX dX10_nights_125 (by decide) ?_
        refine wb_sub [2] (loc' := [(2, .int x2)]) rfl ?_
        exact tW_nights_J129 hX hQ hN h
    · have h := ite_f c_1 h
      refine wb_iconst (v := iI (0)) hX dX10_nights_45 rfl (pq := 46) rfl ?_
      refine wb_istore (loc' := [(4, .int (iI (0))), (0, .ref (G.1 0)), (1, .int x1), (2, .int x2), (3, .int x3)]) hX hN dX10_nights_46 (by decide) rfl (pq := 48) rfl ?_
      refine wb_sub [1, 2, 3, 4, 0] (loc' := [(0, .ref (G.1 0)), (1, .int x1), (2, .int x2), (3, .int x3), (4, .int (iI (0)))]) rfl ?_
      exact tW_nights_L48 hX hQ hN hk34 100000 _ _ _ h
set_option maxHeartbeats 4000000 in
set_option maxRecDepth 100000 in
theorem tW_nights {l : Launch} {G : wG} {s : wM} {r0 : Int32} {s1 : wM} (h : fW_nights s = some (r0, s1)) : wMet l G yX10_nights cX10_nights 5 (some .int) 5 [.ref (G.1 0)] s (wQi G r0 s1) := by
  refine wMet_of (own := RX10) (by decide +kernel) rfl (Nat.le_of_ble_eq_true rfl) ?_
  intro X hX hQ hN hl
  show WB G X 0 [(0, .ref (G.1 0))] [] s
  unfold fW_nights at h
  refine wb_aload_n 0 hX dX10_nights_0 rfl (pq := 1) rfl ?_
  refine wb_getR hX fl_334 sh_0 rfl dX10_nights_1 (pq := 4) rfl ?_
  refine wb_aload_n 0 hX dX10_nights_4 rfl (pq := 5) rfl ?_
  refine wb_getR hX fl_333 sh_0 rfl dX10_nights_5 (pq := 8) rfl ?_
  obtain ⟨q_2, hc_1, h⟩ := bind_s h
  refine wb_callVv (s1 := q_2) [.ref (G.1 7)] hX sh_13 ml_567 (tAh_look hc_1) (by decide) rfl rfl (Nat.le_of_ble_eq_true rfl) dX10_nights_8 (pq := 11) rfl ?_
  refine wb_aload_n 0 hX dX10_nights_11 rfl (pq := 12) rfl ?_
  refine wb_getR hX fl_340 sh_0 rfl dX10_nights_12 (pq := 15) rfl ?_
  refine wb_aload_n 0 hX dX10_nights_15 rfl (pq := 16) rfl ?_
  refine wb_getR hX fl_334 sh_0 rfl dX10_nights_16 (pq := 19) rfl ?_
  obtain ⟨q_4, hc_3, h⟩ := bind_s h
  refine wb_callVi (r0 := q_4.1) (s1 := q_4.2) [.ref (G.1 13)] hX sh_142 ml_963 (tSi_holdFor hc_3) (by decide) rfl rfl (Nat.le_of_ble_eq_true rfl) dX10_nights_19 (pq := 22) rfl ?_
  refine wb_istore_n (loc' := [(1, .int q_4.1), (0, .ref (G.1 0))]) hX hN dX10_nights_22 (by decide) rfl (pq := 23) rfl ?_
  refine wb_iconst (v := iI (0)) hX dX10_nights_23 rfl (pq := 24) rfl ?_
  refine wb_istore_n (loc' := [(2, .int (iI (0))), (1, .int q_4.1), (0, .ref (G.1 0))]) hX hN dX10_nights_24 (by decide) rfl (pq := 25) rfl ?_
  refine wb_aload_n 2 hX dX10_nights_25 rfl (pq := 26) rfl ?_
  refine wb_getR hX fl_337 sh_0 rfl dX10_nights_26 (pq := 29) rfl ?_
  obtain ⟨q_6, hc_5, h⟩ := bind_s h
  refine wb_callVv (s1 := q_6) [] hX sh_32 ml_642 (tNum_clear hc_5) (by decide) rfl rfl (Nat.le_of_ble_eq_true rfl) dX10_nights_29 (pq := 32) rfl ?_
  refine wb_iconst (v := iI (0)) hX dX10_nights_32 rfl (pq := 33) rfl ?_
  refine wb_istore_n (loc' := [(3, .int (iI (0))), (2, .int (iI (0))), (1, .int q_4.1), (0, .ref (G.1 0))]) hX hN dX10_nights_33 (by decide) rfl (pq := 34) rfl ?_
  refine wb_sub [3, 2, 1, 0] (loc' := [(0, .ref (G.1 0)), (1, .int q_4.1), (2, .int (iI (0))), (3, .int (iI (0)))]) rfl ?_
  exact tW_nights_L34 hX hQ hN 100000 _ _ _ h
set_option maxHeartbeats 4000000 in
set_option maxRecDepth 100000 in
theorem tW_showWay_L2 {G : wG} {X : wX} {x1 : Int32} {s1 : wM} (hX : wOK G X cX10_showWay RX10 none 3) (hQ : wRt G X (wQv G s1)) (hN : wNl X = 3) : ∀ (n : Nat) (x2 : Int32) (s : wM), wh2 (fW_showWay_L2 x1) n x2 s = some s1 → WB G X 2 [(0, .ref (G.1 0)), (1, .int x1), (2, .int x2)] [] s := by
  intro n
  induction n with
  | zero => intro x2 s h; cases h
  | succ n hk2 =>
    intro x2 s h
    have h : fW_showWay_L2 x1 x2 s (wh2 (fW_showWay_L2 x1) n) = some s1 := h
    unfold fW_showWay_L2 at h
    refine wb_iload_n 2 hX dX10_showWay_2 rfl (pq := 3) rfl ?_
    refine wb_bipush (v := iI (20)) hX dX10_showWay_3 (by decide) (pq := 5) rfl ?_
    refine wb_icmp_ge (tgt := 41) hX dX10_showWay_5 (by decide) (fun c_1 => ?_) (pq := 8) rfl (fun c_1 => ?_)
    · have h := ite_t c_1 h
      exact wb_vret hX hQ h dX10_showWay_41
    · have h := ite_f c_1 h
      refine wb_aload_n 0 hX dX10_showWay_8 rfl (pq := 9) rfl ?_
      refine wb_getR hX fl_334 sh_0 rfl dX10_showWay_9 (pq := 12) rfl ?_
      refine wb_iconst (v := iI (0)) hX dX10_showWay_12 rfl (pq := 13) rfl ?_
      refine wb_iconst (v := iI (0)) hX dX10_showWay_13 rfl (pq := 14) rfl ?_
      obtain ⟨q_3, hc_2, h⟩ := bind_s h
      refine wb_callVv (s1 := q_3) [.int (iI (0)), .int (iI (0))] hX sh_13 ml_577 (tAh_pass hc_2) (by decide) rfl rfl (Nat.le_of_ble_eq_true rfl) dX10_showWay_14 (pq := 17) rfl ?_
      refine wb_aload_n 0 hX dX10_showWay_17 rfl (pq := 18) rfl ?_
      refine wb_getR hX fl_341 sh_0 rfl dX10_showWay_18 (pq := 21) rfl ?_
      refine wb_iload_n 1 hX dX10_showWay_21 rfl (pq := 22) rfl ?_
      refine wb_bipush (v := iI (20)) hX dX10_showWay_22 (by decide) (pq := 24) rfl ?_
      refine wb_imul hX dX10_showWay_24 (pq := 25) rfl ?_
      refine wb_iload_n 2 hX dX10_showWay_25 rfl (pq := 26) rfl ?_
      refine wb_iadd hX dX10_showWay_26 (pq := 27) rfl ?_
      refine wb_aload_n 0 hX dX10_showWay_27 rfl (pq := 28) rfl ?_
      refine wb_getR hX fl_334 sh_0 rfl dX10_showWay_28 (pq := 31) rfl ?_
      obtain ⟨q_5, hc_4, h⟩ := bind_s h
      refine wb_callVi (r0 := q_5) (s1 := q_3) [] hX sh_13 ml_604 (tAh_evenPairs hc_4) (by decide) rfl rfl (Nat.le_of_ble_eq_true rfl) dX10_showWay_31 (pq := 34) rfl ?_
      obtain ⟨hi_6, h⟩ := chk_some h
      refine wb_iast hX sh_145 hi_6 dX10_showWay_34 (pq := 35) rfl ?_
      refine wb_mem (fun s_7 es_7 => ?_)
      have h := nmM_s h s_7 es_7
      refine wb_iinc (v := (x2 + iI (1))) (loc' := [(2, .int (x2 + iI (1))), (0, .ref (G.1 0)), (1, .int x1)]) 2 hX hN dX10_showWay_35 rfl rfl (by decide) rfl (pq := 38) rfl ?_
      refine wb_goto (tgt := 2) hX dX10_showWay_38 (by decide) ?_
      refine wb_sub [1, 2, 0] (loc' := [(0, .ref (G.1 0)), (1, .int x1), (2, .int (x2 + iI (1)))]) rfl ?_
      exact hk2 _ _ h
set_option maxHeartbeats 4000000 in
set_option maxRecDepth 100000 in
theorem tW_showWay {l : Launch} {G : wG} {s : wM} {x1 : Int32} {s1 : wM} (h : fW_showWay s x1 = some s1) : wMet l G yX10_showWay cX10_showWay 3 none 3 [.ref (G.1 0), .int x1] s (wQv G s1) := by
  refine wMet_of (own := RX10) (by decide +kernel) rfl (Nat.le_of_ble_eq_true rfl) ?_
  intro X hX hQ hN hl
  show WB G X 0 [(0, .ref (G.1 0)), (1, .int x1)] [] s
  unfold fW_showWay at h
  refine wb_iconst (v := iI (0)) hX dX10_showWay_0 rfl (pq := 1) rfl ?_
  refine wb_istore_n (loc' := [(2, .int (iI (0))), (0, .ref (G.1 0)), (1, .int x1)]) hX hN dX10_showWay_1 (by decide) rfl (pq := 2) rfl ?_
  refine wb_sub [1, 2, 0] (loc' := [(0, .ref (G.1 0)), (1, .int x1), (2, .int (iI (0)))]) rfl ?_
  exact tW_showWay_L2 hX hQ hN 100000 _ _ h
set_option maxHeartbeats 4000000 in
set_option maxRecDepth 100000 in
theorem tW_showAllWays_J102 {G : wG} {X : wX} {k20 : Int32 → Int32 → wM → Option (Int32 × wM)} {x1 : Int32} {x2 : Int32} {s : wM} {r0 : Int32} {s1 : wM} (hX : wOK G X cX10_showAllWays RX10 (some .int) 4) (hQ : wRt G X (wQi G r0 s1)) (hN : wNl X = 3) (hk20 : ∀ (x1 : Int32) (x2 : Int32) (s : wM), k20 x1 x2 s = some (r0, s1) → WB G X 20 [(0, .ref (G.1 0)), (1, .int x1), (2, .int x2)] [] s) (h : fW_showAllWays_J102 k20 x1 x2 s = some (r0, s1)) : WB G X 102 [(0, .ref (G.1 0)), (1, .int x1), (2, .int x2)] [] s := by
  unfold fW_showAllWays_J102 at h
  refine wb_iinc (v := (x2 + iI (1))) (loc' := [(2, .int (x2 + iI (1))), (0, .ref (G.1 0)), (1, .int x1)]) 2 hX hN dX10_showAllWays_102 rfl rfl (by decide) rfl (pq := 105) rfl ?_
  refine wb_goto (tgt := 20) hX dX10_showAllWays_105 (by decide) ?_
  refine wb_sub [1, 2, 0] (loc' := [(0, .ref (G.1 0)), (1, .int x1), (2, .int (x2 + iI (1)))]) rfl ?_
  exact hk20 _ _ _ h
set_option maxHeartbeats 4000000 in
set_option maxRecDepth 100000 in
theorem tW_showAllWays_L20 {G : wG} {X : wX} {r0 : Int32} {s1 : wM} (hX : wOK G X cX10_showAllWays RX10 (some .int) 4) (hQ : wRt G X (wQi G r0 s1)) (hN : wNl X = 3) : ∀ (n : Nat) (x1 : Int32) (x2 : Int32) (s : wM), wh3 (fW_showAllWays_L20) n x1 x2 s = some (r0, s1) → WB G X 20 [(0, .ref (G.1 0)), (1, .int x1), (2, .int x2)] [] s := by
  intro n
  induction n with
  | zero => intro x1 x2 s h; cases h
  | succ n hk20 =>
    intro x1 x2 s h
    have h : fW_showAllWays_L20 x1 x2 s (wh3 (fW_showAllWays_L20) n) = some (r0, s1) := h
    unfold fW_showAllWays_L20 at h
    refine wb_iload_n 2 hX dX10_showAllWays_20 rfl (pq := 21) rfl ?_
    refine wb_aload_n 0 hX dX10_showAllWays_21 rfl (pq := 22) rfl ?_
    refine wb_getR hX fl_333 sh_0 rfl dX10_showAllWays_22 (pq := 25) rfl ?_
    refine wb_getI hX fl_109 sh_7 rfl dX10_showAllWays_25 (pq := 28) rfl ?_
    refine wb_icmp_ge (tgt := 108) hX dX10_showAllWays_28 (by decide) (fun c_1 => ?_) (pq := 31) rfl (fun c_1 => ?_)
    · have h := ite_t c_1 h
      refine wb_iload_n 1 hX dX10_showAllWays_108 rfl (pq := 109) rfl ?_
      exact wb_iret hX hQ h dX10_showAllWays_109
    · have h := ite_f c_1 h
      refine wb_aload_n 0 hX dX10_showAllWays_31 rfl (pq := 32) rfl ?_
      refine wb_getR hX fl_333 sh_0 rfl dX10_showAllWays_32 (pq := 35) rfl ?_
      refine wb_getR hX fl_95 sh_7 rfl dX10_showAllWays_35 (pq := 38) rfl ?_
      refine wb_iload_n 2 hX dX10_showAllWays_38 rfl (pq := 39) rfl ?_
      obtain ⟨hi_2, h⟩ := chk_some h
      refine wb_iald hX sh_9 hi_2 dX10_showAllWays_39 (pq := 40) rfl ?_
      refine wb_bipush (v := iI (9)) hX dX10_showAllWays_40 (by decide) (pq := 42) rfl ?_
      refine wb_icmp_ge (tgt := 102) hX dX10_showAllWays_42 (by decide) (fun c_3 => ?_) (pq := 45) rfl (fun c_3 => ?_)
      · have h := ite_t c_3 h
        exact tW_showAllWays_J102 hX hQ hN hk20 h
      · have h := ite_f c_3 h
        refine wb_aload_n 0 hX dX10_showAllWays_45 rfl (pq := 46) rfl ?_
        refine wb_getR hX fl_334 sh_0 rfl dX10_showAllWays_46 (pq := 49) rfl ?_
        refine wb_aload_n 0 hX dX10_showAllWays_49 rfl (pq := 50) rfl ?_
        refine wb_getR hX fl_333 sh_0 rfl dX10_showAllWays_50 (pq := 53) rfl ?_
        obtain ⟨q_5, hc_4, h⟩ := bind_s h
        refine wb_callVv (s1 := q_5) [.ref (G.1 7)] hX sh_13 ml_926 (tAh_rewind hc_4) (by decide) rfl rfl (Nat.le_of_ble_eq_true rfl) dX10_showAllWays_53 (pq := 56) rfl ?_
        refine wb_aload_n 0 hX dX10_showAllWays_56 rfl (pq := 57) rfl ?_
        refine wb_getR hX fl_334 sh_0 rfl dX10_showAllWays_57 (pq := 60) rfl ?_
        refine wb_getR hX fl_139 sh_13 rfl dX10_showAllWays_60 (pq := 63) rfl ?_
        refine wb_iload_n 2 hX dX10_showAllWays_63 rfl (pq := 64) rfl ?_
        refine wb_aload_n 0 hX dX10_showAllWays_64 rfl (pq := 65) rfl ?_
        refine wb_getR hX fl_333 sh_0 rfl dX10_showAllWays_65 (pq := 68) rfl ?_
        refine wb_getR hX fl_95 sh_7 rfl dX10_showAllWays_68 (pq := 71) rfl ?_
        refine wb_iload_n 2 hX dX10_showAllWays_71 rfl (pq := 72) rfl ?_
        refine wb_iald hX sh_9 hi_2 dX10_showAllWays_72 (pq := 73) rfl ?_
        refine wb_iconst (v := iI (1)) hX dX10_showAllWays_73 rfl (pq := 74) rfl ?_
        refine wb_iadd hX dX10_showAllWays_74 (pq := 75) rfl ?_
        refine wb_iast hX sh_15 hi_2 dX10_showAllWays_75 (pq := 76) rfl ?_
        refine wb_mem (fun s_6 es_6 => ?_)
        have h := nmM_s h s_6 es_6
        refine wb_aload_n 0 hX dX10_showAllWays_76 rfl (pq := 77) rfl ?_
        refine wb_iload_n 1 hX dX10_showAllWays_77 rfl (pq := 78) rfl ?_
        obtain ⟨q_8, hc_7, h⟩ := bind_s h
        refine wb_callVv (s1 := q_8) [.int x1] hX sh_0 ml_990 (tW_showWay hc_7) (by decide) rfl rfl (Nat.le_of_ble_eq_true rfl) dX10_showAllWays_78 (pq := 81) rfl ?_
        refine wb_aload_n 0 hX dX10_showAllWays_81 rfl (pq := 82) rfl ?_
        refine wb_getR hX fl_334 sh_0 rfl dX10_showAllWays_82 (pq := 85) rfl ?_
        refine wb_getR hX fl_139 sh_13 rfl dX10_showAllWays_85 (pq := 88) rfl ?_
        refine wb_iload_n 2 hX dX10_showAllWays_88 rfl (pq := 89) rfl ?_
        refine wb_aload_n 0 hX dX10_showAllWays_89 rfl (pq := 90) rfl ?_
        refine wb_getR hX fl_333 sh_0 rfl dX10_showAllWays_90 (pq := 93) rfl ?_
        refine wb_getR hX fl_95 sh_7 rfl dX10_showAllWays_93 (pq := 96) rfl ?_
        refine wb_iload_n 2 hX dX10_showAllWays_96 rfl (pq := 97) rfl ?_
        refine wb_iald hX sh_9 hi_2 dX10_showAllWays_97 (pq := 98) rfl ?_
        refine wb_iast hX sh_15 hi_2 dX10_showAllWays_98 (pq := 99) rfl ?_
        refine wb_mem (fun s_9 es_9 => ?_)
        have h := nmM_s h s_9 es_9
        refine wb_iinc (v := (x1 + iI (1))) (loc' := [(1, .int (x1 + iI (1))), (0, .ref (G.1 0)), (2, .int x2)]) 1 hX hN dX10_showAllWays_99 rfl rfl (by decide) rfl (pq := 102) rfl ?_
        refine wb_sub [1, 0, 2] (loc' := [(0, .ref (G.1 0)), (1, .int (x1 + iI (1))), (2, .int x2)]) rfl ?_
        exact tW_showAllWays_J102 hX hQ hN hk20 h
set_option maxHeartbeats 4000000 in
set_option maxRecDepth 100000 in
theorem tW_showAllWays {l : Launch} {G : wG} {s : wM} {r0 : Int32} {s1 : wM} (h : fW_showAllWays s = some (r0, s1)) : wMet l G yX10_showAllWays cX10_showAllWays 3 (some .int) 4 [.ref (G.1 0)] s (wQi G r0 s1) := by
  refine wMet_of (own := RX10) (by decide +kernel) rfl (Nat.le_of_ble_eq_true rfl) ?_
  intro X hX hQ hN hl
  show WB G X 0 [(0, .ref (G.1 0))] [] s
  unfold fW_showAllWays at h
  refine wb_aload_n 0 hX dX10_showAllWays_0 rfl (pq := 1) rfl ?_
  refine wb_getR hX fl_334 sh_0 rfl dX10_showAllWays_1 (pq := 4) rfl ?_
  refine wb_aload_n 0 hX dX10_showAllWays_4 rfl (pq := 5) rfl ?_
  refine wb_getR hX fl_333 sh_0 rfl dX10_showAllWays_5 (pq := 8) rfl ?_
  obtain ⟨q_2, hc_1, h⟩ := bind_s h
  refine wb_callVv (s1 := q_2) [.ref (G.1 7)] hX sh_13 ml_567 (tAh_look hc_1) (by decide) rfl rfl (Nat.le_of_ble_eq_true rfl) dX10_showAllWays_8 (pq := 11) rfl ?_
  refine wb_aload_n 0 hX dX10_showAllWays_11 rfl (pq := 12) rfl ?_
  refine wb_iconst (v := iI (0)) hX dX10_showAllWays_12 rfl (pq := 13) rfl ?_
  obtain ⟨q_4, hc_3, h⟩ := bind_s h
  refine wb_callVv (s1 := q_4) [.int (iI (0))] hX sh_0 ml_990 (tW_showWay hc_3) (by decide) rfl rfl (Nat.le_of_ble_eq_true rfl) dX10_showAllWays_13 (pq := 16) rfl ?_
  refine wb_iconst (v := iI (1)) hX dX10_showAllWays_16 rfl (pq := 17) rfl ?_
  refine wb_istore_n (loc' := [(1, .int (iI (1))), (0, .ref (G.1 0))]) hX hN dX10_showAllWays_17 (by decide) rfl (pq := 18) rfl ?_
  refine wb_iconst (v := iI (0)) hX dX10_showAllWays_18 rfl (pq := 19) rfl ?_
  refine wb_istore_n (loc' := [(2, .int (iI (0))), (1, .int (iI (1))), (0, .ref (G.1 0))]) hX hN dX10_showAllWays_19 (by decide) rfl (pq := 20) rfl ?_
  refine wb_sub [2, 1, 0] (loc' := [(0, .ref (G.1 0)), (1, .int (iI (1))), (2, .int (iI (0)))]) rfl ?_
  exact tW_showAllWays_L20 hX hQ hN 100000 _ _ _ h
set_option maxHeartbeats 4000000 in
set_option maxRecDepth 100000 in
theorem tW_mostAlike_J57 {G : wG} {X : wX} {k5 : Int32 → Int32 → Option (Int32)} {k17 : Int32 → Int32 → Option (Int32)} {x1 : Int32} {x2 : Int32} {x3 : Int32} {x4 : Int32} {x6 : Int32} {v0 : Int32} {v1 : Int32} {s : wM} {r0 : Int32} (hX : wOK G X cX10_mostAlike RX10 (some .int) 0) (hQ : wRt G X (wQi G r0 s)) (hN : wNl X = 7) (hk5 : ∀ (x3 : Int32) (x4 : Int32), k5 x3 x4 = some r0 → WB G X 5 [(0, .ref (G.1 0)), (1, .int x1), (2, .int x2), (3, .int x3), (4, .int x4)] [] s) (hk17 : ∀ (x5 : Int32) (x6 : Int32), k17 x5 x6 = some r0 → WB G X 17 [(0, .ref (G.1 0)), (1, .int x1), (2, .int x2), (3, .int x3), (4, .int x4), (5, .int x5), (6, .int x6)] [] s) (h : fW_mostAlike_J57 k5 k17 x1 x2 x3 x4 x6 v0 v1 s = some r0) : WB G X 57 [(0, .ref (G.1 0)), (1, .int x1), (2, .int x2), (3, .int x3), (4, .int x4), (6, .int x6)] [.int v0, .int v1] s := by
  unfold fW_mostAlike_J57 at h
  refine wb_iadd hX dX10_mostAlike_57 (pq := 58) rfl ?_
  refine wb_istore (loc' := [(5, .int (v1 + v0)), (0, .ref (G.1 0)), (1, .int x1), (2, .int x2), (3, .int x3), (4, .int x4), (6, .int x6)]) hX hN dX10_mostAlike_58 (by decide) rfl (pq := 60) rfl ?_
  refine wb_iinc (v := (x6 + iI (1))) (loc' := [(6, .int (x6 + iI (1))), (5, .int (v1 + v0)), (0, .ref (G.1 0)), (1, .int x1), (2, .int x2), (3, .int x3), (4, .int x4)]) 6 hX hN dX10_mostAlike_60 rfl rfl (by decide) rfl (pq := 63) rfl ?_
  refine wb_goto (tgt := 17) hX dX10_mostAlike_63 (by decide) ?_
  refine wb_sub [2, 3, 4, 5, 6, 1, 0] (loc' := [(0, .ref (G.1 0)), (1, .int x1), (2, .int x2), (3, .int x3), (4, .int x4), (5, .int (v1 + v0)), (6, .int (x6 + iI (1)))]) rfl ?_
  exact hk17 _ _ h
set_option maxHeartbeats 4000000 in
set_option maxRecDepth 100000 in
theorem tW_mostAlike_L17 {G : wG} {X : wX} {k5 : Int32 → Int32 → Option (Int32)} {x1 : Int32} {x2 : Int32} {x3 : Int32} {x4 : Int32} {s : wM} {r0 : Int32} (hX : wOK G X cX10_mostAlike RX10 (some .int) 0) (hQ : wRt G X (wQi G r0 s)) (hN : wNl X = 7) (hk5 : ∀ (x3 : Int32) (x4 : Int32), k5 x3 x4 = some r0 → WB G X 5 [(0, .ref (G.1 0)), (1, .int x1), (2, .int x2), (3, .int x3), (4, .int x4)] [] s) : ∀ (n : Nat) (x5 : Int32) (x6 : Int32), wh2 (fW_mostAlike_L17 k5 x1 x2 x3 x4 s) n x5 x6 = some r0 → WB G X 17 [(0, .ref (G.1 0)), (1, .int x1), (2, .int x2), (3, .int x3), (4, .int x4), (5, .int x5), (6, .int x6)] [] s := by
  intro n
  induction n with
  | zero => intro x5 x6 h; cases h
  | succ n hk17 =>
    intro x5 x6 h
    have h : fW_mostAlike_L17 k5 x1 x2 x3 x4 s x5 x6 (wh2 (fW_mostAlike_L17 k5 x1 x2 x3 x4 s) n) = some r0 := h
    unfold fW_mostAlike_L17 at h
    refine wb_iload 6 hX dX10_mostAlike_17 rfl (pq := 19) rfl ?_
    refine wb_iload_n 2 hX dX10_mostAlike_19 rfl (pq := 20) rfl ?_
    refine wb_icmp_ge (tgt := 66) hX dX10_mostAlike_20 (by decide) (fun c_1 => ?_) (pq := 23) rfl (fun c_1 => ?_)
    · have h := ite_t c_1 h
      refine wb_iload_n 3 hX dX10_mostAlike_66 rfl (pq := 67) rfl ?_
      refine wb_iload 5 hX dX10_mostAlike_67 rfl (pq := 69) rfl ?_
      refine wb_mmax hX k_490 k_491 k_14 k_492 (Nat.le_of_ble_eq_true rfl) dX10_mostAlike_69 (pq := 72) rfl ?_
      refine wb_istore_n (loc' := [(3, .int (iMax x3 x5)), (0, .ref (G.1 0)), (1, .int x1), (2, .int x2), (4, .int x4), (5, .int x5), (6, .int x6)]) hX hN dX10_mostAlike_72 (by decide) rfl (pq := 73) rfl ?_
      refine wb_iinc (v := (x4 + iI (1))) (loc' := [(4, .int (x4 + iI (1))), (3, .int (iMax x3 x5)), (0, .ref (G.1 0)), (1, .int x1), (2, .int x2), (5, .int x5), (6, .int x6)]) 4 hX hN dX10_mostAlike_73 rfl rfl (by decide) rfl (pq := 76) rfl ?_
      refine wb_goto (tgt := 5) hX dX10_mostAlike_76 (by decide) ?_
      refine wb_sub [2, 3, 4, 1, 0] (loc' := [(0, .ref (G.1 0)), (1, .int x1), (2, .int x2), (3, .int (iMax x3 x5)), (4, .int (x4 + iI (1)))]) rfl ?_
      exact hk5 _ _ h
    · have h := ite_f c_1 h
      refine wb_iload 5 hX dX10_mostAlike_23 rfl (pq := 25) rfl ?_
      refine wb_aload_n 0 hX dX10_mostAlike_25 rfl (pq := 26) rfl ?_
      refine wb_getR hX fl_341 sh_0 rfl dX10_mostAlike_26 (pq := 29) rfl ?_
      refine wb_iload 4 hX dX10_mostAlike_29 rfl (pq := 31) rfl ?_
      refine wb_bipush (v := iI (20)) hX dX10_mostAlike_31 (by decide) (pq := 33) rfl ?_
      refine wb_imul hX dX10_mostAlike_33 (pq := 34) rfl ?_
      refine wb_iload_n 1 hX dX10_mostAlike_34 rfl (pq := 35) rfl ?_
      refine wb_iadd hX dX10_mostAlike_35 (pq := 36) rfl ?_
      obtain ⟨hi_2, h⟩ := chk_some h
      refine wb_iald hX sh_145 hi_2 dX10_mostAlike_36 (pq := 37) rfl ?_
      refine wb_aload_n 0 hX dX10_mostAlike_37 rfl (pq := 38) rfl ?_
      refine wb_getR hX fl_341 sh_0 rfl dX10_mostAlike_38 (pq := 41) rfl ?_
      refine wb_iload 6 hX dX10_mostAlike_41 rfl (pq := 43) rfl ?_
      refine wb_bipush (v := iI (20)) hX dX10_mostAlike_43 (by decide) (pq := 45) rfl ?_
      refine wb_imul hX dX10_mostAlike_45 (pq := 46) rfl ?_
      refine wb_iload_n 1 hX dX10_mostAlike_46 rfl (pq := 47) rfl ?_
      refine wb_iadd hX dX10_mostAlike_47 (pq := 48) rfl ?_
      obtain ⟨hi_3, h⟩ := chk_some h
      refine wb_iald hX sh_145 hi_3 dX10_mostAlike_48 (pq := 49) rfl ?_
      refine wb_icmp_ne (tgt := 56) hX dX10_mostAlike_49 (by decide) (pq := 52) rfl (fun c_4 => ?_) (fun c_4 => ?_)
      · have h := ite_t c_4 h
        refine wb_iconst (v := iI (1)) hX dX10_mostAlike_52 rfl (pq := 53) rfl ?_
        refine wb_goto (tgt := 57) hX dX10_mostAlike_53 (by decide) ?_
        refine wb_sub [0, 1, 2, 3, 4, 6] (loc' := [(0, .ref (G.1 0)), (1, .int x1), (2, .int x2), (3, .int x3), (4, .int x4), (6, .int x6)]) rfl ?_
        exact tW_mostAlike_J57 hX hQ hN hk5 hk17 h
      · have h := ite_f c_4 h
        refine wb_iconst (v := iI (0)) hX dX10_mostAlike_56 rfl (pq := 57) rfl ?_
        refine wb_sub [0, 1, 2, 3, 4, 6] (loc' := [(0, .ref (G.1 0)), (1, .int x1), (2, .int x2), (3, .int x3), (4, .int x4), (6, .int x6)]) rfl ?_
        exact tW_mostAlike_J57 hX hQ hN hk5 hk17 h
set_option maxHeartbeats 4000000 in
set_option maxRecDepth 100000 in
theorem tW_mostAlike_L5 {G : wG} {X : wX} {x1 : Int32} {x2 : Int32} {s : wM} {r0 : Int32} (hX : wOK G X cX10_mostAlike RX10 (some .int) 0) (hQ : wRt G X (wQi G r0 s)) (hN : wNl X = 7) : ∀ (n : Nat) (x3 : Int32) (x4 : Int32), wh2 (fW_mostAlike_L5 x1 x2 s) n x3 x4 = some r0 → WB G X 5 [(0, .ref (G.1 0)), (1, .int x1), (2, .int x2), (3, .int x3), (4, .int x4)] [] s := by
  intro n
  induction n with
  | zero => intro x3 x4 h; cases h
  | succ n hk5 =>
    intro x3 x4 h
    have h : fW_mostAlike_L5 x1 x2 s x3 x4 (wh2 (fW_mostAlike_L5 x1 x2 s) n) = some r0 := h
    unfold fW_mostAlike_L5 at h
    refine wb_iload 4 hX dX10_mostAlike_5 rfl (pq := 7) rfl ?_
    refine wb_iload_n 2 hX dX10_mostAlike_7 rfl (pq := 8) rfl ?_
    refine wb_icmp_ge (tgt := 79) hX dX10_mostAlike_8 (by decide) (fun c_1 => ?_) (pq := 11) rfl (fun c_1 => ?_)
    · have h := ite_t c_1 h
      refine wb_iload_n 3 hX dX10_mostAlike_79 rfl (pq := 80) rfl ?_
      exact wb_iretP hX hQ h dX10_mostAlike_80
    · have h := ite_f c_1 h
      refine wb_iconst (v := iI (0)) hX dX10_mostAlike_11 rfl (pq := 12) rfl ?_
      refine wb_istore (loc' := [(5, .int (iI (0))), (0, .ref (G.1 0)), (1, .int x1), (2, .int x2), (3, .int x3), (4, .int x4)]) hX hN dX10_mostAlike_12 (by decide) rfl (pq := 14) rfl ?_
      refine wb_iconst (v := iI (0)) hX dX10_mostAlike_14 rfl (pq := 15) rfl ?_
      refine wb_istore (loc' := [(6, .int (iI (0))), (5, .int (iI (0))), (0, .ref (G.1 0)), (1, .int x1), (2, .int x2), (3, .int x3), (4, .int x4)]) hX hN dX10_mostAlike_15 (by decide) rfl (pq := 17) rfl ?_
      refine wb_sub [2, 3, 4, 5, 6, 1, 0] (loc' := [(0, .ref (G.1 0)), (1, .int x1), (2, .int x2), (3, .int x3), (4, .int x4), (5, .int (iI (0))), (6, .int (iI (0)))]) rfl ?_
      exact tW_mostAlike_L17 hX hQ hN hk5 100000 _ _ h
set_option maxHeartbeats 4000000 in
set_option maxRecDepth 100000 in
theorem tW_mostAlike {l : Launch} {G : wG} {s : wM} {x1 : Int32} {x2 : Int32} {r0 : Int32} (h : fW_mostAlike s x1 x2 = some r0) : wMet l G yX10_mostAlike cX10_mostAlike 7 (some .int) 0 [.ref (G.1 0), .int x1, .int x2] s (wQi G r0 s) := by
  refine wMet_of (own := RX10) (by decide +kernel) rfl (Nat.le_of_ble_eq_true rfl) ?_
  intro X hX hQ hN hl
  show WB G X 0 [(0, .ref (G.1 0)), (1, .int x1), (2, .int x2)] [] s
  unfold fW_mostAlike at h
  refine wb_iconst (v := iI (0)) hX dX10_mostAlike_0 rfl (pq := 1) rfl ?_
  refine wb_istore_n (loc' := [(3, .int (iI (0))), (0, .ref (G.1 0)), (1, .int x1), (2, .int x2)]) hX hN dX10_mostAlike_1 (by decide) rfl (pq := 2) rfl ?_
  refine wb_iconst (v := iI (0)) hX dX10_mostAlike_2 rfl (pq := 3) rfl ?_
  refine wb_istore (loc' := [(4, .int (iI (0))), (3, .int (iI (0))), (0, .ref (G.1 0)), (1, .int x1), (2, .int x2)]) hX hN dX10_mostAlike_3 (by decide) rfl (pq := 5) rfl ?_
  refine wb_sub [2, 3, 4, 1, 0] (loc' := [(0, .ref (G.1 0)), (1, .int x1), (2, .int x2), (3, .int (iI (0))), (4, .int (iI (0)))]) rfl ?_
  exact tW_mostAlike_L5 hX hQ hN 100000 _ _ h
set_option maxHeartbeats 4000000 in
set_option maxRecDepth 100000 in
theorem tW_sunday_J55 {G : wG} {X : wX} {k27 : Int32 → Int32 → Int32 → Option (Int32 × wM)} {x1 : Int32} {x2 : Int32} {x3 : Int32} {x4 : Int32} {s : wM} {r0 : Int32} {s1 : wM} (hX : wOK G X cX10_sunday RX10 (some .int) 5) (hQ : wRt G X (wQi G r0 s1)) (hN : wNl X = 6) (hk27 : ∀ (x2 : Int32) (x3 : Int32) (x4 : Int32), k27 x2 x3 x4 = some (r0, s1) → WB G X 27 [(0, .ref (G.1 0)), (1, .int x1), (2, .int x2), (3, .int x3), (4, .int x4)] [] s) (h : fW_sunday_J55 k27 x1 x2 x3 x4 s = some (r0, s1)) : WB G X 55 [(0, .ref (G.1 0)), (1, .int x1), (2, .int x2), (3, .int x3), (4, .int x4)] [] s := by
  unfold fW_sunday_J55 at h
  refine wb_iinc (v := (x4 + iI (1))) (loc' := [(4, .int (x4 + iI (1))), (0, .ref (G.1 0)), (1, .int x1), (2, .int x2), (3, .int x3)]) 4 hX hN dX10_sunday_55 rfl rfl (by decide) rfl (pq := 58) rfl ?_
  refine wb_goto (tgt := 27) hX dX10_sunday_58 (by decide) ?_
  refine wb_sub [1, 2, 3, 4, 0] (loc' := [(0, .ref (G.1 0)), (1, .int x1), (2, .int x2), (3, .int x3), (4, .int (x4 + iI (1)))]) rfl ?_
  exact hk27 _ _ _ h
set_option maxHeartbeats 4000000 in
set_option maxRecDepth 100000 in
theorem tW_sunday_L27 {G : wG} {X : wX} {x1 : Int32} {s : wM} {r0 : Int32} {s1 : wM} (hX : wOK G X cX10_sunday RX10 (some .int) 5) (hQ : wRt G X (wQi G r0 s1)) (hN : wNl X = 6) : ∀ (n : Nat) (x2 : Int32) (x3 : Int32) (x4 : Int32), wh3 (fW_sunday_L27 x1 s) n x2 x3 x4 = some (r0, s1) → WB G X 27 [(0, .ref (G.1 0)), (1, .int x1), (2, .int x2), (3, .int x3), (4, .int x4)] [] s := by
  intro n
  induction n with
  | zero => intro x2 x3 x4 h; cases h
  | succ n hk27 =>
    intro x2 x3 x4 h
    have h : fW_sunday_L27 x1 s x2 x3 x4 (wh3 (fW_sunday_L27 x1 s) n) = some (r0, s1) := h
    unfold fW_sunday_L27 at h
    refine wb_iload 4 hX dX10_sunday_27 rfl (pq := 29) rfl ?_
    refine wb_bipush (v := iI (20)) hX dX10_sunday_29 (by decide) (pq := 31) rfl ?_
    refine wb_icmp_ge (tgt := 61) hX dX10_sunday_31 (by decide) (fun c_1 => ?_) (pq := 34) rfl (fun c_1 => ?_)
    · have h := ite_t c_1 h
      refine wb_aload_n 0 hX dX10_sunday_61 rfl (pq := 62) rfl ?_
      refine wb_getR hX fl_337 sh_0 rfl dX10_sunday_62 (pq := 65) rfl ?_
      refine wb_iload_n 3 hX dX10_sunday_65 rfl (pq := 66) rfl ?_
      obtain ⟨q_3, hc_2, h⟩ := bind_s h
      refine wb_callVv (s1 := q_3) [.int x3] hX sh_32 ml_539 (tNum_tell hc_2) (by decide) rfl rfl (Nat.le_of_ble_eq_true rfl) dX10_sunday_66 (pq := 69) rfl ?_
      refine wb_iload_n 2 hX dX10_sunday_69 rfl (pq := 70) rfl ?_
      refine wb_iconst (v := iI (1)) hX dX10_sunday_70 rfl (pq := 71) rfl ?_
      refine wb_iadd hX dX10_sunday_71 (pq := 72) rfl ?_
      exact wb_iret hX hQ h dX10_sunday_72
    · have h := ite_f c_1 h
      refine wb_aload_n 0 hX dX10_sunday_34 rfl (pq := 35) rfl ?_
      refine wb_iload 4 hX dX10_sunday_35 rfl (pq := 37) rfl ?_
      refine wb_iload_n 1 hX dX10_sunday_37 rfl (pq := 38) rfl ?_
      obtain ⟨q_5, hc_4, h⟩ := bind_s h
      refine wb_callVi (r0 := q_5) (s1 := s) [.int x4, .int x1] hX sh_0 ml_994 (tW_mostAlike hc_4) (by decide) rfl rfl (Nat.le_of_ble_eq_true rfl) dX10_sunday_38 (pq := 41) rfl ?_
      refine wb_istore (loc' := [(5, .int q_5), (0, .ref (G.1 0)), (1, .int x1), (2, .int x2), (3, .int x3), (4, .int x4)]) hX hN dX10_sunday_41 (by decide) rfl (pq := 43) rfl ?_
      refine wb_iload 0 hX dX10_sunday_43 rfl (pq := 45) rfl ?_
      refine wb_iload_n 4 hX dX10_sunday_45 rfl (pq := 46) rfl ?_
      refine wb_icmp_ge (tgt := 55) hX dX10_sunday_46 (by decide) (fun c_6 => ?_) (pq := 49) rfl (fun c_6 => ?_)
      · have h := ite_t c_6 h
        refine wb_sub [1, 2, 3, 4, 5] (loc' := [(0, .ref (G.1 0)), (1, .int x1), (2, .int x2), (3, .int x3), (4, .int x4)]) rfl ?_
        exact tW_sunday_J55 hX hQ hN hk27 h
      · have h := ite_f c_6 h
        refine wb_iload 0 hX dX10_sunday_49 rfl (pq := 51) rfl ?_
        refine wb_istore_n (loc' := [(3, .int q_5), (5, .int q_5), (0, .ref (G.1 0)), (1, .int x1), (2, .int x2), (4, .int x4)]) hX hN dX10_sunday_51 (by decide) rfl (pq := 52) rfl ?_
        refine wb_iload 5 hX dX10_sunday_52 rfl (pq := 54) rfl ?_
        refine wb_istore_n (loc' := [(2, .int x4), (3, .int q_5), (5, .int q_5), (0, .ref (G.1 0)), (1, .int x1), (4, .int x4)]) hX hN dX10_sunday_54 (by decide) rfl (pq := 55) rfl ?_
        refine wb_sub [3, 4, 0, 1, 5] (loc' := [(0, .ref (G.1 0)), (1, .int x1), (2, .int x4), (3, .int q_5), (4, .int x4)]) rfl ?_
        exact tW_sunday_J55 hX hQ hN hk27 h
set_option maxHeartbeats 4000000 in
set_option maxRecDepth 100000 in
theorem tW_sunday {l : Launch} {G : wG} {s : wM} {r0 : Int32} {s1 : wM} (h : fW_sunday s = some (r0, s1)) : wMet l G yX10_sunday cX10_sunday 6 (some .int) 5 [.ref (G.1 0)] s (wQi G r0 s1) := by
  refine wMet_of (own := RX10) (by decide +kernel) rfl (Nat.le_of_ble_eq_true rfl) ?_
  intro X hX hQ hN hl
  show WB G X 0 [(0, .ref (G.1 0))] [] s
  unfold fW_sunday at h
  refine wb_aload_n 0 hX dX10_sunday_0 rfl (pq := 1) rfl ?_
  refine wb_getR hX fl_333 sh_0 rfl dX10_sunday_1 (pq := 4) rfl ?_
  refine wb_getI hX fl_109 sh_7 rfl dX10_sunday_4 (pq := 7) rfl ?_
  refine wb_if_ne (tgt := 13) hX dX10_sunday_7 (by decide) (pq := 10) rfl (fun c_1 => ?_) (fun c_1 => ?_)
  · have h := ite_t c_1 h
    refine wb_bipush (v := iI (-2)) hX dX10_sunday_10 (by decide) (pq := 12) rfl ?_
    exact wb_iret hX hQ h dX10_sunday_12
  · have h := ite_f c_1 h
    refine wb_aload_n 0 hX dX10_sunday_13 rfl (pq := 14) rfl ?_
    obtain ⟨q_3, hc_2, h⟩ := bind_s h
    refine wb_callVi (r0 := q_3.1) (s1 := q_3.2) [] hX sh_0 ml_986 (tW_showAllWays hc_2) (by decide) rfl rfl (Nat.le_of_ble_eq_true rfl) dX10_sunday_14 (pq := 17) rfl ?_
    refine wb_istore_n (loc' := [(1, .int q_3.1), (0, .ref (G.1 0))]) hX hN dX10_sunday_17 (by decide) rfl (pq := 18) rfl ?_
    refine wb_iconst (v := iI (0)) hX dX10_sunday_18 rfl (pq := 19) rfl ?_
    refine wb_istore_n (loc' := [(2, .int (iI (0))), (1, .int q_3.1), (0, .ref (G.1 0))]) hX hN dX10_sunday_19 (by decide) rfl (pq := 20) rfl ?_
    refine wb_iload_n 1 hX dX10_sunday_20 rfl (pq := 21) rfl ?_
    refine wb_iconst (v := iI (1)) hX dX10_sunday_21 rfl (pq := 22) rfl ?_
    refine wb_iadd hX dX10_sunday_22 (pq := 23) rfl ?_
    refine wb_istore_n (loc' := [(3, .int (q_3.1 + (iI (1)))), (2, .int (iI (0))), (1, .int q_3.1), (0, .ref (G.1 0))]) hX hN dX10_sunday_23 (by decide) rfl (pq := 24) rfl ?_
    refine wb_iconst (v := iI (0)) hX dX10_sunday_24 rfl (pq := 25) rfl ?_
    refine wb_istore (loc' := [(4, .int (iI (0))), (3, .int (q_3.1 + (iI (1)))), (2, .int (iI (0))), (1, .int q_3.1), (0, .ref (G.1 0))]) hX hN dX10_sunday_25 (by decide) rfl (pq := 27) rfl ?_
    refine wb_sub [4, 3, 2, 1, 0] (loc' := [(0, .ref (G.1 0)), (1, .int q_3.1), (2, .int (iI (0))), (3, .int (q_3.1 + (iI (1)))), (4, .int (iI (0)))]) rfl ?_
    exact tW_sunday_L27 hX hQ hN 100000 _ _ _ h
set_option maxHeartbeats 4000000 in
set_option maxRecDepth 100000 in
theorem tW_divide_J38 {G : wG} {X : wX} {s : wM} {r0 : Int32} {s1 : wM} (hX : wOK G X cX10_divide RX10 (some .int) 2) (hQ : wRt G X (wQi G r0 s1)) (hN : wNl X = 6) (h : fW_divide_J38 s = some (r0, s1)) : WB G X 38 [] [] s := by
  unfold fW_divide_J38 at h
  refine wb_iconst (v := iI (-1)) hX dX10_divide_38 rfl (pq := 39) rfl ?_
  exact wb_iret hX hQ h dX10_divide_39
set_option maxHeartbeats 4000000 in
set_option maxRecDepth 100000 in
theorem tW_divide_J128 {G : wG} {X : wX} {k79 : Int32 → wM → Option (Int32 × wM)} {x1 : Int32} {x2 : Int32} {x4 : Int32} {x5 : Int32} {s : wM} {r0 : Int32} {s1 : wM} (hX : wOK G X cX10_divide RX10 (some .int) 2) (hQ : wRt G X (wQi G r0 s1)) (hN : wNl X = 6) (hk79 : ∀ (x5 : Int32) (s : wM), k79 x5 s = some (r0, s1) → WB G X 79 [(0, .ref (G.1 0)), (1, .int x1), (2, .int x2), (4, .int x4), (5, .int x5)] [] s) (h : fW_divide_J128 k79 x1 x2 x4 x5 s = some (r0, s1)) : WB G X 128 [(0, .ref (G.1 0)), (1, .int x1), (2, .int x2), (4, .int x4), (5, .int x5)] [] s := by
  unfold fW_divide_J128 at h
  refine wb_iinc (v := (x5 + iI (1))) (loc' := [(5, .int (x5 + iI (1))), (0, .ref (G.1 0)), (1, .int x1), (2, .int x2), (4, .int x4)]) 4 hX hN dX10_divide_128 rfl rfl (by decide) rfl (pq := 131) rfl ?_
  refine wb_goto (tgt := 79) hX dX10_divide_131 (by decide) ?_
  refine wb_sub [1, 2, 3, 4, 0] (loc' := [(0, .ref (G.1 0)), (1, .int x1), (2, .int x2), (4, .int x4), (5, .int (x5 + iI (1)))]) rfl ?_
  exact hk79 _ _ h
set_option maxHeartbeats 4000000 in
set_option maxRecDepth 100000 in
theorem tW_divide_L79 {G : wG} {X : wX} {x1 : Int32} {x2 : Int32} {x4 : Int32} {r0 : Int32} {s1 : wM} (hX : wOK G X cX10_divide RX10 (some .int) 2) (hQ : wRt G X (wQi G r0 s1)) (hN : wNl X = 6) : ∀ (n : Nat) (x5 : Int32) (s : wM), wh2 (fW_divide_L79 x1 x2 x4) n x5 s = some (r0, s1) → WB G X 79 [(0, .ref (G.1 0)), (1, .int x1), (2, .int x2), (4, .int x4), (5, .int x5)] [] s := by
  intro n
  induction n with
  | zero => intro x5 s h; cases h
  | succ n hk79 =>
    intro x5 s h
    have h : fW_divide_L79 x1 x2 x4 x5 s (wh2 (fW_divide_L79 x1 x2 x4) n) = some (r0, s1) := h
    unfold fW_divide_L79 at h
    refine wb_iload 4 hX dX10_divide_79 rfl (pq := 81) rfl ?_
    refine wb_iload 3 hX dX10_divide_81 rfl (pq := 83) rfl ?_
    refine wb_icmp_ge (tgt := 134) hX dX10_divide_83 (by decide) (fun c_1 => ?_) (pq := 86) rfl (fun c_1 => ?_)
    · have h := ite_t c_1 h
      refine wb_aload_n 0 hX dX10_divide_134 rfl (pq := 135) rfl ?_
      refine wb_getR hX fl_333 sh_0 rfl dX10_divide_135 (pq := 138) rfl ?_
      refine wb_iload_n 1 hX dX10_divide_138 rfl (pq := 139) rfl ?_
      refine wb_iload 3 hX dX10_divide_139 rfl (pq := 141) rfl ?_
      refine wb_iconst (v := iI (0)) hX dX10_divide_141 rfl (pq := 142) rfl ?_
      obtain ⟨q_3, hc_2, h⟩ := bind_s h
      refine wb_callVv (s1 := q_3) [.int x1, .int x4, .int (iI (0))] hX sh_7 ml_443 (tLand_join hc_2) (by decide) rfl rfl (Nat.le_of_ble_eq_true rfl) dX10_divide_142 (pq := 145) rfl ?_
      refine wb_aload_n 0 hX dX10_divide_145 rfl (pq := 146) rfl ?_
      refine wb_getR hX fl_338 sh_0 rfl dX10_divide_146 (pq := 149) rfl ?_
      obtain ⟨q_5, hc_4, h⟩ := bind_s h
      refine wb_callVv (s1 := q_5) [] hX sh_34 ml_435 (tPa_clear hc_4) (by decide) rfl rfl (Nat.le_of_ble_eq_true rfl) dX10_divide_149 (pq := 152) rfl ?_
      refine wb_iload 3 hX dX10_divide_152 rfl (pq := 154) rfl ?_
      exact wb_iret hX hQ h dX10_divide_154
    · have h := ite_f c_1 h
      refine wb_iload_n 2 hX dX10_divide_86 rfl (pq := 87) rfl ?_
      refine wb_iload 4 hX dX10_divide_87 rfl (pq := 89) rfl ?_
      refine wb_ishr hX dX10_divide_89 (pq := 90) rfl ?_
      refine wb_iconst (v := iI (1)) hX dX10_divide_90 rfl (pq := 91) rfl ?_
      refine wb_iand hX dX10_divide_91 (pq := 92) rfl ?_
      refine wb_iconst (v := iI (1)) hX dX10_divide_92 rfl (pq := 93) rfl ?_
      refine wb_icmp_ne (tgt := 128) hX dX10_divide_93 (by decide) (pq := 96) rfl (fun c_6 => ?_) (fun c_6 => ?_)
      · have h := ite_t c_6 h
        refine wb_aload_n 0 hX dX10_divide_96 rfl (pq := 97) rfl ?_
        refine wb_getR hX fl_333 sh_0 rfl dX10_divide_97 (pq := 100) rfl ?_
        refine wb_iload 3 hX dX10_divide_100 rfl (pq := 102) rfl ?_
        refine wb_iload 4 hX dX10_divide_102 rfl (pq := 104) rfl ?_
        refine wb_aload_n 0 hX dX10_divide_104 rfl (pq := 105) rfl ?_
        refine wb_getR hX fl_333 sh_0 rfl dX10_divide_105 (pq := 108) rfl ?_
        refine wb_iload_n 1 hX dX10_divide_108 rfl (pq := 109) rfl ?_
        refine wb_iload 4 hX dX10_divide_109 rfl (pq := 111) rfl ?_
        obtain ⟨q_8, hc_7, h⟩ := bind_s h
        refine wb_callVi (r0 := q_8) (s1 := s) [.int x1, .int x5] hX sh_7 ml_459 (tLand_between hc_7) (by decide) rfl rfl (Nat.le_of_ble_eq_true rfl) dX10_divide_111 (pq := 114) rfl ?_
        obtain ⟨q_10, hc_9, h⟩ := bind_s h
        refine wb_callVv (s1 := q_10) [.int x4, .int x5, .int q_8] hX sh_7 ml_443 (tLand_join hc_9) (by decide) rfl rfl (Nat.le_of_ble_eq_true rfl) dX10_divide_114 (pq := 117) rfl ?_
        refine wb_aload_n 0 hX dX10_divide_117 rfl (pq := 118) rfl ?_
        refine wb_getR hX fl_333 sh_0 rfl dX10_divide_118 (pq := 121) rfl ?_
        refine wb_iload_n 1 hX dX10_divide_121 rfl (pq := 122) rfl ?_
        refine wb_iload 4 hX dX10_divide_122 rfl (pq := 124) rfl ?_
        refine wb_iconst (v := iI (-1)) hX dX10_divide_124 rfl (pq := 125) rfl ?_
        obtain ⟨q_12, hc_11, h⟩ := bind_s h
        refine wb_callVv (s1 := q_12) [.int x1, .int x5, .int (iI (-1))] hX sh_7 ml_443 (tLand_join hc_11) (by decide) rfl rfl (Nat.le_of_ble_eq_true rfl) dX10_divide_125 (pq := 128) rfl ?_
        exact tW_divide_J128 hX hQ hN hk79 h
      · have h := ite_f c_6 h
        exact tW_divide_J128 hX hQ hN hk79 h
set_option maxHeartbeats 4000000 in
set_option maxRecDepth 100000 in
theorem tW_divide {l : Launch} {G : wG} {s : wM} {x1 : Int32} {x2 : Int32} {r0 : Int32} {s1 : wM} (h : fW_divide s x1 x2 = some (r0, s1)) : wMet l G yX10_divide cX10_divide 6 (some .int) 2 [.ref (G.1 0), .int x1, .int x2] s (wQi G r0 s1) := by
  refine wMet_of (own := RX10) (by decide +kernel) rfl (Nat.le_of_ble_eq_true rfl) ?_
  intro X hX hQ hN hl
  show WB G X 0 [(0, .ref (G.1 0)), (1, .int x1), (2, .int x2)] [] s
  unfold fW_divide at h
  refine wb_aload_n 0 hX dX10_divide_0 rfl (pq := 1) rfl ?_
  refine wb_getR hX fl_333 sh_0 rfl dX10_divide_1 (pq := 4) rfl ?_
  refine wb_iload_n 1 hX dX10_divide_4 rfl (pq := 5) rfl ?_
  obtain ⟨q_2, hc_1, h⟩ := bind_s h
  refine wb_callVi (r0 := q_2) (s1 := s) [.int x1] hX sh_7 ml_478 (tLand_has hc_1) (by decide) rfl rfl (Nat.le_of_ble_eq_true rfl) dX10_divide_5 (pq := 8) rfl ?_
  refine wb_if_eq (tgt := 38) hX dX10_divide_8 (by decide) (fun c_3 => ?_) (pq := 11) rfl (fun c_3 => ?_)
  · have h := ite_t c_3 h
    refine wb_sub [] (loc' := []) rfl ?_
    exact tW_divide_J38 hX hQ hN h
  · have h := ite_f c_3 h
    refine wb_iload_n 2 hX dX10_divide_11 rfl (pq := 12) rfl ?_
    refine wb_aload_n 0 hX dX10_divide_12 rfl (pq := 13) rfl ?_
    refine wb_getR hX fl_333 sh_0 rfl dX10_divide_13 (pq := 16) rfl ?_
    refine wb_iload_n 1 hX dX10_divide_16 rfl (pq := 17) rfl ?_
    obtain ⟨q_5, hc_4, h⟩ := bind_s h
    refine wb_callVi (r0 := q_5) (s1 := s) [.int x1] hX sh_7 ml_765 (tLand_touching hc_4) (by decide) rfl rfl (Nat.le_of_ble_eq_true rfl) dX10_divide_17 (pq := 20) rfl ?_
    refine wb_iconst (v := iI (-1)) hX dX10_divide_20 rfl (pq := 21) rfl ?_
    refine wb_ixor hX dX10_divide_21 (pq := 22) rfl ?_
    refine wb_iand hX dX10_divide_22 (pq := 23) rfl ?_
    refine wb_if_ne (tgt := 38) hX dX10_divide_23 (by decide) (pq := 26) rfl (fun c_6 => ?_) (fun c_6 => ?_)
    · have h := ite_t c_6 h
      refine wb_aload_n 0 hX dX10_divide_26 rfl (pq := 27) rfl ?_
      refine wb_getR hX fl_333 sh_0 rfl dX10_divide_27 (pq := 30) rfl ?_
      refine wb_getI hX fl_109 sh_7 rfl dX10_divide_30 (pq := 33) rfl ?_
      refine wb_bipush (v := iI (9)) hX dX10_divide_33 (by decide) (pq := 35) rfl ?_
      refine wb_icmp_ne (tgt := 40) hX dX10_divide_35 (by decide) (pq := 38) rfl (fun c_7 => ?_) (fun c_7 => ?_)
      · have h := ite_t c_7 h
        refine wb_sub [] (loc' := []) rfl ?_
        exact tW_divide_J38 hX hQ hN h
      · have h := ite_f c_7 h
        refine wb_aload_n 0 hX dX10_divide_40 rfl (pq := 41) rfl ?_
        refine wb_getR hX fl_333 sh_0 rfl dX10_divide_41 (pq := 44) rfl ?_
        refine wb_getR hX fl_91 sh_7 rfl dX10_divide_44 (pq := 47) rfl ?_
        refine wb_iload_n 1 hX dX10_divide_47 rfl (pq := 48) rfl ?_
        obtain ⟨hi_8, h⟩ := chk_some h
        refine wb_iald hX sh_8 hi_8 dX10_divide_48 (pq := 49) rfl ?_
        refine wb_iconst (v := iI (2)) hX dX10_divide_49 rfl (pq := 50) rfl ?_
        refine wb_idiv hX dX10_divide_50 (by decide) (pq := 51) rfl ?_
        refine wb_istore_n (loc' := [(3, .int ((s.1 8 x1.toNatClampNeg) / (iI (2)))), (0, .ref (G.1 0)), (1, .int x1), (2, .int x2)]) hX hN dX10_divide_51 (by decide) rfl (pq := 52) rfl ?_
        refine wb_aload_n 1 hX dX10_divide_52 rfl (pq := 53) rfl ?_
        refine wb_getR hX fl_333 sh_0 rfl dX10_divide_53 (pq := 56) rfl ?_
        refine wb_iload_n 0 hX dX10_divide_56 rfl (pq := 57) rfl ?_
        refine wb_iconst (v := iI (0)) hX dX10_divide_57 rfl (pq := 58) rfl ?_
        obtain ⟨q_10, hc_9, h⟩ := bind_s h
        refine wb_callVi (r0 := q_10.1) (s1 := q_10.2) [.int ((s.1 8 x1.toNatClampNeg) / (iI (2))), .int (iI (0))] hX sh_7 ml_439 (tLand_settle hc_9) (by decide) rfl rfl (Nat.le_of_ble_eq_true rfl) dX10_divide_58 (pq := 61) rfl ?_
        refine wb_istore (loc' := [(4, .int q_10.1), (3, .int ((s.1 8 x1.toNatClampNeg) / (iI (2)))), (0, .ref (G.1 0)), (1, .int x1), (2, .int x2)]) hX hN dX10_divide_61 (by decide) rfl (pq := 63) rfl ?_
        refine wb_aload_n 2 hX dX10_divide_63 rfl (pq := 64) rfl ?_
        refine wb_getR hX fl_333 sh_0 rfl dX10_divide_64 (pq := 67) rfl ?_
        refine wb_getR hX fl_91 sh_7 rfl dX10_divide_67 (pq := 70) rfl ?_
        refine wb_iload_n 3 hX dX10_divide_70 rfl (pq := 71) rfl ?_
        refine wb_dup2 hX dX10_divide_71 rfl rfl (pq := 72) rfl ?_
        refine wb_iald hX sh_8 hi_8 dX10_divide_72 (pq := 73) rfl ?_
        refine wb_iload_n 1 hX dX10_divide_73 rfl (pq := 74) rfl ?_
        refine wb_isub hX dX10_divide_74 (pq := 75) rfl ?_
        refine wb_iast hX sh_8 hi_8 dX10_divide_75 (pq := 76) rfl ?_
        refine wb_mem (fun s_11 es_11 => ?_)
        have h := nmM_s h s_11 es_11
        refine wb_iconst (v := iI (0)) hX dX10_divide_76 rfl (pq := 77) rfl ?_
        refine wb_istore (loc' := [(5, .int (iI (0))), (4, .int q_10.1), (3, .int ((s.1 8 x1.toNatClampNeg) / (iI (2)))), (0, .ref (G.1 0)), (1, .int x1), (2, .int x2)]) hX hN dX10_divide_77 (by decide) rfl (pq := 79) rfl ?_
        refine wb_sub [3, 4, 5, 1, 0] (loc' := [(0, .ref (G.1 0)), (1, .int x1), (2, .int x2), (4, .int q_10.1), (5, .int (iI (0)))]) rfl ?_
        exact tW_divide_L79 hX hQ hN 100000 _ _ h
    · have h := ite_f c_6 h
      refine wb_sub [] (loc' := []) rfl ?_
      exact tW_divide_J38 hX hQ hN h
set_option maxHeartbeats 4000000 in
set_option maxRecDepth 100000 in
theorem tW_keep {l : Launch} {G : wG} {s : wM} {x1 : Int32} {r0 : Int32} {s1 : wM} (h : fW_keep s x1 = some (r0, s1)) : wMet l G yX10_keep cX10_keep 2 (some .boolean) 1 [.ref (G.1 0), .int x1] s (wQi G r0 s1) := by
  refine wMet_of (own := RX10) (by decide +kernel) rfl (Nat.le_of_ble_eq_true rfl) ?_
  intro X hX hQ hN hl
  show WB G X 0 [(0, .ref (G.1 0)), (1, .int x1)] [] s
  unfold fW_keep at h
  refine wb_iload_n 1 hX dX10_keep_0 rfl (pq := 1) rfl ?_
  refine wb_iconst (v := iI (0)) hX dX10_keep_1 rfl (pq := 2) rfl ?_
  refine wb_iconst (v := iI (2)) hX dX10_keep_2 rfl (pq := 3) rfl ?_
  obtain ⟨q_2, hc_1, h⟩ := bind_s h
  refine wb_callSi (r0 := q_2) (s1 := s) [.int x1, .int (iI (0)), .int (iI (2))] hX ml_467 (tW_isWithin hc_1) (by decide) rfl rfl (Nat.le_of_ble_eq_true rfl) dX10_keep_3 (pq := 6) rfl ?_
  refine wb_if_ne (tgt := 11) hX dX10_keep_6 (by decide) (pq := 9) rfl (fun c_3 => ?_) (fun c_3 => ?_)
  · have h := ite_t c_3 h
    refine wb_iconst (v := iI (0)) hX dX10_keep_9 rfl (pq := 10) rfl ?_
    exact wb_zret hX hQ h nar01.1.1 dX10_keep_10
  · have h := ite_f c_3 h
    refine wb_aload_n 0 hX dX10_keep_11 rfl (pq := 12) rfl ?_
    refine wb_getR hX fl_339 sh_0 rfl dX10_keep_12 (pq := 15) rfl ?_
    refine wb_iload_n 1 hX dX10_keep_15 rfl (pq := 16) rfl ?_
    obtain ⟨hi_4, h⟩ := chk_some h
    refine wb_aald hX sh_141 hi_4 dX10_keep_16 (pq := 17) rfl ?_
    refine wb_aload_n 0 hX dX10_keep_17 rfl (pq := 18) rfl ?_
    refine wb_getR hX fl_333 sh_0 rfl dX10_keep_18 (pq := 21) rfl ?_
    obtain ⟨q_6, hc_5, h⟩ := bind_s h
    refine wb_callVv (s1 := q_6) [.ref (G.1 7)] hX (wSnap_kept hi_4).1 ml_1006 (tSn_take (wSnap_kept hi_4) hc_5) (by decide) rfl rfl (Nat.le_of_ble_eq_true rfl) dX10_keep_21 (pq := 24) rfl ?_
    refine wb_iconst (v := iI (1)) hX dX10_keep_24 rfl (pq := 25) rfl ?_
    exact wb_zret hX hQ h nar01.2.1 dX10_keep_25
set_option maxHeartbeats 4000000 in
set_option maxRecDepth 100000 in
theorem tW_again_J28 {G : wG} {X : wX} {s : wM} {r0 : Int32} {s1 : wM} (hX : wOK G X cX10_again RX10 (some .boolean) 1) (hQ : wRt G X (wQi G r0 s1)) (hN : wNl X = 2) (h : fW_again_J28 s = some (r0, s1)) : WB G X 28 [] [] s := by
  unfold fW_again_J28 at h
  refine wb_iconst (v := iI (0)) hX dX10_again_28 rfl (pq := 29) rfl ?_
  exact wb_zret hX hQ h nar01.1.1 dX10_again_29
set_option maxHeartbeats 4000000 in
set_option maxRecDepth 100000 in
theorem tW_again {l : Launch} {G : wG} {s : wM} {x1 : Int32} {r0 : Int32} {s1 : wM} (h : fW_again s x1 = some (r0, s1)) : wMet l G yX10_again cX10_again 2 (some .boolean) 1 [.ref (G.1 0), .int x1] s (wQi G r0 s1) := by
  refine wMet_of (own := RX10) (by decide +kernel) rfl (Nat.le_of_ble_eq_true rfl) ?_
  intro X hX hQ hN hl
  show WB G X 0 [(0, .ref (G.1 0)), (1, .int x1)] [] s
  unfold fW_again at h
  refine wb_iload_n 1 hX dX10_again_0 rfl (pq := 1) rfl ?_
  refine wb_iconst (v := iI (0)) hX dX10_again_1 rfl (pq := 2) rfl ?_
  refine wb_iconst (v := iI (2)) hX dX10_again_2 rfl (pq := 3) rfl ?_
  obtain ⟨q_2, hc_1, h⟩ := bind_s h
  refine wb_callSi (r0 := q_2) (s1 := s) [.int x1, .int (iI (0)), .int (iI (2))] hX ml_467 (tW_isWithin hc_1) (by decide) rfl rfl (Nat.le_of_ble_eq_true rfl) dX10_again_3 (pq := 6) rfl ?_
  refine wb_if_eq (tgt := 28) hX dX10_again_6 (by decide) (fun c_3 => ?_) (pq := 9) rfl (fun c_3 => ?_)
  · have h := ite_t c_3 h
    refine wb_sub [] (loc' := []) rfl ?_
    exact tW_again_J28 hX hQ hN h
  · have h := ite_f c_3 h
    refine wb_aload_n 0 hX dX10_again_9 rfl (pq := 10) rfl ?_
    refine wb_getR hX fl_339 sh_0 rfl dX10_again_10 (pq := 13) rfl ?_
    refine wb_iload_n 1 hX dX10_again_13 rfl (pq := 14) rfl ?_
    obtain ⟨hi_4, h⟩ := chk_some h
    refine wb_aald hX sh_141 hi_4 dX10_again_14 (pq := 15) rfl ?_
    refine wb_getI hX fl_287 (wSnap_kept hi_4).1 rfl dX10_again_15 (pq := 18) rfl ?_
    refine wb_aload_n 0 hX dX10_again_18 rfl (pq := 19) rfl ?_
    refine wb_getR hX fl_333 sh_0 rfl dX10_again_19 (pq := 22) rfl ?_
    refine wb_getI hX fl_109 sh_7 rfl dX10_again_22 (pq := 25) rfl ?_
    refine wb_icmp_eq (tgt := 30) hX dX10_again_25 (by decide) (fun c_5 => ?_) (pq := 28) rfl (fun c_5 => ?_)
    · have h := ite_t c_5 h
      refine wb_aload_n 0 hX dX10_again_30 rfl (pq := 31) rfl ?_
      refine wb_getR hX fl_339 sh_0 rfl dX10_again_31 (pq := 34) rfl ?_
      refine wb_iload_n 1 hX dX10_again_34 rfl (pq := 35) rfl ?_
      refine wb_aald hX sh_141 hi_4 dX10_again_35 (pq := 36) rfl ?_
      refine wb_aload_n 0 hX dX10_again_36 rfl (pq := 37) rfl ?_
      refine wb_getR hX fl_333 sh_0 rfl dX10_again_37 (pq := 40) rfl ?_
      obtain ⟨q_7, hc_6, h⟩ := bind_s h
      refine wb_callVv (s1 := q_7) [.ref (G.1 7)] hX (wSnap_kept hi_4).1 ml_1011 (tSn_giveWeeks (wSnap_kept hi_4) hc_6) (by decide) rfl rfl (Nat.le_of_ble_eq_true rfl) dX10_again_40 (pq := 43) rfl ?_
      refine wb_aload_n 0 hX dX10_again_43 rfl (pq := 44) rfl ?_
      refine wb_getR hX fl_339 sh_0 rfl dX10_again_44 (pq := 47) rfl ?_
      refine wb_iload_n 1 hX dX10_again_47 rfl (pq := 48) rfl ?_
      refine wb_aald hX sh_141 hi_4 dX10_again_48 (pq := 49) rfl ?_
      refine wb_aload_n 0 hX dX10_again_49 rfl (pq := 50) rfl ?_
      refine wb_getR hX fl_333 sh_0 rfl dX10_again_50 (pq := 53) rfl ?_
      obtain ⟨q_9, hc_8, h⟩ := bind_s h
      refine wb_callVv (s1 := q_9) [.ref (G.1 7)] hX (wSnap_kept hi_4).1 ml_1012 (tSn_giveSpringsAndLaw (wSnap_kept hi_4) hc_8) (by decide) rfl rfl (Nat.le_of_ble_eq_true rfl) dX10_again_53 (pq := 56) rfl ?_
      refine wb_aload_n 0 hX dX10_again_56 rfl (pq := 57) rfl ?_
      refine wb_getR hX fl_338 sh_0 rfl dX10_again_57 (pq := 60) rfl ?_
      obtain ⟨q_11, hc_10, h⟩ := bind_s h
      refine wb_callVv (s1 := q_11) [] hX sh_34 ml_435 (tPa_clear hc_10) (by decide) rfl rfl (Nat.le_of_ble_eq_true rfl) dX10_again_60 (pq := 63) rfl ?_
      refine wb_iconst (v := iI (1)) hX dX10_again_63 rfl (pq := 64) rfl ?_
      exact wb_zret hX hQ h nar01.2.1 dX10_again_64
    · have h := ite_f c_5 h
      refine wb_sub [] (loc' := []) rfl ?_
      exact tW_again_J28 hX hQ hN h
set_option maxHeartbeats 4000000 in
set_option maxRecDepth 100000 in
theorem tW_count {l : Launch} {G : wG} {s : wM} {x1 : Int32} {r0 : Int32} (h : fW_count s x1 = some r0) : wMet l G yX10_count cX10_count 2 (some .int) 3 [.ref (G.1 0), .int x1] s (wQi G r0 s) := by
  refine wMet_of (own := RX10) (by decide +kernel) rfl (Nat.le_of_ble_eq_true rfl) ?_
  intro X hX hQ hN hl
  show WB G X 0 [(0, .ref (G.1 0)), (1, .int x1)] [] s
  unfold fW_count at h
  refine wb_iload_n 1 hX dX10_count_0 rfl (pq := 1) rfl ?_
  by_cases c_1 : x1 = iI (0)
  · have h := ite_t c_1 h
    refine wb_tabIn (tgt := 52) (off := 51) hX dX10_count_1 (by rw [c_1]; decide) (by rw [c_1]; decide) (by rw [c_1]; decide) (by decide) ?_
    refine wb_aload_n 0 hX dX10_count_52 rfl (pq := 53) rfl ?_
    refine wb_getR hX fl_333 sh_0 rfl dX10_count_53 (pq := 56) rfl ?_
    refine wb_getI hX fl_109 sh_7 rfl dX10_count_56 (pq := 59) rfl ?_
    exact wb_iretP hX hQ h dX10_count_59
  · have h := ite_f c_1 h
    by_cases c_2 : x1 = iI (1)
    · have h := ite_t c_2 h
      refine wb_tabIn (tgt := 60) (off := 59) hX dX10_count_1 (by rw [c_2]; decide) (by rw [c_2]; decide) (by rw [c_2]; decide) (by decide) ?_
      refine wb_aload_n 0 hX dX10_count_60 rfl (pq := 61) rfl ?_
      refine wb_getR hX fl_333 sh_0 rfl dX10_count_61 (pq := 64) rfl ?_
      refine wb_getI hX fl_112 sh_7 rfl dX10_count_64 (pq := 67) rfl ?_
      exact wb_iretP hX hQ h dX10_count_67
    · have h := ite_f c_2 h
      by_cases c_3 : x1 = iI (2)
      · have h := ite_t c_3 h
        refine wb_tabIn (tgt := 68) (off := 67) hX dX10_count_1 (by rw [c_3]; decide) (by rw [c_3]; decide) (by rw [c_3]; decide) (by decide) ?_
        refine wb_aload_n 0 hX dX10_count_68 rfl (pq := 69) rfl ?_
        refine wb_getR hX fl_333 sh_0 rfl dX10_count_69 (pq := 72) rfl ?_
        obtain ⟨q_5, hc_4, h⟩ := bind_s h
        refine wb_callVi (r0 := q_5) (s1 := s) [] hX sh_7 ml_493 (tLand_allDepths hc_4) (by decide) rfl rfl (Nat.le_of_ble_eq_true rfl) dX10_count_72 (pq := 75) rfl ?_
        exact wb_iretP hX hQ h dX10_count_75
      · have h := ite_f c_3 h
        by_cases c_6 : x1 = iI (3)
        · have h := ite_t c_6 h
          refine wb_tabIn (tgt := 76) (off := 75) hX dX10_count_1 (by rw [c_6]; decide) (by rw [c_6]; decide) (by rw [c_6]; decide) (by decide) ?_
          refine wb_aload_n 0 hX dX10_count_76 rfl (pq := 77) rfl ?_
          refine wb_getR hX fl_333 sh_0 rfl dX10_count_77 (pq := 80) rfl ?_
          obtain ⟨q_8, hc_7, h⟩ := bind_s h
          refine wb_callVi (r0 := q_8) (s1 := s) [] hX sh_7 ml_1020 (tLand_allPaid hc_7) (by decide) rfl rfl (Nat.le_of_ble_eq_true rfl) dX10_count_80 (pq := 83) rfl ?_
          exact wb_iretP hX hQ h dX10_count_83
        · have h := ite_f c_6 h
          by_cases c_9 : x1 = iI (4)
          · have h := ite_t c_9 h
            refine wb_tabIn (tgt := 84) (off := 83) hX dX10_count_1 (by rw [c_9]; decide) (by rw [c_9]; decide) (by rw [c_9]; decide) (by decide) ?_
            refine wb_aload_n 0 hX dX10_count_84 rfl (pq := 85) rfl ?_
            refine wb_getR hX fl_333 sh_0 rfl dX10_count_85 (pq := 88) rfl ?_
            obtain ⟨q_11, hc_10, h⟩ := bind_s h
            refine wb_callVi (r0 := q_11) (s1 := s) [] hX sh_7 ml_1024 (tLand_touchingPairs hc_10) (by decide) rfl rfl (Nat.le_of_ble_eq_true rfl) dX10_count_88 (pq := 91) rfl ?_
            exact wb_iretP hX hQ h dX10_count_91
          · have h := ite_f c_9 h
            by_cases c_12 : x1 = iI (5)
            · have h := ite_t c_12 h
              refine wb_tabIn (tgt := 92) (off := 91) hX dX10_count_1 (by rw [c_12]; decide) (by rw [c_12]; decide) (by rw [c_12]; decide) (by decide) ?_
              refine wb_aload_n 0 hX dX10_count_92 rfl (pq := 93) rfl ?_
              refine wb_getR hX fl_338 sh_0 rfl dX10_count_93 (pq := 96) rfl ?_
              refine wb_getI hX fl_302 sh_34 rfl dX10_count_96 (pq := 99) rfl ?_
              exact wb_iretP hX hQ h dX10_count_99
            · have h := ite_f c_12 h
              by_cases c_13 : x1 = iI (6)
              · have h := ite_t c_13 h
                refine wb_tabIn (tgt := 100) (off := 99) hX dX10_count_1 (by rw [c_13]; decide) (by rw [c_13]; decide) (by rw [c_13]; decide) (by decide) ?_
                refine wb_aload_n 0 hX dX10_count_100 rfl (pq := 101) rfl ?_
                refine wb_getR hX fl_340 sh_0 rfl dX10_count_101 (pq := 104) rfl ?_
                refine wb_getI hX fl_320 sh_142 rfl dX10_count_104 (pq := 107) rfl ?_
                exact wb_iretP hX hQ h dX10_count_107
              · have h := ite_f c_13 h
                by_cases c_14 : x1 = iI (7)
                · have h := ite_t c_14 h
                  refine wb_tabIn (tgt := 108) (off := 107) hX dX10_count_1 (by rw [c_14]; decide) (by rw [c_14]; decide) (by rw [c_14]; decide) (by decide) ?_
                  refine wb_aload_n 0 hX dX10_count_108 rfl (pq := 109) rfl ?_
                  refine wb_getR hX fl_337 sh_0 rfl dX10_count_109 (pq := 112) rfl ?_
                  refine wb_getI hX fl_262 sh_32 rfl dX10_count_112 (pq := 115) rfl ?_
                  exact wb_iretP hX hQ h dX10_count_115
                · have h := ite_f c_14 h
                  by_cases c_15 : x1 = iI (8)
                  · have h := ite_t c_15 h
                    refine wb_tabIn (tgt := 116) (off := 115) hX dX10_count_1 (by rw [c_15]; decide) (by rw [c_15]; decide) (by rw [c_15]; decide) (by decide) ?_
                    refine wb_aload_n 0 hX dX10_count_116 rfl (pq := 117) rfl ?_
                    refine wb_getR hX fl_331 sh_0 rfl dX10_count_117 (pq := 120) rfl ?_
                    refine wb_getI hX fl_38 sh_1 rfl dX10_count_120 (pq := 123) rfl ?_
                    exact wb_iretP hX hQ h dX10_count_123
                  · have h := ite_f c_15 h
                    have tc_1 := lv_neT (a := 0) c_1 (by decide)
                    have tc_2 := lv_neT (a := 1) c_2 (by decide)
                    have tc_3 := lv_neT (a := 2) c_3 (by decide)
                    have tc_6 := lv_neT (a := 3) c_6 (by decide)
                    have tc_9 := lv_neT (a := 4) c_9 (by decide)
                    have tc_12 := lv_neT (a := 5) c_12 (by decide)
                    have tc_13 := lv_neT (a := 6) c_13 (by decide)
                    have tc_14 := lv_neT (a := 7) c_14 (by decide)
                    have tc_15 := lv_neT (a := 8) c_15 (by decide)
                    refine wb_tabOut (tgt := 124) hX dX10_count_1 (by omega) (by decide) ?_
                    refine wb_iconst (v := iI (-1)) hX dX10_count_124 rfl (pq := 125) rfl ?_
                    exact wb_iretP hX hQ h dX10_count_125
set_option maxHeartbeats 4000000 in
set_option maxRecDepth 100000 in
theorem tM_thrown {l : Launch} {G : wG} {s : wM} {r0 : Int32} (h : fM_thrown s = some r0) : wMet l G yX11_thrown cX11_thrown 1 (some .int) 0 [.ref (G.1 161)] s (wQi G r0 s) := by
  refine wMet_of (own := RX11) (by decide +kernel) rfl (Nat.le_of_ble_eq_true rfl) ?_
  intro X hX hQ hN hl
  show WB G X 0 [(0, .ref (G.1 161))] [] s
  unfold fM_thrown at h
  refine wb_aload_n 0 hX dX11_thrown_0 rfl (pq := 1) rfl ?_
  refine wb_getI hX fl_1518 sh_161 rfl dX11_thrown_1 (pq := 4) rfl ?_
  exact wb_iretP hX hQ h dX11_thrown_4
set_option maxHeartbeats 4000000 in
set_option maxRecDepth 100000 in
theorem tM_refuse {l : Launch} {G : wG} {s : wM} {r0 : Int32} {s1 : wM} (h : fM_refuse s = some (r0, s1)) : wMet l G yX11_refuse cX11_refuse 1 (some .int) 0 [.ref (G.1 161)] s (wQi G r0 s1) := by
  refine wMet_of (own := RX11) (by decide +kernel) rfl (Nat.le_of_ble_eq_true rfl) ?_
  intro X hX hQ hN hl
  show WB G X 0 [(0, .ref (G.1 161))] [] s
  unfold fM_refuse at h
  refine wb_aload_n 0 hX dX11_refuse_0 rfl (pq := 1) rfl ?_
  refine wb_iconst (v := iI (1)) hX dX11_refuse_1 rfl (pq := 2) rfl ?_
  refine wb_putI hX fp_1518 sh_161 rfl dX11_refuse_2 rfl rfl (pq := 5) rfl ?_
  refine wb_mem (fun s_1 es_1 => ?_)
  have h := nmM_s h s_1 es_1
  refine wb_iconst (v := iI (0)) hX dX11_refuse_5 rfl (pq := 6) rfl ?_
  exact wb_iret hX hQ h dX11_refuse_6
set_option maxHeartbeats 4000000 in
set_option maxRecDepth 100000 in
theorem tM_in_J18 {G : wG} {X : wX} {v0 : Int32} {s : wM} {r0 : Int32} (hX : wOK G X cX11_in RX11 (some .boolean) 0) (hQ : wRt G X (wQi G r0 s)) (hN : wNl X = 6) (h : fM_in_J18 v0 s = some r0) : WB G X 18 [] [.int v0] s := by
  unfold fM_in_J18 at h
  obtain ⟨hz_1, h⟩ := chkZ_some h
  exact wb_zretP hX hQ h hz_1.1 dX11_in_18
set_option maxHeartbeats 4000000 in
set_option maxRecDepth 100000 in
theorem tM_in_J17 {G : wG} {X : wX} {s : wM} {r0 : Int32} (hX : wOK G X cX11_in RX11 (some .boolean) 0) (hQ : wRt G X (wQi G r0 s)) (hN : wNl X = 6) (h : fM_in_J17 s = some r0) : WB G X 17 [] [] s := by
  unfold fM_in_J17 at h
  refine wb_iconst (v := iI (0)) hX dX11_in_17 rfl (pq := 18) rfl ?_
  exact tM_in_J18 hX hQ hN h
set_option maxHeartbeats 4000000 in
set_option maxRecDepth 100000 in
theorem tM_in {l : Launch} {G : wG} {s : wM} {x0 : Int64} {x2 : Int64} {x4 : Int64} {r0 : Int32} (h : fM_in s x0 x2 x4 = some r0) : wMet l G yX11_in cX11_in 6 (some .boolean) 0 [.long x0, .long x2, .long x4] s (wQi G r0 s) := by
  refine wMet_of (own := RX11) (by decide +kernel) rfl (Nat.le_of_ble_eq_true rfl) ?_
  intro X hX hQ hN hl
  show WB G X 0 [(0, .long x0), (2, .long x2), (4, .long x4)] [] s
  unfold fM_in at h
  refine wb_lload_n 0 hX dX11_in_0 rfl (pq := 1) rfl ?_
  refine wb_lload_n 1 hX dX11_in_1 rfl (pq := 2) rfl ?_
  refine wb_lcmp hX dX11_in_2 (pq := 3) rfl ?_
  refine wb_if_lt (tgt := 17) hX dX11_in_3 (by decide) (fun c_1 => ?_) (pq := 6) rfl (fun c_1 => ?_)
  · have h := ite_t c_1 h
    refine wb_sub [] (loc' := []) rfl ?_
    exact tM_in_J17 hX hQ hN h
  · have h := ite_f c_1 h
    refine wb_lload_n 0 hX dX11_in_6 rfl (pq := 7) rfl ?_
    refine wb_lload 2 hX dX11_in_7 rfl (pq := 9) rfl ?_
    refine wb_lcmp hX dX11_in_9 (pq := 10) rfl ?_
    refine wb_if_gt (tgt := 17) hX dX11_in_10 (by decide) (fun c_2 => ?_) (pq := 13) rfl (fun c_2 => ?_)
    · have h := ite_t c_2 h
      refine wb_sub [] (loc' := []) rfl ?_
      exact tM_in_J17 hX hQ hN h
    · have h := ite_f c_2 h
      refine wb_iconst (v := iI (1)) hX dX11_in_13 rfl (pq := 14) rfl ?_
      refine wb_goto (tgt := 18) hX dX11_in_14 (by decide) ?_
      refine wb_sub [] (loc' := []) rfl ?_
      exact tM_in_J18 hX hQ hN h
set_option maxHeartbeats 4000000 in
set_option maxRecDepth 100000 in
theorem tM_has_J14 {G : wG} {X : wX} {v0 : Int32} {s : wM} {r0 : Int32} (hX : wOK G X cX11_has RX11 (some .boolean) 0) (hQ : wRt G X (wQi G r0 s)) (hN : wNl X = 2) (h : fM_has_J14 v0 s = some r0) : WB G X 14 [] [.int v0] s := by
  unfold fM_has_J14 at h
  obtain ⟨hz_1, h⟩ := chkZ_some h
  exact wb_zretP hX hQ h hz_1.1 dX11_has_14
set_option maxHeartbeats 4000000 in
set_option maxRecDepth 100000 in
theorem tM_has {l : Launch} {G : wG} {s : wM} {x0 : Int32} {x1 : Int32} {r0 : Int32} (h : fM_has s x0 x1 = some r0) : wMet l G yX11_has cX11_has 2 (some .boolean) 0 [.int x0, .int x1] s (wQi G r0 s) := by
  refine wMet_of (own := RX11) (by decide +kernel) rfl (Nat.le_of_ble_eq_true rfl) ?_
  intro X hX hQ hN hl
  show WB G X 0 [(0, .int x0), (1, .int x1)] [] s
  unfold fM_has at h
  refine wb_iload_n 0 hX dX11_has_0 rfl (pq := 1) rfl ?_
  refine wb_iload_n 1 hX dX11_has_1 rfl (pq := 2) rfl ?_
  refine wb_ishr hX dX11_has_2 (pq := 3) rfl ?_
  refine wb_iconst (v := iI (1)) hX dX11_has_3 rfl (pq := 4) rfl ?_
  refine wb_iand hX dX11_has_4 (pq := 5) rfl ?_
  refine wb_iconst (v := iI (1)) hX dX11_has_5 rfl (pq := 6) rfl ?_
  refine wb_icmp_ne (tgt := 13) hX dX11_has_6 (by decide) (pq := 9) rfl (fun c_1 => ?_) (fun c_1 => ?_)
  · have h := ite_t c_1 h
    refine wb_iconst (v := iI (1)) hX dX11_has_9 rfl (pq := 10) rfl ?_
    refine wb_goto (tgt := 14) hX dX11_has_10 (by decide) ?_
    refine wb_sub [] (loc' := []) rfl ?_
    exact tM_has_J14 hX hQ hN h
  · have h := ite_f c_1 h
    refine wb_iconst (v := iI (0)) hX dX11_has_13 rfl (pq := 14) rfl ?_
    refine wb_sub [] (loc' := []) rfl ?_
    exact tM_has_J14 hX hQ hN h
set_option maxHeartbeats 4000000 in
set_option maxRecDepth 100000 in
theorem tM_flag_J9 {G : wG} {X : wX} {v0 : Int32} {s : wM} {r0 : Int32} (hX : wOK G X cX11_flag RX11 (some .int) 0) (hQ : wRt G X (wQi G r0 s)) (hN : wNl X = 1) (h : fM_flag_J9 v0 s = some r0) : WB G X 9 [] [.int v0] s := by
  unfold fM_flag_J9 at h
  exact wb_iretP hX hQ h dX11_flag_9
set_option maxHeartbeats 4000000 in
set_option maxRecDepth 100000 in
theorem tM_flag {l : Launch} {G : wG} {s : wM} {x0 : Int32} {r0 : Int32} (h : fM_flag s x0 = some r0) : wMet l G yX11_flag cX11_flag 1 (some .int) 0 [.int x0] s (wQi G r0 s) := by
  refine wMet_of (own := RX11) (by decide +kernel) rfl (Nat.le_of_ble_eq_true rfl) ?_
  intro X hX hQ hN hl
  show WB G X 0 [(0, .int x0)] [] s
  unfold fM_flag at h
  refine wb_iload_n 0 hX dX11_flag_0 rfl (pq := 1) rfl ?_
  refine wb_if_eq (tgt := 8) hX dX11_flag_1 (by decide) (fun c_1 => ?_) (pq := 4) rfl (fun c_1 => ?_)
  · have h := ite_t c_1 h
    refine wb_iconst (v := iI (0)) hX dX11_flag_8 rfl (pq := 9) rfl ?_
    refine wb_sub [] (loc' := []) rfl ?_
    exact tM_flag_J9 hX hQ hN h
  · have h := ite_f c_1 h
    refine wb_iconst (v := iI (1)) hX dX11_flag_4 rfl (pq := 5) rfl ?_
    refine wb_goto (tgt := 9) hX dX11_flag_5 (by decide) ?_
    refine wb_sub [] (loc' := []) rfl ?_
    exact tM_flag_J9 hX hQ hN h
set_option maxHeartbeats 4000000 in
set_option maxRecDepth 100000 in
theorem tM_enters {l : Launch} {G : wG} {s : wM} {x1 : Int32} {s1 : wM} (h : fM_enters s x1 = some s1) : wMet l G yX11_enters cX11_enters 2 none 0 [.ref (G.1 161), .int x1] s (wQv G s1) := by
  refine wMet_of (own := RX11) (by decide +kernel) rfl (Nat.le_of_ble_eq_true rfl) ?_
  intro X hX hQ hN hl
  show WB G X 0 [(0, .ref (G.1 161)), (1, .int x1)] [] s
  unfold fM_enters at h
  refine wb_aload_n 0 hX dX11_enters_0 rfl (pq := 1) rfl ?_
  refine wb_getR hX fl_1520 sh_161 rfl dX11_enters_1 (pq := 4) rfl ?_
  refine wb_aload_n 0 hX dX11_enters_4 rfl (pq := 5) rfl ?_
  refine wb_getI hX fl_1519 sh_161 rfl dX11_enters_5 (pq := 8) rfl ?_
  refine wb_iload_n 1 hX dX11_enters_8 rfl (pq := 9) rfl ?_
  obtain ⟨hi_1, h⟩ := chk_some h
  refine wb_iast hX sh_162 hi_1 dX11_enters_9 (pq := 10) rfl ?_
  refine wb_mem (fun s_2 es_2 => ?_)
  have h := nmM_s h s_2 es_2
  refine wb_aload_n 0 hX dX11_enters_10 rfl (pq := 11) rfl ?_
  refine wb_dup hX dX11_enters_11 rfl (pq := 12) rfl ?_
  refine wb_getI hX fl_1519 sh_161 rfl dX11_enters_12 (pq := 15) rfl ?_
  refine wb_iconst (v := iI (1)) hX dX11_enters_15 rfl (pq := 16) rfl ?_
  refine wb_iadd hX dX11_enters_16 (pq := 17) rfl ?_
  refine wb_putI hX fp_1519 sh_161 rfl dX11_enters_17 rfl rfl (pq := 20) rfl ?_
  refine wb_mem (fun s_3 es_3 => ?_)
  have h := nmM_s h s_3 es_3
  exact wb_vret hX hQ h dX11_enters_20
set_option maxHeartbeats 4000000 in
set_option maxRecDepth 100000 in
theorem tM_isFarm {l : Launch} {G : wG} {s : wM} {x1 : Int32} {r0 : Int32} (h : fM_isFarm s x1 = some r0) : wMet l G yX11_isFarm cX11_isFarm 2 (some .boolean) 1 [.ref (G.1 161), .int x1] s (wQi G r0 s) := by
  refine wMet_of (own := RX11) (by decide +kernel) rfl (Nat.le_of_ble_eq_true rfl) ?_
  intro X hX hQ hN hl
  show WB G X 0 [(0, .ref (G.1 161)), (1, .int x1)] [] s
  unfold fM_isFarm at h
  refine wb_iload_n 1 hX dX11_isFarm_0 rfl (pq := 1) rfl ?_
  refine wb_i2l hX dX11_isFarm_1 (pq := 2) rfl ?_
  refine wb_lconst (v := (0 : Int64)) hX dX11_isFarm_2 rfl (pq := 3) rfl ?_
  refine wb_aload_n 0 hX dX11_isFarm_3 rfl (pq := 4) rfl ?_
  refine wb_getI hX fl_1521 sh_161 rfl dX11_isFarm_4 (pq := 7) rfl ?_
  refine wb_iconst (v := iI (1)) hX dX11_isFarm_7 rfl (pq := 8) rfl ?_
  refine wb_isub hX dX11_isFarm_8 (pq := 9) rfl ?_
  refine wb_i2l hX dX11_isFarm_9 (pq := 10) rfl ?_
  obtain ⟨q_2, hc_1, h⟩ := bind_s h
  refine wb_callSi (r0 := q_2) (s1 := s) [.long x1.toInt64, .long (0 : Int64), .long (((s.1 161 3) - (iI (1))).toInt64)] hX ml_1124 (tM_in hc_1) (by decide) rfl rfl (Nat.le_of_ble_eq_true rfl) dX11_isFarm_10 (pq := 13) rfl ?_
  obtain ⟨hz_3, h⟩ := chkZ_some h
  exact wb_zretP hX hQ h hz_3.1 dX11_isFarm_13
set_option maxHeartbeats 4000000 in
set_option maxRecDepth 100000 in
theorem tM_areTwo_J26 {G : wG} {X : wX} {v0 : Int32} {s : wM} {r0 : Int32} (hX : wOK G X cX11_areTwo RX11 (some .boolean) 2) (hQ : wRt G X (wQi G r0 s)) (hN : wNl X = 3) (h : fM_areTwo_J26 v0 s = some r0) : WB G X 26 [] [.int v0] s := by
  unfold fM_areTwo_J26 at h
  obtain ⟨hz_1, h⟩ := chkZ_some h
  exact wb_zretP hX hQ h hz_1.1 dX11_areTwo_26
set_option maxHeartbeats 4000000 in
set_option maxRecDepth 100000 in
theorem tM_areTwo_J25 {G : wG} {X : wX} {s : wM} {r0 : Int32} (hX : wOK G X cX11_areTwo RX11 (some .boolean) 2) (hQ : wRt G X (wQi G r0 s)) (hN : wNl X = 3) (h : fM_areTwo_J25 s = some r0) : WB G X 25 [] [] s := by
  unfold fM_areTwo_J25 at h
  refine wb_iconst (v := iI (0)) hX dX11_areTwo_25 rfl (pq := 26) rfl ?_
  exact tM_areTwo_J26 hX hQ hN h
set_option maxHeartbeats 4000000 in
set_option maxRecDepth 100000 in
theorem tM_areTwo {l : Launch} {G : wG} {s : wM} {x1 : Int32} {x2 : Int32} {r0 : Int32} (h : fM_areTwo s x1 x2 = some r0) : wMet l G yX11_areTwo cX11_areTwo 3 (some .boolean) 2 [.ref (G.1 161), .int x1, .int x2] s (wQi G r0 s) := by
  refine wMet_of (own := RX11) (by decide +kernel) rfl (Nat.le_of_ble_eq_true rfl) ?_
  intro X hX hQ hN hl
  show WB G X 0 [(0, .ref (G.1 161)), (1, .int x1), (2, .int x2)] [] s
  unfold fM_areTwo at h
  refine wb_aload_n 0 hX dX11_areTwo_0 rfl (pq := 1) rfl ?_
  refine wb_iload_n 1 hX dX11_areTwo_1 rfl (pq := 2) rfl ?_
  obtain ⟨q_2, hc_1, h⟩ := bind_s h
  refine wb_callVi (r0 := q_2) (s1 := s) [.int x1] hX sh_161 ml_1170 (tM_isFarm hc_1) (by decide) rfl rfl (Nat.le_of_ble_eq_true rfl) dX11_areTwo_2 (pq := 5) rfl ?_
  refine wb_if_eq (tgt := 25) hX dX11_areTwo_5 (by decide) (fun c_3 => ?_) (pq := 8) rfl (fun c_3 => ?_)
  · have h := ite_t c_3 h
    refine wb_sub [] (loc' := []) rfl ?_
    exact tM_areTwo_J25 hX hQ hN h
  · have h := ite_f c_3 h
    refine wb_aload_n 0 hX dX11_areTwo_8 rfl (pq := 9) rfl ?_
    refine wb_iload_n 2 hX dX11_areTwo_9 rfl (pq := 10) rfl ?_
    obtain ⟨q_5, hc_4, h⟩ := bind_s h
    refine wb_callVi (r0 := q_5) (s1 := s) [.int x2] hX sh_161 ml_1170 (tM_isFarm hc_4) (by decide) rfl rfl (Nat.le_of_ble_eq_true rfl) dX11_areTwo_10 (pq := 13) rfl ?_
    refine wb_if_eq (tgt := 25) hX dX11_areTwo_13 (by decide) (fun c_6 => ?_) (pq := 16) rfl (fun c_6 => ?_)
    · have h := ite_t c_6 h
      refine wb_sub [] (loc' := []) rfl ?_
      exact tM_areTwo_J25 hX hQ hN h
    · have h := ite_f c_6 h
      refine wb_iload_n 1 hX dX11_areTwo_16 rfl (pq := 17) rfl ?_
      refine wb_iload_n 2 hX dX11_areTwo_17 rfl (pq := 18) rfl ?_
      refine wb_icmp_eq (tgt := 25) hX dX11_areTwo_18 (by decide) (fun c_7 => ?_) (pq := 21) rfl (fun c_7 => ?_)
      · have h := ite_t c_7 h
        refine wb_sub [] (loc' := []) rfl ?_
        exact tM_areTwo_J25 hX hQ hN h
      · have h := ite_f c_7 h
        refine wb_iconst (v := iI (1)) hX dX11_areTwo_21 rfl (pq := 22) rfl ?_
        refine wb_goto (tgt := 26) hX dX11_areTwo_22 (by decide) ?_
        refine wb_sub [] (loc' := []) rfl ?_
        exact tM_areTwo_J26 hX hQ hN h
set_option maxHeartbeats 4000000 in
set_option maxRecDepth 100000 in
theorem tM_areBits {l : Launch} {G : wG} {s : wM} {x1 : Int32} {r0 : Int32} (h : fM_areBits s x1 = some r0) : wMet l G yX11_areBits cX11_areBits 2 (some .boolean) 1 [.ref (G.1 161), .int x1] s (wQi G r0 s) := by
  refine wMet_of (own := RX11) (by decide +kernel) rfl (Nat.le_of_ble_eq_true rfl) ?_
  intro X hX hQ hN hl
  show WB G X 0 [(0, .ref (G.1 161)), (1, .int x1)] [] s
  unfold fM_areBits at h
  refine wb_iload_n 1 hX dX11_areBits_0 rfl (pq := 1) rfl ?_
  refine wb_i2l hX dX11_areBits_1 (pq := 2) rfl ?_
  refine wb_lconst (v := (0 : Int64)) hX dX11_areBits_2 rfl (pq := 3) rfl ?_
  refine wb_iconst (v := iI (1)) hX dX11_areBits_3 rfl (pq := 4) rfl ?_
  refine wb_aload_n 0 hX dX11_areBits_4 rfl (pq := 5) rfl ?_
  refine wb_getI hX fl_1521 sh_161 rfl dX11_areBits_5 (pq := 8) rfl ?_
  refine wb_ishl hX dX11_areBits_8 (pq := 9) rfl ?_
  refine wb_iconst (v := iI (1)) hX dX11_areBits_9 rfl (pq := 10) rfl ?_
  refine wb_isub hX dX11_areBits_10 (pq := 11) rfl ?_
  refine wb_i2l hX dX11_areBits_11 (pq := 12) rfl ?_
  obtain ⟨q_2, hc_1, h⟩ := bind_s h
  refine wb_callSi (r0 := q_2) (s1 := s) [.long x1.toInt64, .long (0 : Int64), .long (((iShl (iI (1)) (s.1 161 3)) - (iI (1))).toInt64)] hX ml_1124 (tM_in hc_1) (by decide) rfl rfl (Nat.le_of_ble_eq_true rfl) dX11_areBits_12 (pq := 15) rfl ?_
  obtain ⟨hz_3, h⟩ := chkZ_some h
  exact wb_zretP hX hQ h hz_3.1 dX11_areBits_15
set_option maxHeartbeats 4000000 in
set_option maxRecDepth 100000 in
theorem tM_sign_L18 {G : wG} {X : wX} {x1 : Int32} {r0 : Int32} {s1 : wM} (hX : wOK G X cX11_sign RX11 (some .int) 0) (hQ : wRt G X (wQi G r0 s1)) (hN : wNl X = 3) : ∀ (n : Nat) (x2 : Int32) (s : wM), wh2 (fM_sign_L18 x1) n x2 s = some (r0, s1) → WB G X 18 [(0, .ref (G.1 161)), (1, .int x1), (2, .int x2)] [] s := by
  intro n
  induction n with
  | zero => intro x2 s h; cases h
  | succ n hk18 =>
    intro x2 s h
    have h : fM_sign_L18 x1 x2 s (wh2 (fM_sign_L18 x1) n) = some (r0, s1) := h
    unfold fM_sign_L18 at h
    refine wb_iload_n 2 hX dX11_sign_18 rfl (pq := 19) rfl ?_
    refine wb_iconst (v := iI (4)) hX dX11_sign_19 rfl (pq := 20) rfl ?_
    refine wb_icmp_ge (tgt := 53) hX dX11_sign_20 (by decide) (fun c_1 => ?_) (pq := 23) rfl (fun c_1 => ?_)
    · have h := ite_t c_1 h
      refine wb_aload_n 0 hX dX11_sign_53 rfl (pq := 54) rfl ?_
      refine wb_dup hX dX11_sign_54 rfl (pq := 55) rfl ?_
      refine wb_getI hX fl_1530 sh_161 rfl dX11_sign_55 (pq := 58) rfl ?_
      refine wb_iconst (v := iI (4)) hX dX11_sign_58 rfl (pq := 59) rfl ?_
      refine wb_iadd hX dX11_sign_59 (pq := 60) rfl ?_
      refine wb_putI hX fp_1530 sh_161 rfl dX11_sign_60 rfl rfl (pq := 63) rfl ?_
      refine wb_mem (fun s_2 es_2 => ?_)
      have h := nmM_s h s_2 es_2
      refine wb_aload_n 0 hX dX11_sign_63 rfl (pq := 64) rfl ?_
      refine wb_getI hX fl_1530 sh_161 rfl dX11_sign_64 (pq := 67) rfl ?_
      exact wb_iret hX hQ h dX11_sign_67
    · have h := ite_f c_1 h
      refine wb_aload_n 0 hX dX11_sign_23 rfl (pq := 24) rfl ?_
      refine wb_getR hX fl_1529 sh_161 rfl dX11_sign_24 (pq := 27) rfl ?_
      refine wb_aload_n 0 hX dX11_sign_27 rfl (pq := 28) rfl ?_
      refine wb_getI hX fl_1530 sh_161 rfl dX11_sign_28 (pq := 31) rfl ?_
      refine wb_iload_n 2 hX dX11_sign_31 rfl (pq := 32) rfl ?_
      refine wb_iadd hX dX11_sign_32 (pq := 33) rfl ?_
      refine wb_iload_n 1 hX dX11_sign_33 rfl (pq := 34) rfl ?_
      refine wb_bipush (v := iI (24)) hX dX11_sign_34 (by decide) (pq := 36) rfl ?_
      refine wb_bipush (v := iI (8)) hX dX11_sign_36 (by decide) (pq := 38) rfl ?_
      refine wb_iload_n 2 hX dX11_sign_38 rfl (pq := 39) rfl ?_
      refine wb_imul hX dX11_sign_39 (pq := 40) rfl ?_
      refine wb_isub hX dX11_sign_40 (pq := 41) rfl ?_
      refine wb_ishr hX dX11_sign_41 (pq := 42) rfl ?_
      refine wb_sipush (v := iI (255)) hX dX11_sign_42 (by decide) (pq := 45) rfl ?_
      refine wb_iand hX dX11_sign_45 (pq := 46) rfl ?_
      obtain ⟨hi_3, h⟩ := chk_some h
      refine wb_iast hX sh_169 hi_3 dX11_sign_46 (pq := 47) rfl ?_
      refine wb_mem (fun s_4 es_4 => ?_)
      have h := nmM_s h s_4 es_4
      refine wb_iinc (v := (x2 + iI (1))) (loc' := [(2, .int (x2 + iI (1))), (0, .ref (G.1 161)), (1, .int x1)]) 2 hX hN dX11_sign_47 rfl rfl (by decide) rfl (pq := 50) rfl ?_
      refine wb_goto (tgt := 18) hX dX11_sign_50 (by decide) ?_
      refine wb_sub [1, 2, 0] (loc' := [(0, .ref (G.1 161)), (1, .int x1), (2, .int (x2 + iI (1)))]) rfl ?_
      exact hk18 _ _ h
set_option maxHeartbeats 4000000 in
set_option maxRecDepth 100000 in
theorem tM_sign {l : Launch} {G : wG} {s : wM} {x1 : Int32} {r0 : Int32} {s1 : wM} (h : fM_sign s x1 = some (r0, s1)) : wMet l G yX11_sign cX11_sign 3 (some .int) 0 [.ref (G.1 161), .int x1] s (wQi G r0 s1) := by
  refine wMet_of (own := RX11) (by decide +kernel) rfl (Nat.le_of_ble_eq_true rfl) ?_
  intro X hX hQ hN hl
  show WB G X 0 [(0, .ref (G.1 161)), (1, .int x1)] [] s
  unfold fM_sign at h
  refine wb_aload_n 0 hX dX11_sign_0 rfl (pq := 1) rfl ?_
  refine wb_iconst (v := iI (0)) hX dX11_sign_1 rfl (pq := 2) rfl ?_
  refine wb_putI hX fp_1518 sh_161 rfl dX11_sign_2 rfl rfl (pq := 5) rfl ?_
  refine wb_mem (fun s_1 es_1 => ?_)
  have h := nmM_s h s_1 es_1
  refine wb_aload_n 0 hX dX11_sign_5 rfl (pq := 6) rfl ?_
  refine wb_getI hX fl_1530 sh_161 rfl dX11_sign_6 (pq := 9) rfl ?_
  refine wb_bipush (v := iI (76)) hX dX11_sign_9 (by decide) (pq := 11) rfl ?_
  refine wb_icmp_le (tgt := 16) hX dX11_sign_11 (by decide) (fun c_2 => ?_) (pq := 14) rfl (fun c_2 => ?_)
  · have h := ite_t c_2 h
    refine wb_iconst (v := iI (0)) hX dX11_sign_16 rfl (pq := 17) rfl ?_
    refine wb_istore_n (loc' := [(2, .int (iI (0))), (0, .ref (G.1 161)), (1, .int x1)]) hX hN dX11_sign_17 (by decide) rfl (pq := 18) rfl ?_
    refine wb_sub [1, 2, 0] (loc' := [(0, .ref (G.1 161)), (1, .int x1), (2, .int (iI (0)))]) rfl ?_
    exact tM_sign_L18 hX hQ hN 100000 _ _ h
  · have h := ite_f c_2 h
    refine wb_iconst (v := iI (-1)) hX dX11_sign_14 rfl (pq := 15) rfl ?_
    exact wb_iret hX hQ h dX11_sign_15
set_option maxHeartbeats 4000000 in
set_option maxRecDepth 100000 in
theorem tM_end {l : Launch} {G : wG} {s : wM} {x1 : Int32} {r0 : Int32} {s1 : wM} (h : fM_end s x1 = some (r0, s1)) : wMet l G yX11_end cX11_end 2 (some .boolean) 1 [.ref (G.1 161), .int x1] s (wQi G r0 s1) := by
  refine wMet_of (own := RX11) (by decide +kernel) rfl (Nat.le_of_ble_eq_true rfl) ?_
  intro X hX hQ hN hl
  show WB G X 0 [(0, .ref (G.1 161)), (1, .int x1)] [] s
  unfold fM_end at h
  refine wb_aload_n 0 hX dX11_end_0 rfl (pq := 1) rfl ?_
  refine wb_iconst (v := iI (0)) hX dX11_end_1 rfl (pq := 2) rfl ?_
  refine wb_putI hX fp_1518 sh_161 rfl dX11_end_2 rfl rfl (pq := 5) rfl ?_
  refine wb_mem (fun s_1 es_1 => ?_)
  have h := nmM_s h s_1 es_1
  refine wb_iload_n 1 hX dX11_end_5 rfl (pq := 6) rfl ?_
  refine wb_i2l hX dX11_end_6 (pq := 7) rfl ?_
  refine wb_lconst (v := (0 : Int64)) hX dX11_end_7 rfl (pq := 8) rfl ?_
  refine wb_aload_n 0 hX dX11_end_8 rfl (pq := 9) rfl ?_
  refine wb_getI hX fl_1530 sh_161 rfl dX11_end_9 (pq := 12) rfl ?_
  refine wb_i2l hX dX11_end_12 (pq := 13) rfl ?_
  obtain ⟨q_3, hc_2, h⟩ := bind_s h
  refine wb_callSi (r0 := q_3) (s1 := s_1) [.long x1.toInt64, .long (0 : Int64), .long ((s_1.1 161 12).toInt64)] hX ml_1124 (tM_in hc_2) (by decide) rfl rfl (Nat.le_of_ble_eq_true rfl) dX11_end_13 (pq := 16) rfl ?_
  refine wb_if_ne (tgt := 21) hX dX11_end_16 (by decide) (pq := 19) rfl (fun c_4 => ?_) (fun c_4 => ?_)
  · have h := ite_t c_4 h
    refine wb_iconst (v := iI (0)) hX dX11_end_19 rfl (pq := 20) rfl ?_
    exact wb_zret hX hQ h nar01.1.1 dX11_end_20
  · have h := ite_f c_4 h
    refine wb_aload_n 0 hX dX11_end_21 rfl (pq := 22) rfl ?_
    refine wb_iload_n 1 hX dX11_end_22 rfl (pq := 23) rfl ?_
    refine wb_putI hX fp_1530 sh_161 rfl dX11_end_23 rfl rfl (pq := 26) rfl ?_
    refine wb_mem (fun s_5 es_5 => ?_)
    have h := nmM_s h s_5 es_5
    refine wb_iconst (v := iI (1)) hX dX11_end_26 rfl (pq := 27) rfl ?_
    exact wb_zret hX hQ h nar01.2.1 dX11_end_27
set_option maxHeartbeats 4000000 in
set_option maxRecDepth 100000 in
theorem tM_begins {l : Launch} {G : wG} {s : wM} {x1 : Int32} {r0 : Int32} {s1 : wM} (h : fM_begins s x1 = some (r0, s1)) : wMet l G yX11_begins cX11_begins 3 (some .int) 0 [.ref (G.1 161), .int x1] s (wQi G r0 s1) := by
  refine wMet_of (own := RX11) (by decide +kernel) rfl (Nat.le_of_ble_eq_true rfl) ?_
  intro X hX hQ hN hl
  show WB G X 0 [(0, .ref (G.1 161)), (1, .int x1)] [] s
  unfold fM_begins at h
  refine wb_aload_n 0 hX dX11_begins_0 rfl (pq := 1) rfl ?_
  refine wb_getI hX fl_1530 sh_161 rfl dX11_begins_1 (pq := 4) rfl ?_
  refine wb_istore_n (loc' := [(2, .int (s.1 161 12)), (0, .ref (G.1 161)), (1, .int x1)]) hX hN dX11_begins_4 (by decide) rfl (pq := 5) rfl ?_
  refine wb_aload_n 1 hX dX11_begins_5 rfl (pq := 6) rfl ?_
  refine wb_iconst (v := iI (0)) hX dX11_begins_6 rfl (pq := 7) rfl ?_
  refine wb_putI hX fp_1530 sh_161 rfl dX11_begins_7 rfl rfl (pq := 10) rfl ?_
  refine wb_mem (fun s_1 es_1 => ?_)
  have h := nmM_s h s_1 es_1
  refine wb_aload_n 1 hX dX11_begins_10 rfl (pq := 11) rfl ?_
  refine wb_iconst (v := iI (0)) hX dX11_begins_11 rfl (pq := 12) rfl ?_
  refine wb_putI hX fp_1531 sh_161 rfl dX11_begins_12 rfl rfl (pq := 15) rfl ?_
  refine wb_mem (fun s_2 es_2 => ?_)
  have h := nmM_s h s_2 es_2
  refine wb_aload_n 1 hX dX11_begins_15 rfl (pq := 16) rfl ?_
  refine wb_iload_n 0 hX dX11_begins_16 rfl (pq := 17) rfl ?_
  refine wb_iload_n 2 hX dX11_begins_17 rfl (pq := 18) rfl ?_
  refine wb_mmin hX k_1136 k_394 k_14 k_395 (Nat.le_of_ble_eq_true rfl) dX11_begins_18 (pq := 21) rfl ?_
  refine wb_putI hX fp_1532 sh_161 rfl dX11_begins_21 rfl rfl (pq := 24) rfl ?_
  refine wb_mem (fun s_3 es_3 => ?_)
  have h := nmM_s h s_3 es_3
  refine wb_iload_n 0 hX dX11_begins_24 rfl (pq := 25) rfl ?_
  exact wb_iret hX hQ h dX11_begins_25
set_option maxHeartbeats 4000000 in
set_option maxRecDepth 100000 in
theorem tM_takes_J29 {G : wG} {X : wX} {v0 : Int32} {s : wM} {r0 : Int32} {s1 : wM} (hX : wOK G X cX11_takes RX11 (some .boolean) 1) (hQ : wRt G X (wQi G r0 s1)) (hN : wNl X = 3) (h : fM_takes_J29 v0 s = some (r0, s1)) : WB G X 29 [(0, .ref (G.1 161))] [.int v0] s := by
  unfold fM_takes_J29 at h
  refine wb_istore_n (loc' := [(2, .int v0), (0, .ref (G.1 161))]) hX hN dX11_takes_29 (by decide) rfl (pq := 30) rfl ?_
  refine wb_aload_n 1 hX dX11_takes_30 rfl (pq := 31) rfl ?_
  refine wb_dup hX dX11_takes_31 rfl (pq := 32) rfl ?_
  refine wb_getI hX fl_1531 sh_161 rfl dX11_takes_32 (pq := 35) rfl ?_
  refine wb_iload_n 0 hX dX11_takes_35 rfl (pq := 36) rfl ?_
  obtain ⟨q_2, hc_1, h⟩ := bind_s h
  refine wb_callSi (r0 := q_2) (s1 := s) [.int v0] hX ml_1151 (tM_flag hc_1) (by decide) rfl rfl (Nat.le_of_ble_eq_true rfl) dX11_takes_36 (pq := 39) rfl ?_
  refine wb_iadd hX dX11_takes_39 (pq := 40) rfl ?_
  refine wb_putI hX fp_1531 sh_161 rfl dX11_takes_40 rfl rfl (pq := 43) rfl ?_
  refine wb_mem (fun s_3 es_3 => ?_)
  have h := nmM_s h s_3 es_3
  refine wb_iload_n 0 hX dX11_takes_43 rfl (pq := 44) rfl ?_
  obtain ⟨hz_4, h⟩ := chkZ_some h
  exact wb_zret hX hQ h hz_4.1 dX11_takes_44
set_option maxHeartbeats 4000000 in
set_option maxRecDepth 100000 in
theorem tM_takes_J28 {G : wG} {X : wX} {s : wM} {r0 : Int32} {s1 : wM} (hX : wOK G X cX11_takes RX11 (some .boolean) 1) (hQ : wRt G X (wQi G r0 s1)) (hN : wNl X = 3) (h : fM_takes_J28 s = some (r0, s1)) : WB G X 28 [(0, .ref (G.1 161))] [] s := by
  unfold fM_takes_J28 at h
  refine wb_iconst (v := iI (0)) hX dX11_takes_28 rfl (pq := 29) rfl ?_
  exact tM_takes_J29 hX hQ hN h
set_option maxHeartbeats 4000000 in
set_option maxRecDepth 100000 in
theorem tM_takes {l : Launch} {G : wG} {s : wM} {x1 : Int32} {r0 : Int32} {s1 : wM} (h : fM_takes s x1 = some (r0, s1)) : wMet l G yX11_takes cX11_takes 3 (some .boolean) 1 [.ref (G.1 161), .int x1] s (wQi G r0 s1) := by
  refine wMet_of (own := RX11) (by decide +kernel) rfl (Nat.le_of_ble_eq_true rfl) ?_
  intro X hX hQ hN hl
  show WB G X 0 [(0, .ref (G.1 161)), (1, .int x1)] [] s
  unfold fM_takes at h
  refine wb_aload_n 0 hX dX11_takes_0 rfl (pq := 1) rfl ?_
  refine wb_getI hX fl_1531 sh_161 rfl dX11_takes_1 (pq := 4) rfl ?_
  refine wb_aload_n 0 hX dX11_takes_4 rfl (pq := 5) rfl ?_
  refine wb_getI hX fl_1532 sh_161 rfl dX11_takes_5 (pq := 8) rfl ?_
  refine wb_icmp_ge (tgt := 28) hX dX11_takes_8 (by decide) (fun c_1 => ?_) (pq := 11) rfl (fun c_1 => ?_)
  · have h := ite_t c_1 h
    refine wb_sub [0] (loc' := [(0, .ref (G.1 161))]) rfl ?_
    exact tM_takes_J28 hX hQ hN h
  · have h := ite_f c_1 h
    refine wb_aload_n 0 hX dX11_takes_11 rfl (pq := 12) rfl ?_
    refine wb_getR hX fl_1529 sh_161 rfl dX11_takes_12 (pq := 15) rfl ?_
    refine wb_aload_n 0 hX dX11_takes_15 rfl (pq := 16) rfl ?_
    refine wb_getI hX fl_1531 sh_161 rfl dX11_takes_16 (pq := 19) rfl ?_
    obtain ⟨hi_2, h⟩ := chk_some h
    refine wb_iald hX sh_169 hi_2 dX11_takes_19 (pq := 20) rfl ?_
    refine wb_iload_n 1 hX dX11_takes_20 rfl (pq := 21) rfl ?_
    refine wb_icmp_ne (tgt := 28) hX dX11_takes_21 (by decide) (pq := 24) rfl (fun c_3 => ?_) (fun c_3 => ?_)
    · have h := ite_t c_3 h
      refine wb_iconst (v := iI (1)) hX dX11_takes_24 rfl (pq := 25) rfl ?_
      refine wb_goto (tgt := 29) hX dX11_takes_25 (by decide) ?_
      refine wb_sub [0] (loc' := [(0, .ref (G.1 161))]) rfl ?_
      exact tM_takes_J29 hX hQ hN h
    · have h := ite_f c_3 h
      refine wb_sub [0] (loc' := [(0, .ref (G.1 161))]) rfl ?_
      exact tM_takes_J28 hX hQ hN h
set_option maxHeartbeats 4000000 in
set_option maxRecDepth 100000 in
theorem tM_digit_J35 {G : wG} {X : wX} {s : wM} {r0 : Int32} {s1 : wM} (hX : wOK G X cX11_digit RX11 (some .int) 1) (hQ : wRt G X (wQi G r0 s1)) (hN : wNl X = 2) (h : fM_digit_J35 s = some (r0, s1)) : WB G X 35 [] [] s := by
  unfold fM_digit_J35 at h
  refine wb_iconst (v := iI (-1)) hX dX11_digit_35 rfl (pq := 36) rfl ?_
  exact wb_iret hX hQ h dX11_digit_36
set_option maxHeartbeats 4000000 in
set_option maxRecDepth 100000 in
theorem tM_digit {l : Launch} {G : wG} {s : wM} {x1 : Int32} {r0 : Int32} {s1 : wM} (h : fM_digit s x1 = some (r0, s1)) : wMet l G yX11_digit cX11_digit 2 (some .int) 1 [.ref (G.1 161), .int x1] s (wQi G r0 s1) := by
  refine wMet_of (own := RX11) (by decide +kernel) rfl (Nat.le_of_ble_eq_true rfl) ?_
  intro X hX hQ hN hl
  show WB G X 0 [(0, .ref (G.1 161)), (1, .int x1)] [] s
  unfold fM_digit at h
  refine wb_aload_n 0 hX dX11_digit_0 rfl (pq := 1) rfl ?_
  refine wb_getI hX fl_1531 sh_161 rfl dX11_digit_1 (pq := 4) rfl ?_
  refine wb_aload_n 0 hX dX11_digit_4 rfl (pq := 5) rfl ?_
  refine wb_getI hX fl_1532 sh_161 rfl dX11_digit_5 (pq := 8) rfl ?_
  refine wb_icmp_ge (tgt := 35) hX dX11_digit_8 (by decide) (fun c_1 => ?_) (pq := 11) rfl (fun c_1 => ?_)
  · have h := ite_t c_1 h
    refine wb_sub [] (loc' := []) rfl ?_
    exact tM_digit_J35 hX hQ hN h
  · have h := ite_f c_1 h
    refine wb_aload_n 0 hX dX11_digit_11 rfl (pq := 12) rfl ?_
    refine wb_getR hX fl_1529 sh_161 rfl dX11_digit_12 (pq := 15) rfl ?_
    refine wb_aload_n 0 hX dX11_digit_15 rfl (pq := 16) rfl ?_
    refine wb_getI hX fl_1531 sh_161 rfl dX11_digit_16 (pq := 19) rfl ?_
    obtain ⟨hi_2, h⟩ := chk_some h
    refine wb_iald hX sh_169 hi_2 dX11_digit_19 (pq := 20) rfl ?_
    refine wb_i2l hX dX11_digit_20 (pq := 21) rfl ?_
    refine wb_bipush (v := iI (48)) hX dX11_digit_21 (by decide) (pq := 23) rfl ?_
    refine wb_iload_n 1 hX dX11_digit_23 rfl (pq := 24) rfl ?_
    refine wb_iadd hX dX11_digit_24 (pq := 25) rfl ?_
    refine wb_i2l hX dX11_digit_25 (pq := 26) rfl ?_
    refine wb_ldc2 (v := (57 : Int64)) hX k_1138 dX11_digit_26 (pq := 29) rfl ?_
    obtain ⟨q_4, hc_3, h⟩ := bind_s h
    refine wb_callSi (r0 := q_4) (s1 := s) [.long ((s.1 169 (s.1 161 13).toNatClampNeg).toInt64), .long (((iI (48)) + x1).toInt64), .long (57 : Int64)] hX ml_1124 (tM_in hc_3) (by decide) rfl rfl (Nat.le_of_ble_eq_true rfl) dX11_digit_29 (pq := 32) rfl ?_
    refine wb_if_ne (tgt := 37) hX dX11_digit_32 (by decide) (pq := 35) rfl (fun c_5 => ?_) (fun c_5 => ?_)
    · have h := ite_t c_5 h
      refine wb_sub [] (loc' := []) rfl ?_
      exact tM_digit_J35 hX hQ hN h
    · have h := ite_f c_5 h
      refine wb_aload_n 0 hX dX11_digit_37 rfl (pq := 38) rfl ?_
      refine wb_dup hX dX11_digit_38 rfl (pq := 39) rfl ?_
      refine wb_getI hX fl_1531 sh_161 rfl dX11_digit_39 (pq := 42) rfl ?_
      refine wb_iconst (v := iI (1)) hX dX11_digit_42 rfl (pq := 43) rfl ?_
      refine wb_iadd hX dX11_digit_43 (pq := 44) rfl ?_
      refine wb_putI hX fp_1531 sh_161 rfl dX11_digit_44 rfl rfl (pq := 47) rfl ?_
      refine wb_mem (fun s_6 es_6 => ?_)
      have h := nmM_s h s_6 es_6
      refine wb_aload_n 0 hX dX11_digit_47 rfl (pq := 48) rfl ?_
      refine wb_getR hX fl_1529 sh_161 rfl dX11_digit_48 (pq := 51) rfl ?_
      refine wb_aload_n 0 hX dX11_digit_51 rfl (pq := 52) rfl ?_
      refine wb_getI hX fl_1531 sh_161 rfl dX11_digit_52 (pq := 55) rfl ?_
      refine wb_iconst (v := iI (1)) hX dX11_digit_55 rfl (pq := 56) rfl ?_
      refine wb_isub hX dX11_digit_56 (pq := 57) rfl ?_
      obtain ⟨hi_7, h⟩ := chk_some h
      refine wb_iald hX sh_169 hi_7 dX11_digit_57 (pq := 58) rfl ?_
      refine wb_bipush (v := iI (48)) hX dX11_digit_58 (by decide) (pq := 60) rfl ?_
      refine wb_isub hX dX11_digit_60 (pq := 61) rfl ?_
      exact wb_iret hX hQ h dX11_digit_61
set_option maxHeartbeats 4000000 in
set_option maxRecDepth 100000 in
theorem tM_faultOf_J40 {G : wG} {X : wX} {x2 : Int32} {s : wM} {r0 : Int32} (hX : wOK G X cX11_faultOf RX11 (some .int) 0) (hQ : wRt G X (wQi G r0 s)) (hN : wNl X = 5) (h : fM_faultOf_J40 x2 s = some r0) : WB G X 40 [(2, .int x2)] [] s := by
  unfold fM_faultOf_J40 at h
  refine wb_iconst (v := iI (-1)) hX dX11_faultOf_40 rfl (pq := 41) rfl ?_
  refine wb_iload_n 0 hX dX11_faultOf_41 rfl (pq := 42) rfl ?_
  refine wb_isub hX dX11_faultOf_42 (pq := 43) rfl ?_
  exact wb_iretP hX hQ h dX11_faultOf_43
set_option maxHeartbeats 4000000 in
set_option maxRecDepth 100000 in
theorem tM_faultOf_J59 {G : wG} {X : wX} {v0 : Int32} {s : wM} {r0 : Int32} (hX : wOK G X cX11_faultOf RX11 (some .int) 0) (hQ : wRt G X (wQi G r0 s)) (hN : wNl X = 5) (h : fM_faultOf_J59 v0 s = some r0) : WB G X 59 [] [.int v0] s := by
  unfold fM_faultOf_J59 at h
  exact wb_iretP hX hQ h dX11_faultOf_59
set_option maxHeartbeats 4000000 in
set_option maxRecDepth 100000 in
theorem tM_faultOf_J44 {G : wG} {X : wX} {x4 : Int32} {s : wM} {r0 : Int32} (hX : wOK G X cX11_faultOf RX11 (some .int) 0) (hQ : wRt G X (wQi G r0 s)) (hN : wNl X = 5) (h : fM_faultOf_J44 x4 s = some r0) : WB G X 44 [(0, .ref (G.1 161)), (4, .int x4)] [] s := by
  unfold fM_faultOf_J44 at h
  refine wb_iload 1 hX dX11_faultOf_44 rfl (pq := 46) rfl ?_
  refine wb_if_eq (tgt := 53) hX dX11_faultOf_46 (by decide) (fun c_1 => ?_) (pq := 49) rfl (fun c_1 => ?_)
  · have h := ite_t c_1 h
    refine wb_iconst (v := iI (-1)) hX dX11_faultOf_53 rfl (pq := 54) rfl ?_
    refine wb_aload_n 0 hX dX11_faultOf_54 rfl (pq := 55) rfl ?_
    refine wb_getI hX fl_1531 sh_161 rfl dX11_faultOf_55 (pq := 58) rfl ?_
    refine wb_isub hX dX11_faultOf_58 (pq := 59) rfl ?_
    refine wb_sub [] (loc' := []) rfl ?_
    exact tM_faultOf_J59 hX hQ hN h
  · have h := ite_f c_1 h
    refine wb_iconst (v := iI (0)) hX dX11_faultOf_49 rfl (pq := 50) rfl ?_
    refine wb_goto (tgt := 59) hX dX11_faultOf_50 (by decide) ?_
    refine wb_sub [] (loc' := []) rfl ?_
    exact tM_faultOf_J59 hX hQ hN h
set_option maxHeartbeats 4000000 in
set_option maxRecDepth 100000 in
theorem tM_faultOf_J20 {G : wG} {X : wX} {x1 : Int32} {x2 : Int32} {v0 : Int32} {s : wM} {r0 : Int32} (hX : wOK G X cX11_faultOf RX11 (some .int) 0) (hQ : wRt G X (wQi G r0 s)) (hN : wNl X = 5) (h : fM_faultOf_J20 x1 x2 v0 s = some r0) : WB G X 20 [(0, .ref (G.1 161)), (1, .int x1), (2, .int x2)] [.int v0] s := by
  unfold fM_faultOf_J20 at h
  refine wb_istore (loc' := [(4, .int v0), (0, .ref (G.1 161)), (1, .int x1), (2, .int x2)]) hX hN dX11_faultOf_20 (by decide) rfl (pq := 22) rfl ?_
  refine wb_iload_n 2 hX dX11_faultOf_22 rfl (pq := 23) rfl ?_
  refine wb_iload_n 3 hX dX11_faultOf_23 rfl (pq := 24) rfl ?_
  refine wb_icmp_le (tgt := 44) hX dX11_faultOf_24 (by decide) (fun c_1 => ?_) (pq := 27) rfl (fun c_1 => ?_)
  · have h := ite_t c_1 h
    refine wb_sub [1, 0] (loc' := [(0, .ref (G.1 161)), (4, .int v0)]) rfl ?_
    exact tM_faultOf_J44 hX hQ hN h
  · have h := ite_f c_1 h
    refine wb_iload 0 hX dX11_faultOf_27 rfl (pq := 29) rfl ?_
    refine wb_if_ne (tgt := 40) hX dX11_faultOf_29 (by decide) (pq := 32) rfl (fun c_2 => ?_) (fun c_2 => ?_)
    · have h := ite_t c_2 h
      refine wb_aload_n 1 hX dX11_faultOf_32 rfl (pq := 33) rfl ?_
      refine wb_getI hX fl_1531 sh_161 rfl dX11_faultOf_33 (pq := 36) rfl ?_
      refine wb_iload_n 3 hX dX11_faultOf_36 rfl (pq := 37) rfl ?_
      refine wb_icmp_lt (tgt := 44) hX dX11_faultOf_37 (by decide) (fun c_3 => ?_) (pq := 40) rfl (fun c_3 => ?_)
      · have h := ite_t c_3 h
        refine wb_sub [1, 0] (loc' := [(0, .ref (G.1 161)), (4, .int v0)]) rfl ?_
        exact tM_faultOf_J44 hX hQ hN h
      · have h := ite_f c_3 h
        refine wb_sub [3] (loc' := [(2, .int x2)]) rfl ?_
        exact tM_faultOf_J40 hX hQ hN h
    · have h := ite_f c_2 h
      refine wb_sub [3] (loc' := [(2, .int x2)]) rfl ?_
      exact tM_faultOf_J40 hX hQ hN h
set_option maxHeartbeats 4000000 in
set_option maxRecDepth 100000 in
theorem tM_faultOf_J19 {G : wG} {X : wX} {x1 : Int32} {x2 : Int32} {s : wM} {r0 : Int32} (hX : wOK G X cX11_faultOf RX11 (some .int) 0) (hQ : wRt G X (wQi G r0 s)) (hN : wNl X = 5) (h : fM_faultOf_J19 x1 x2 s = some r0) : WB G X 19 [(0, .ref (G.1 161)), (1, .int x1), (2, .int x2)] [] s := by
  unfold fM_faultOf_J19 at h
  refine wb_iconst (v := iI (0)) hX dX11_faultOf_19 rfl (pq := 20) rfl ?_
  exact tM_faultOf_J20 hX hQ hN h
set_option maxHeartbeats 4000000 in
set_option maxRecDepth 100000 in
theorem tM_faultOf {l : Launch} {G : wG} {s : wM} {x1 : Int32} {x2 : Int32} {x3 : Int32} {r0 : Int32} (h : fM_faultOf s x1 x2 x3 = some r0) : wMet l G yX11_faultOf cX11_faultOf 5 (some .int) 0 [.ref (G.1 161), .int x1, .int x2, .int x3] s (wQi G r0 s) := by
  refine wMet_of (own := RX11) (by decide +kernel) rfl (Nat.le_of_ble_eq_true rfl) ?_
  intro X hX hQ hN hl
  show WB G X 0 [(0, .ref (G.1 161)), (1, .int x1), (2, .int x2), (3, .int x3)] [] s
  unfold fM_faultOf at h
  refine wb_iload_n 3 hX dX11_faultOf_0 rfl (pq := 1) rfl ?_
  refine wb_if_eq (tgt := 19) hX dX11_faultOf_1 (by decide) (fun c_1 => ?_) (pq := 4) rfl (fun c_1 => ?_)
  · have h := ite_t c_1 h
    refine wb_sub [0, 1, 2] (loc' := [(0, .ref (G.1 161)), (1, .int x1), (2, .int x2)]) rfl ?_
    exact tM_faultOf_J19 hX hQ hN h
  · have h := ite_f c_1 h
    refine wb_aload_n 0 hX dX11_faultOf_4 rfl (pq := 5) rfl ?_
    refine wb_getI hX fl_1531 sh_161 rfl dX11_faultOf_5 (pq := 8) rfl ?_
    refine wb_aload_n 0 hX dX11_faultOf_8 rfl (pq := 9) rfl ?_
    refine wb_getI hX fl_1532 sh_161 rfl dX11_faultOf_9 (pq := 12) rfl ?_
    refine wb_icmp_ne (tgt := 19) hX dX11_faultOf_12 (by decide) (pq := 15) rfl (fun c_2 => ?_) (fun c_2 => ?_)
    · have h := ite_t c_2 h
      refine wb_iconst (v := iI (1)) hX dX11_faultOf_15 rfl (pq := 16) rfl ?_
      refine wb_goto (tgt := 20) hX dX11_faultOf_16 (by decide) ?_
      refine wb_sub [0, 1, 2] (loc' := [(0, .ref (G.1 161)), (1, .int x1), (2, .int x2)]) rfl ?_
      exact tM_faultOf_J20 hX hQ hN h
    · have h := ite_f c_2 h
      refine wb_sub [0, 1, 2] (loc' := [(0, .ref (G.1 161)), (1, .int x1), (2, .int x2)]) rfl ?_
      exact tM_faultOf_J19 hX hQ hN h
set_option maxHeartbeats 4000000 in
set_option maxRecDepth 100000 in
theorem tM_readsFarm_J56 {G : wG} {X : wX} {x1 : Int32} {v0 : Int32} {s : wM} {r0 : Int32} {s1 : wM} (hX : wOK G X cX11_readsFarm RX11 (some .boolean) 2) (hQ : wRt G X (wQi G r0 s1)) (hN : wNl X = 4) (h : fM_readsFarm_J56 x1 v0 s = some (r0, s1)) : WB G X 56 [(0, .ref (G.1 161)), (1, .int x1)] [.int v0] s := by
  unfold fM_readsFarm_J56 at h
  refine wb_istore_n (loc' := [(3, .int v0), (0, .ref (G.1 161)), (1, .int x1)]) hX hN dX11_readsFarm_56 (by decide) rfl (pq := 57) rfl ?_
  refine wb_iload_n 0 hX dX11_readsFarm_57 rfl (pq := 58) rfl ?_
  refine wb_if_ge (tgt := 63) hX dX11_readsFarm_58 (by decide) (fun c_1 => ?_) (pq := 61) rfl (fun c_1 => ?_)
  · have h := ite_t c_1 h
    refine wb_aload_n 1 hX dX11_readsFarm_63 rfl (pq := 64) rfl ?_
    refine wb_getR hX fl_1534 sh_161 rfl dX11_readsFarm_64 (pq := 67) rfl ?_
    refine wb_aload_n 1 hX dX11_readsFarm_67 rfl (pq := 68) rfl ?_
    refine wb_getI hX fl_1533 sh_161 rfl dX11_readsFarm_68 (pq := 71) rfl ?_
    refine wb_iload_n 2 hX dX11_readsFarm_71 rfl (pq := 72) rfl ?_
    obtain ⟨hi_2, h⟩ := chk_some h
    refine wb_iast hX sh_170 hi_2 dX11_readsFarm_72 (pq := 73) rfl ?_
    refine wb_mem (fun s_3 es_3 => ?_)
    have h := nmM_s h s_3 es_3
    refine wb_aload_n 1 hX dX11_readsFarm_73 rfl (pq := 74) rfl ?_
    refine wb_getR hX fl_1535 sh_161 rfl dX11_readsFarm_74 (pq := 77) rfl ?_
    refine wb_aload_n 1 hX dX11_readsFarm_77 rfl (pq := 78) rfl ?_
    refine wb_getI hX fl_1533 sh_161 rfl dX11_readsFarm_78 (pq := 81) rfl ?_
    refine wb_iload_n 0 hX dX11_readsFarm_81 rfl (pq := 82) rfl ?_
    obtain ⟨hi_4, h⟩ := chk_some h
    refine wb_iast hX sh_171 hi_4 dX11_readsFarm_82 (pq := 83) rfl ?_
    refine wb_mem (fun s_5 es_5 => ?_)
    have h := nmM_s h s_5 es_5
    refine wb_aload_n 1 hX dX11_readsFarm_83 rfl (pq := 84) rfl ?_
    refine wb_getR hX fl_1536 sh_161 rfl dX11_readsFarm_84 (pq := 87) rfl ?_
    refine wb_aload_n 1 hX dX11_readsFarm_87 rfl (pq := 88) rfl ?_
    refine wb_getI hX fl_1533 sh_161 rfl dX11_readsFarm_88 (pq := 91) rfl ?_
    refine wb_iconst (v := iI (0)) hX dX11_readsFarm_91 rfl (pq := 92) rfl ?_
    obtain ⟨hi_6, h⟩ := chk_some h
    refine wb_iast hX sh_172 hi_6 dX11_readsFarm_92 (pq := 93) rfl ?_
    refine wb_mem (fun s_7 es_7 => ?_)
    have h := nmM_s h s_7 es_7
    refine wb_aload_n 1 hX dX11_readsFarm_93 rfl (pq := 94) rfl ?_
    refine wb_dup hX dX11_readsFarm_94 rfl (pq := 95) rfl ?_
    refine wb_getI hX fl_1533 sh_161 rfl dX11_readsFarm_95 (pq := 98) rfl ?_
    refine wb_iconst (v := iI (1)) hX dX11_readsFarm_98 rfl (pq := 99) rfl ?_
    refine wb_iadd hX dX11_readsFarm_99 (pq := 100) rfl ?_
    refine wb_putI hX fp_1533 sh_161 rfl dX11_readsFarm_100 rfl rfl (pq := 103) rfl ?_
    refine wb_mem (fun s_8 es_8 => ?_)
    have h := nmM_s h s_8 es_8
    refine wb_iconst (v := iI (1)) hX dX11_readsFarm_103 rfl (pq := 104) rfl ?_
    exact wb_zret hX hQ h nar01.2.1 dX11_readsFarm_104
  · have h := ite_f c_1 h
    refine wb_iconst (v := iI (0)) hX dX11_readsFarm_61 rfl (pq := 62) rfl ?_
    exact wb_zret hX hQ h nar01.1.1 dX11_readsFarm_62
set_option maxHeartbeats 4000000 in
set_option maxRecDepth 100000 in
theorem tM_readsFarm_J37 {G : wG} {X : wX} {v0 : Int32} {s : wM} {r0 : Int32} {s1 : wM} (hX : wOK G X cX11_readsFarm RX11 (some .boolean) 2) (hQ : wRt G X (wQi G r0 s1)) (hN : wNl X = 4) (h : fM_readsFarm_J37 v0 s = some (r0, s1)) : WB G X 37 [(0, .ref (G.1 161))] [.int v0] s := by
  unfold fM_readsFarm_J37 at h
  refine wb_istore_n (loc' := [(1, .int v0), (0, .ref (G.1 161))]) hX hN dX11_readsFarm_37 (by decide) rfl (pq := 38) rfl ?_
  refine wb_aload_n 1 hX dX11_readsFarm_38 rfl (pq := 39) rfl ?_
  refine wb_bipush (v := iI (43)) hX dX11_readsFarm_39 (by decide) (pq := 41) rfl ?_
  obtain ⟨q_2, hc_1, h⟩ := bind_s h
  refine wb_callVi (r0 := q_2.1) (s1 := q_2.2) [.int (iI (43))] hX sh_161 ml_1147 (tM_takes hc_1) (by decide) rfl rfl (Nat.le_of_ble_eq_true rfl) dX11_readsFarm_41 (pq := 44) rfl ?_
  refine wb_if_eq (tgt := 55) hX dX11_readsFarm_44 (by decide) (fun c_3 => ?_) (pq := 47) rfl (fun c_3 => ?_)
  · have h := ite_t c_3 h
    refine wb_iconst (v := iI (0)) hX dX11_readsFarm_55 rfl (pq := 56) rfl ?_
    refine wb_sub [1, 0] (loc' := [(0, .ref (G.1 161)), (1, .int v0)]) rfl ?_
    exact tM_readsFarm_J56 hX hQ hN h
  · have h := ite_f c_3 h
    refine wb_aload_n 1 hX dX11_readsFarm_47 rfl (pq := 48) rfl ?_
    refine wb_iconst (v := iI (0)) hX dX11_readsFarm_48 rfl (pq := 49) rfl ?_
    obtain ⟨q_5, hc_4, h⟩ := bind_s h
    refine wb_callVi (r0 := q_5.1) (s1 := q_5.2) [.int (iI (0))] hX sh_161 ml_1143 (tM_digit hc_4) (by decide) rfl rfl (Nat.le_of_ble_eq_true rfl) dX11_readsFarm_49 (pq := 52) rfl ?_
    refine wb_goto (tgt := 56) hX dX11_readsFarm_52 (by decide) ?_
    refine wb_sub [1, 0] (loc' := [(0, .ref (G.1 161)), (1, .int v0)]) rfl ?_
    exact tM_readsFarm_J56 hX hQ hN h
set_option maxHeartbeats 4000000 in
set_option maxRecDepth 100000 in
theorem tM_readsFarm {l : Launch} {G : wG} {s : wM} {r0 : Int32} {s1 : wM} (h : fM_readsFarm s = some (r0, s1)) : wMet l G yX11_readsFarm cX11_readsFarm 4 (some .boolean) 2 [.ref (G.1 161)] s (wQi G r0 s1) := by
  refine wMet_of (own := RX11) (by decide +kernel) rfl (Nat.le_of_ble_eq_true rfl) ?_
  intro X hX hQ hN hl
  show WB G X 0 [(0, .ref (G.1 161))] [] s
  unfold fM_readsFarm at h
  refine wb_aload_n 0 hX dX11_readsFarm_0 rfl (pq := 1) rfl ?_
  refine wb_getI hX fl_1533 sh_161 rfl dX11_readsFarm_1 (pq := 4) rfl ?_
  refine wb_bipush (v := iI (9)) hX dX11_readsFarm_4 (by decide) (pq := 6) rfl ?_
  refine wb_icmp_ne (tgt := 11) hX dX11_readsFarm_6 (by decide) (pq := 9) rfl (fun c_1 => ?_) (fun c_1 => ?_)
  · have h := ite_t c_1 h
    refine wb_iconst (v := iI (0)) hX dX11_readsFarm_9 rfl (pq := 10) rfl ?_
    exact wb_zret hX hQ h nar01.1.1 dX11_readsFarm_10
  · have h := ite_f c_1 h
    refine wb_aload_n 0 hX dX11_readsFarm_11 rfl (pq := 12) rfl ?_
    refine wb_iconst (v := iI (0)) hX dX11_readsFarm_12 rfl (pq := 13) rfl ?_
    obtain ⟨q_3, hc_2, h⟩ := bind_s h
    refine wb_callVi (r0 := q_3.1) (s1 := q_3.2) [.int (iI (0))] hX sh_161 ml_1143 (tM_digit hc_2) (by decide) rfl rfl (Nat.le_of_ble_eq_true rfl) dX11_readsFarm_13 (pq := 16) rfl ?_
    refine wb_istore_n (loc' := [(1, .int q_3.1), (0, .ref (G.1 161))]) hX hN dX11_readsFarm_16 (by decide) rfl (pq := 17) rfl ?_
    refine wb_aload_n 1 hX dX11_readsFarm_17 rfl (pq := 18) rfl ?_
    refine wb_iconst (v := iI (0)) hX dX11_readsFarm_18 rfl (pq := 19) rfl ?_
    obtain ⟨q_5, hc_4, h⟩ := bind_s h
    refine wb_callVi (r0 := q_5.1) (s1 := q_5.2) [.int (iI (0))] hX sh_161 ml_1143 (tM_digit hc_4) (by decide) rfl rfl (Nat.le_of_ble_eq_true rfl) dX11_readsFarm_19 (pq := 22) rfl ?_
    refine wb_istore_n (loc' := [(2, .int q_5.1), (1, .int q_3.1), (0, .ref (G.1 161))]) hX hN dX11_readsFarm_22 (by decide) rfl (pq := 23) rfl ?_
    refine wb_iload_n 0 hX dX11_readsFarm_23 rfl (pq := 24) rfl ?_
    refine wb_if_ge (tgt := 31) hX dX11_readsFarm_24 (by decide) (fun c_6 => ?_) (pq := 27) rfl (fun c_6 => ?_)
    · have h := ite_t c_6 h
      refine wb_bipush (v := iI (10)) hX dX11_readsFarm_31 (by decide) (pq := 33) rfl ?_
      refine wb_iload_n 1 hX dX11_readsFarm_33 rfl (pq := 34) rfl ?_
      refine wb_imul hX dX11_readsFarm_34 (pq := 35) rfl ?_
      refine wb_iload_n 0 hX dX11_readsFarm_35 rfl (pq := 36) rfl ?_
      refine wb_iadd hX dX11_readsFarm_36 (pq := 37) rfl ?_
      refine wb_sub [2] (loc' := [(0, .ref (G.1 161))]) rfl ?_
      exact tM_readsFarm_J37 hX hQ hN h
    · have h := ite_f c_6 h
      refine wb_iload_n 1 hX dX11_readsFarm_27 rfl (pq := 28) rfl ?_
      refine wb_goto (tgt := 37) hX dX11_readsFarm_28 (by decide) ?_
      refine wb_sub [2] (loc' := [(0, .ref (G.1 161))]) rfl ?_
      exact tM_readsFarm_J37 hX hQ hN h
set_option maxHeartbeats 4000000 in
set_option maxRecDepth 100000 in
theorem tM_farmBut_J54 {G : wG} {X : wX} {s : wM} {r0 : Int32} {s1 : wM} (hX : wOK G X cX11_farmBut RX11 (some .int) 1) (hQ : wRt G X (wQi G r0 s1)) (hN : wNl X = 2) (h : fM_farmBut_J54 s = some (r0, s1)) : WB G X 54 [] [] s := by
  unfold fM_farmBut_J54 at h
  refine wb_iconst (v := iI (-1)) hX dX11_farmBut_54 rfl (pq := 55) rfl ?_
  exact wb_iret hX hQ h dX11_farmBut_55
set_option maxHeartbeats 4000000 in
set_option maxRecDepth 100000 in
theorem tM_farmBut {l : Launch} {G : wG} {s : wM} {x1 : Int32} {r0 : Int32} {s1 : wM} (h : fM_farmBut s x1 = some (r0, s1)) : wMet l G yX11_farmBut cX11_farmBut 2 (some .int) 1 [.ref (G.1 161), .int x1] s (wQi G r0 s1) := by
  refine wMet_of (own := RX11) (by decide +kernel) rfl (Nat.le_of_ble_eq_true rfl) ?_
  intro X hX hQ hN hl
  show WB G X 0 [(0, .ref (G.1 161)), (1, .int x1)] [] s
  unfold fM_farmBut at h
  refine wb_aload_n 0 hX dX11_farmBut_0 rfl (pq := 1) rfl ?_
  refine wb_getI hX fl_1531 sh_161 rfl dX11_farmBut_1 (pq := 4) rfl ?_
  refine wb_aload_n 0 hX dX11_farmBut_4 rfl (pq := 5) rfl ?_
  refine wb_getI hX fl_1532 sh_161 rfl dX11_farmBut_5 (pq := 8) rfl ?_
  refine wb_icmp_ge (tgt := 54) hX dX11_farmBut_8 (by decide) (fun c_1 => ?_) (pq := 11) rfl (fun c_1 => ?_)
  · have h := ite_t c_1 h
    refine wb_sub [] (loc' := []) rfl ?_
    exact tM_farmBut_J54 hX hQ hN h
  · have h := ite_f c_1 h
    refine wb_aload_n 0 hX dX11_farmBut_11 rfl (pq := 12) rfl ?_
    refine wb_getR hX fl_1529 sh_161 rfl dX11_farmBut_12 (pq := 15) rfl ?_
    refine wb_aload_n 0 hX dX11_farmBut_15 rfl (pq := 16) rfl ?_
    refine wb_getI hX fl_1531 sh_161 rfl dX11_farmBut_16 (pq := 19) rfl ?_
    obtain ⟨hi_2, h⟩ := chk_some h
    refine wb_iald hX sh_169 hi_2 dX11_farmBut_19 (pq := 20) rfl ?_
    refine wb_bipush (v := iI (97)) hX dX11_farmBut_20 (by decide) (pq := 22) rfl ?_
    refine wb_isub hX dX11_farmBut_22 (pq := 23) rfl ?_
    refine wb_i2l hX dX11_farmBut_23 (pq := 24) rfl ?_
    refine wb_lconst (v := (0 : Int64)) hX dX11_farmBut_24 rfl (pq := 25) rfl ?_
    refine wb_aload_n 0 hX dX11_farmBut_25 rfl (pq := 26) rfl ?_
    refine wb_getI hX fl_1533 sh_161 rfl dX11_farmBut_26 (pq := 29) rfl ?_
    refine wb_iconst (v := iI (1)) hX dX11_farmBut_29 rfl (pq := 30) rfl ?_
    refine wb_isub hX dX11_farmBut_30 (pq := 31) rfl ?_
    refine wb_i2l hX dX11_farmBut_31 (pq := 32) rfl ?_
    obtain ⟨q_4, hc_3, h⟩ := bind_s h
    refine wb_callSi (r0 := q_4) (s1 := s) [.long (((s.1 169 (s.1 161 13).toNatClampNeg) - (iI (97))).toInt64), .long (0 : Int64), .long (((s.1 161 15) - (iI (1))).toInt64)] hX ml_1124 (tM_in hc_3) (by decide) rfl rfl (Nat.le_of_ble_eq_true rfl) dX11_farmBut_32 (pq := 35) rfl ?_
    refine wb_if_eq (tgt := 54) hX dX11_farmBut_35 (by decide) (fun c_5 => ?_) (pq := 38) rfl (fun c_5 => ?_)
    · have h := ite_t c_5 h
      refine wb_sub [] (loc' := []) rfl ?_
      exact tM_farmBut_J54 hX hQ hN h
    · have h := ite_f c_5 h
      refine wb_aload_n 0 hX dX11_farmBut_38 rfl (pq := 39) rfl ?_
      refine wb_getR hX fl_1529 sh_161 rfl dX11_farmBut_39 (pq := 42) rfl ?_
      refine wb_aload_n 0 hX dX11_farmBut_42 rfl (pq := 43) rfl ?_
      refine wb_getI hX fl_1531 sh_161 rfl dX11_farmBut_43 (pq := 46) rfl ?_
      refine wb_iald hX sh_169 hi_2 dX11_farmBut_46 (pq := 47) rfl ?_
      refine wb_bipush (v := iI (97)) hX dX11_farmBut_47 (by decide) (pq := 49) rfl ?_
      refine wb_isub hX dX11_farmBut_49 (pq := 50) rfl ?_
      refine wb_iload_n 1 hX dX11_farmBut_50 rfl (pq := 51) rfl ?_
      refine wb_icmp_ne (tgt := 56) hX dX11_farmBut_51 (by decide) (pq := 54) rfl (fun c_6 => ?_) (fun c_6 => ?_)
      · have h := ite_t c_6 h
        refine wb_sub [] (loc' := []) rfl ?_
        exact tM_farmBut_J54 hX hQ hN h
      · have h := ite_f c_6 h
        refine wb_aload_n 0 hX dX11_farmBut_56 rfl (pq := 57) rfl ?_
        refine wb_dup hX dX11_farmBut_57 rfl (pq := 58) rfl ?_
        refine wb_getI hX fl_1531 sh_161 rfl dX11_farmBut_58 (pq := 61) rfl ?_
        refine wb_iconst (v := iI (1)) hX dX11_farmBut_61 rfl (pq := 62) rfl ?_
        refine wb_iadd hX dX11_farmBut_62 (pq := 63) rfl ?_
        refine wb_putI hX fp_1531 sh_161 rfl dX11_farmBut_63 rfl rfl (pq := 66) rfl ?_
        refine wb_mem (fun s_7 es_7 => ?_)
        have h := nmM_s h s_7 es_7
        refine wb_aload_n 0 hX dX11_farmBut_66 rfl (pq := 67) rfl ?_
        refine wb_getR hX fl_1529 sh_161 rfl dX11_farmBut_67 (pq := 70) rfl ?_
        refine wb_aload_n 0 hX dX11_farmBut_70 rfl (pq := 71) rfl ?_
        refine wb_getI hX fl_1531 sh_161 rfl dX11_farmBut_71 (pq := 74) rfl ?_
        refine wb_iconst (v := iI (1)) hX dX11_farmBut_74 rfl (pq := 75) rfl ?_
        refine wb_isub hX dX11_farmBut_75 (pq := 76) rfl ?_
        obtain ⟨hi_8, h⟩ := chk_some h
        refine wb_iald hX sh_169 hi_8 dX11_farmBut_76 (pq := 77) rfl ?_
        refine wb_bipush (v := iI (97)) hX dX11_farmBut_77 (by decide) (pq := 79) rfl ?_
        refine wb_isub hX dX11_farmBut_79 (pq := 80) rfl ?_
        exact wb_iret hX hQ h dX11_farmBut_80
set_option maxHeartbeats 4000000 in
set_option maxRecDepth 100000 in
theorem tM_readsTouch_J44 {G : wG} {X : wX} {x1 : Int32} {x2 : Int32} {v0 : Int32} {s : wM} {r0 : Int32} {s1 : wM} (hX : wOK G X cX11_readsTouch RX11 (some .boolean) 2) (hQ : wRt G X (wQi G r0 s1)) (hN : wNl X = 4) (h : fM_readsTouch_J44 x1 x2 v0 s = some (r0, s1)) : WB G X 44 [(0, .ref (G.1 161)), (1, .int x1), (2, .int x2)] [.int v0] s := by
  unfold fM_readsTouch_J44 at h
  refine wb_istore_n (loc' := [(3, .int v0), (0, .ref (G.1 161)), (1, .int x1), (2, .int x2)]) hX hN dX11_readsTouch_44 (by decide) rfl (pq := 45) rfl ?_
  refine wb_iload_n 0 hX dX11_readsTouch_45 rfl (pq := 46) rfl ?_
  refine wb_if_ge (tgt := 51) hX dX11_readsTouch_46 (by decide) (fun c_1 => ?_) (pq := 49) rfl (fun c_1 => ?_)
  · have h := ite_t c_1 h
    refine wb_aload_n 1 hX dX11_readsTouch_51 rfl (pq := 52) rfl ?_
    refine wb_getR hX fl_1536 sh_161 rfl dX11_readsTouch_52 (pq := 55) rfl ?_
    refine wb_iload_n 2 hX dX11_readsTouch_55 rfl (pq := 56) rfl ?_
    refine wb_dup2 hX dX11_readsTouch_56 rfl rfl (pq := 57) rfl ?_
    obtain ⟨hi_2, h⟩ := chk_some h
    refine wb_iald hX sh_172 hi_2 dX11_readsTouch_57 (pq := 58) rfl ?_
    refine wb_iconst (v := iI (1)) hX dX11_readsTouch_58 rfl (pq := 59) rfl ?_
    refine wb_iload_n 3 hX dX11_readsTouch_59 rfl (pq := 60) rfl ?_
    refine wb_ishl hX dX11_readsTouch_60 (pq := 61) rfl ?_
    refine wb_ior hX dX11_readsTouch_61 (pq := 62) rfl ?_
    refine wb_iast hX sh_172 hi_2 dX11_readsTouch_62 (pq := 63) rfl ?_
    refine wb_mem (fun s_3 es_3 => ?_)
    have h := nmM_s h s_3 es_3
    refine wb_aload_n 1 hX dX11_readsTouch_63 rfl (pq := 64) rfl ?_
    refine wb_getR hX fl_1536 sh_161 rfl dX11_readsTouch_64 (pq := 67) rfl ?_
    refine wb_iload_n 3 hX dX11_readsTouch_67 rfl (pq := 68) rfl ?_
    refine wb_dup2 hX dX11_readsTouch_68 rfl rfl (pq := 69) rfl ?_
    obtain ⟨hi_4, h⟩ := chk_some h
    refine wb_iald hX sh_172 hi_4 dX11_readsTouch_69 (pq := 70) rfl ?_
    refine wb_iconst (v := iI (1)) hX dX11_readsTouch_70 rfl (pq := 71) rfl ?_
    refine wb_iload_n 2 hX dX11_readsTouch_71 rfl (pq := 72) rfl ?_
    refine wb_ishl hX dX11_readsTouch_72 (pq := 73) rfl ?_
    refine wb_ior hX dX11_readsTouch_73 (pq := 74) rfl ?_
    refine wb_iast hX sh_172 hi_4 dX11_readsTouch_74 (pq := 75) rfl ?_
    refine wb_mem (fun s_5 es_5 => ?_)
    have h := nmM_s h s_5 es_5
    refine wb_aload_n 1 hX dX11_readsTouch_75 rfl (pq := 76) rfl ?_
    refine wb_getR hX fl_1537 sh_161 rfl dX11_readsTouch_76 (pq := 79) rfl ?_
    refine wb_bipush (v := iI (9)) hX dX11_readsTouch_79 (by decide) (pq := 81) rfl ?_
    refine wb_iload_n 2 hX dX11_readsTouch_81 rfl (pq := 82) rfl ?_
    refine wb_imul hX dX11_readsTouch_82 (pq := 83) rfl ?_
    refine wb_iload_n 3 hX dX11_readsTouch_83 rfl (pq := 84) rfl ?_
    refine wb_iadd hX dX11_readsTouch_84 (pq := 85) rfl ?_
    refine wb_iload_n 0 hX dX11_readsTouch_85 rfl (pq := 86) rfl ?_
    obtain ⟨hi_6, h⟩ := chk_some h
    refine wb_iast hX sh_173 hi_6 dX11_readsTouch_86 (pq := 87) rfl ?_
    refine wb_mem (fun s_7 es_7 => ?_)
    have h := nmM_s h s_7 es_7
    refine wb_aload_n 1 hX dX11_readsTouch_87 rfl (pq := 88) rfl ?_
    refine wb_getR hX fl_1537 sh_161 rfl dX11_readsTouch_88 (pq := 91) rfl ?_
    refine wb_bipush (v := iI (9)) hX dX11_readsTouch_91 (by decide) (pq := 93) rfl ?_
    refine wb_iload_n 3 hX dX11_readsTouch_93 rfl (pq := 94) rfl ?_
    refine wb_imul hX dX11_readsTouch_94 (pq := 95) rfl ?_
    refine wb_iload_n 2 hX dX11_readsTouch_95 rfl (pq := 96) rfl ?_
    refine wb_iadd hX dX11_readsTouch_96 (pq := 97) rfl ?_
    refine wb_iload_n 0 hX dX11_readsTouch_97 rfl (pq := 98) rfl ?_
    obtain ⟨hi_8, h⟩ := chk_some h
    refine wb_iast hX sh_173 hi_8 dX11_readsTouch_98 (pq := 99) rfl ?_
    refine wb_mem (fun s_9 es_9 => ?_)
    have h := nmM_s h s_9 es_9
    refine wb_iconst (v := iI (1)) hX dX11_readsTouch_99 rfl (pq := 100) rfl ?_
    exact wb_zret hX hQ h nar01.2.1 dX11_readsTouch_100
  · have h := ite_f c_1 h
    refine wb_iconst (v := iI (0)) hX dX11_readsTouch_49 rfl (pq := 50) rfl ?_
    exact wb_zret hX hQ h nar01.1.1 dX11_readsTouch_50
set_option maxHeartbeats 4000000 in
set_option maxRecDepth 100000 in
theorem tM_readsTouch_J19 {G : wG} {X : wX} {x1 : Int32} {v0 : Int32} {s : wM} {r0 : Int32} {s1 : wM} (hX : wOK G X cX11_readsTouch RX11 (some .boolean) 2) (hQ : wRt G X (wQi G r0 s1)) (hN : wNl X = 4) (h : fM_readsTouch_J19 x1 v0 s = some (r0, s1)) : WB G X 19 [(0, .ref (G.1 161)), (1, .int x1)] [.int v0] s := by
  unfold fM_readsTouch_J19 at h
  refine wb_istore_n (loc' := [(2, .int v0), (0, .ref (G.1 161)), (1, .int x1)]) hX hN dX11_readsTouch_19 (by decide) rfl (pq := 20) rfl ?_
  refine wb_iload_n 0 hX dX11_readsTouch_20 rfl (pq := 21) rfl ?_
  refine wb_if_ge (tgt := 26) hX dX11_readsTouch_21 (by decide) (fun c_1 => ?_) (pq := 24) rfl (fun c_1 => ?_)
  · have h := ite_t c_1 h
    refine wb_aload_n 1 hX dX11_readsTouch_26 rfl (pq := 27) rfl ?_
    refine wb_bipush (v := iI (47)) hX dX11_readsTouch_27 (by decide) (pq := 29) rfl ?_
    obtain ⟨q_3, hc_2, h⟩ := bind_s h
    refine wb_callVi (r0 := q_3.1) (s1 := q_3.2) [.int (iI (47))] hX sh_161 ml_1147 (tM_takes hc_2) (by decide) rfl rfl (Nat.le_of_ble_eq_true rfl) dX11_readsTouch_29 (pq := 32) rfl ?_
    refine wb_if_eq (tgt := 43) hX dX11_readsTouch_32 (by decide) (fun c_4 => ?_) (pq := 35) rfl (fun c_4 => ?_)
    · have h := ite_t c_4 h
      refine wb_iconst (v := iI (0)) hX dX11_readsTouch_43 rfl (pq := 44) rfl ?_
      refine wb_sub [1, 2, 0] (loc' := [(0, .ref (G.1 161)), (1, .int x1), (2, .int v0)]) rfl ?_
      exact tM_readsTouch_J44 hX hQ hN h
    · have h := ite_f c_4 h
      refine wb_aload_n 1 hX dX11_readsTouch_35 rfl (pq := 36) rfl ?_
      refine wb_iconst (v := iI (0)) hX dX11_readsTouch_36 rfl (pq := 37) rfl ?_
      obtain ⟨q_6, hc_5, h⟩ := bind_s h
      refine wb_callVi (r0 := q_6.1) (s1 := q_6.2) [.int (iI (0))] hX sh_161 ml_1143 (tM_digit hc_5) (by decide) rfl rfl (Nat.le_of_ble_eq_true rfl) dX11_readsTouch_37 (pq := 40) rfl ?_
      refine wb_goto (tgt := 44) hX dX11_readsTouch_40 (by decide) ?_
      refine wb_sub [1, 2, 0] (loc' := [(0, .ref (G.1 161)), (1, .int x1), (2, .int v0)]) rfl ?_
      exact tM_readsTouch_J44 hX hQ hN h
  · have h := ite_f c_1 h
    refine wb_iconst (v := iI (0)) hX dX11_readsTouch_24 rfl (pq := 25) rfl ?_
    exact wb_zret hX hQ h nar01.1.1 dX11_readsTouch_25
set_option maxHeartbeats 4000000 in
set_option maxRecDepth 100000 in
theorem tM_readsTouch {l : Launch} {G : wG} {s : wM} {r0 : Int32} {s1 : wM} (h : fM_readsTouch s = some (r0, s1)) : wMet l G yX11_readsTouch cX11_readsTouch 4 (some .boolean) 2 [.ref (G.1 161)] s (wQi G r0 s1) := by
  refine wMet_of (own := RX11) (by decide +kernel) rfl (Nat.le_of_ble_eq_true rfl) ?_
  intro X hX hQ hN hl
  show WB G X 0 [(0, .ref (G.1 161))] [] s
  unfold fM_readsTouch at h
  refine wb_aload_n 0 hX dX11_readsTouch_0 rfl (pq := 1) rfl ?_
  refine wb_iconst (v := iI (-1)) hX dX11_readsTouch_1 rfl (pq := 2) rfl ?_
  obtain ⟨q_2, hc_1, h⟩ := bind_s h
  refine wb_callVi (r0 := q_2.1) (s1 := q_2.2) [.int (iI (-1))] hX sh_161 ml_1158 (tM_farmBut hc_1) (by decide) rfl rfl (Nat.le_of_ble_eq_true rfl) dX11_readsTouch_2 (pq := 5) rfl ?_
  refine wb_istore_n (loc' := [(1, .int q_2.1), (0, .ref (G.1 161))]) hX hN dX11_readsTouch_5 (by decide) rfl (pq := 6) rfl ?_
  refine wb_iload_n 0 hX dX11_readsTouch_6 rfl (pq := 7) rfl ?_
  refine wb_if_ge (tgt := 14) hX dX11_readsTouch_7 (by decide) (fun c_3 => ?_) (pq := 10) rfl (fun c_3 => ?_)
  · have h := ite_t c_3 h
    refine wb_aload_n 1 hX dX11_readsTouch_14 rfl (pq := 15) rfl ?_
    refine wb_iload_n 0 hX dX11_readsTouch_15 rfl (pq := 16) rfl ?_
    obtain ⟨q_5, hc_4, h⟩ := bind_s h
    refine wb_callVi (r0 := q_5.1) (s1 := q_5.2) [.int q_2.1] hX sh_161 ml_1158 (tM_farmBut hc_4) (by decide) rfl rfl (Nat.le_of_ble_eq_true rfl) dX11_readsTouch_16 (pq := 19) rfl ?_
    refine wb_sub [1, 0] (loc' := [(0, .ref (G.1 161)), (1, .int q_2.1)]) rfl ?_
    exact tM_readsTouch_J19 hX hQ hN h
  · have h := ite_f c_3 h
    refine wb_iconst (v := iI (-1)) hX dX11_readsTouch_10 rfl (pq := 11) rfl ?_
    refine wb_goto (tgt := 19) hX dX11_readsTouch_11 (by decide) ?_
    refine wb_sub [1, 0] (loc' := [(0, .ref (G.1 161)), (1, .int q_2.1)]) rfl ?_
    exact tM_readsTouch_J19 hX hQ hN h
set_option maxHeartbeats 4000000 in
set_option maxRecDepth 100000 in
theorem tM_county_J160 {G : wG} {X : wX} {k89 : Int32 → Int32 → Int32 → wM → Option (Int32 × wM)} {x1 : Int32} {x2 : Int32} {x3 : Int32} {v0 : Int32} {s : wM} {r0 : Int32} {s1 : wM} (hX : wOK G X cX11_county RX11 (some .int) 3) (hQ : wRt G X (wQi G r0 s1)) (hN : wNl X = 7) (hk89 : ∀ (x2 : Int32) (x3 : Int32) (x4 : Int32) (s : wM), k89 x2 x3 x4 s = some (r0, s1) → WB G X 89 [(0, .ref (G.1 161)), (1, .int x1), (2, .int x2), (3, .int x3), (4, .int x4)] [] s) (h : fM_county_J160 k89 x1 x2 x3 v0 s = some (r0, s1)) : WB G X 160 [(0, .ref (G.1 161)), (1, .int x1), (2, .int x2), (3, .int x3)] [.int v0] s := by
  unfold fM_county_J160 at h
  refine wb_istore (loc' := [(4, .int v0), (0, .ref (G.1 161)), (1, .int x1), (2, .int x2), (3, .int x3)]) hX hN dX11_county_160 (by decide) rfl (pq := 162) rfl ?_
  refine wb_goto (tgt := 89) hX dX11_county_162 (by decide) ?_
  refine wb_sub [1, 2, 3, 4, 0] (loc' := [(0, .ref (G.1 161)), (1, .int x1), (2, .int x2), (3, .int x3), (4, .int v0)]) rfl ?_
  exact hk89 _ _ _ _ h
set_option maxHeartbeats 4000000 in
set_option maxRecDepth 100000 in
theorem tM_county_J159 {G : wG} {X : wX} {k89 : Int32 → Int32 → Int32 → wM → Option (Int32 × wM)} {x1 : Int32} {x2 : Int32} {x3 : Int32} {s : wM} {r0 : Int32} {s1 : wM} (hX : wOK G X cX11_county RX11 (some .int) 3) (hQ : wRt G X (wQi G r0 s1)) (hN : wNl X = 7) (hk89 : ∀ (x2 : Int32) (x3 : Int32) (x4 : Int32) (s : wM), k89 x2 x3 x4 s = some (r0, s1) → WB G X 89 [(0, .ref (G.1 161)), (1, .int x1), (2, .int x2), (3, .int x3), (4, .int x4)] [] s) (h : fM_county_J159 k89 x1 x2 x3 s = some (r0, s1)) : WB G X 159 [(0, .ref (G.1 161)), (1, .int x1), (2, .int x2), (3, .int x3)] [] s := by
  unfold fM_county_J159 at h
  refine wb_iconst (v := iI (0)) hX dX11_county_159 rfl (pq := 160) rfl ?_
  exact tM_county_J160 hX hQ hN hk89 h
set_option maxHeartbeats 4000000 in
set_option maxRecDepth 100000 in
theorem tM_county_J138 {G : wG} {X : wX} {k89 : Int32 → Int32 → Int32 → wM → Option (Int32 × wM)} {x1 : Int32} {x2 : Int32} {v0 : Int32} {s : wM} {r0 : Int32} {s1 : wM} (hX : wOK G X cX11_county RX11 (some .int) 3) (hQ : wRt G X (wQi G r0 s1)) (hN : wNl X = 7) (hk89 : ∀ (x2 : Int32) (x3 : Int32) (x4 : Int32) (s : wM), k89 x2 x3 x4 s = some (r0, s1) → WB G X 89 [(0, .ref (G.1 161)), (1, .int x1), (2, .int x2), (3, .int x3), (4, .int x4)] [] s) (h : fM_county_J138 k89 x1 x2 v0 s = some (r0, s1)) : WB G X 138 [(0, .ref (G.1 161)), (1, .int x1), (2, .int x2)] [.int v0] s := by
  unfold fM_county_J138 at h
  refine wb_istore_n (loc' := [(3, .int v0), (0, .ref (G.1 161)), (1, .int x1), (2, .int x2)]) hX hN dX11_county_138 (by decide) rfl (pq := 139) rfl ?_
  refine wb_iinc (v := (x2 + iI (1))) (loc' := [(2, .int (x2 + iI (1))), (3, .int v0), (0, .ref (G.1 161)), (1, .int x1)]) 3 hX hN dX11_county_139 rfl rfl (by decide) rfl (pq := 142) rfl ?_
  refine wb_iload_n 1 hX dX11_county_142 rfl (pq := 143) rfl ?_
  refine wb_if_eq (tgt := 159) hX dX11_county_143 (by decide) (fun c_1 => ?_) (pq := 146) rfl (fun c_1 => ?_)
  · have h := ite_t c_1 h
    refine wb_sub [2, 3, 0, 1] (loc' := [(0, .ref (G.1 161)), (1, .int x1), (2, .int (x2 + iI (1))), (3, .int v0)]) rfl ?_
    exact tM_county_J159 hX hQ hN hk89 h
  · have h := ite_f c_1 h
    refine wb_aload_n 2 hX dX11_county_146 rfl (pq := 147) rfl ?_
    refine wb_bipush (v := iI (59)) hX dX11_county_147 (by decide) (pq := 149) rfl ?_
    obtain ⟨q_3, hc_2, h⟩ := bind_s h
    refine wb_callVi (r0 := q_3.1) (s1 := q_3.2) [.int (iI (59))] hX sh_161 ml_1147 (tM_takes hc_2) (by decide) rfl rfl (Nat.le_of_ble_eq_true rfl) dX11_county_149 (pq := 152) rfl ?_
    refine wb_if_eq (tgt := 159) hX dX11_county_152 (by decide) (fun c_4 => ?_) (pq := 155) rfl (fun c_4 => ?_)
    · have h := ite_t c_4 h
      refine wb_sub [2, 3, 0, 1] (loc' := [(0, .ref (G.1 161)), (1, .int x1), (2, .int (x2 + iI (1))), (3, .int v0)]) rfl ?_
      exact tM_county_J159 hX hQ hN hk89 h
    · have h := ite_f c_4 h
      refine wb_iconst (v := iI (1)) hX dX11_county_155 rfl (pq := 156) rfl ?_
      refine wb_goto (tgt := 160) hX dX11_county_156 (by decide) ?_
      refine wb_sub [2, 3, 0, 1] (loc' := [(0, .ref (G.1 161)), (1, .int x1), (2, .int (x2 + iI (1))), (3, .int v0)]) rfl ?_
      exact tM_county_J160 hX hQ hN hk89 h
set_option maxHeartbeats 4000000 in
set_option maxRecDepth 100000 in
theorem tM_county_J134 {G : wG} {X : wX} {k89 : Int32 → Int32 → Int32 → wM → Option (Int32 × wM)} {x1 : Int32} {x2 : Int32} {s : wM} {r0 : Int32} {s1 : wM} (hX : wOK G X cX11_county RX11 (some .int) 3) (hQ : wRt G X (wQi G r0 s1)) (hN : wNl X = 7) (hk89 : ∀ (x2 : Int32) (x3 : Int32) (x4 : Int32) (s : wM), k89 x2 x3 x4 s = some (r0, s1) → WB G X 89 [(0, .ref (G.1 161)), (1, .int x1), (2, .int x2), (3, .int x3), (4, .int x4)] [] s) (h : fM_county_J134 k89 x1 x2 s = some (r0, s1)) : WB G X 134 [(0, .ref (G.1 161)), (1, .int x1), (2, .int x2)] [] s := by
  unfold fM_county_J134 at h
  refine wb_aload_n 0 hX dX11_county_134 rfl (pq := 135) rfl ?_
  obtain ⟨q_2, hc_1, h⟩ := bind_s h
  refine wb_callVi (r0 := q_2.1) (s1 := q_2.2) [] hX sh_161 ml_1154 (tM_readsTouch hc_1) (by decide) rfl rfl (Nat.le_of_ble_eq_true rfl) dX11_county_135 (pq := 138) rfl ?_
  exact tM_county_J138 hX hQ hN hk89 h
set_option maxHeartbeats 4000000 in
set_option maxRecDepth 100000 in
theorem tM_county_J287 {G : wG} {X : wX} {k186 : Int32 → wM → Option (Int32 × wM)} {x1 : Int32} {x2 : Int32} {x6 : Int32} {v0 : Int32} {v1 : Int32} {s : wM} {r0 : Int32} {s1 : wM} (hX : wOK G X cX11_county RX11 (some .int) 3) (hQ : wRt G X (wQi G r0 s1)) (hN : wNl X = 7) (hk186 : ∀ (x6 : Int32) (s : wM), k186 x6 s = some (r0, s1) → WB G X 186 [(0, .ref (G.1 161)), (1, .int x1), (2, .int x2), (6, .int x6)] [] s) (h : fM_county_J287 k186 x1 x2 x6 v0 v1 s = some (r0, s1)) : WB G X 287 [(0, .ref (G.1 161)), (1, .int x1), (2, .int x2), (6, .int x6)] [.int v0, .int v1, .ref (G.1 167)] s := by
  unfold fM_county_J287 at h
  obtain ⟨hi_1, h⟩ := chk_some h
  refine wb_iast hX sh_167 hi_1 dX11_county_287 (pq := 288) rfl ?_
  refine wb_mem (fun s_2 es_2 => ?_)
  have h := nmM_s h s_2 es_2
  refine wb_aload_n 0 hX dX11_county_288 rfl (pq := 289) rfl ?_
  refine wb_getR hX fl_1524 sh_161 rfl dX11_county_289 (pq := 292) rfl ?_
  refine wb_iload 3 hX dX11_county_292 rfl (pq := 294) rfl ?_
  refine wb_aload_n 0 hX dX11_county_294 rfl (pq := 295) rfl ?_
  refine wb_getR hX fl_1536 sh_161 rfl dX11_county_295 (pq := 298) rfl ?_
  refine wb_iload 3 hX dX11_county_298 rfl (pq := 300) rfl ?_
  obtain ⟨hi_3, h⟩ := chk_some h
  refine wb_iald hX sh_172 hi_3 dX11_county_300 (pq := 301) rfl ?_
  refine wb_iast hX sh_165 hi_3 dX11_county_301 (pq := 302) rfl ?_
  refine wb_mem (fun s_4 es_4 => ?_)
  have h := nmM_s h s_4 es_4
  refine wb_iinc (v := (x6 + iI (1))) (loc' := [(6, .int (x6 + iI (1))), (0, .ref (G.1 161)), (1, .int x1), (2, .int x2)]) 3 hX hN dX11_county_302 rfl rfl (by decide) rfl (pq := 305) rfl ?_
  refine wb_goto (tgt := 186) hX dX11_county_305 (by decide) ?_
  refine wb_sub [1, 2, 3, 0] (loc' := [(0, .ref (G.1 161)), (1, .int x1), (2, .int x2), (6, .int (x6 + iI (1)))]) rfl ?_
  exact hk186 _ _ h
set_option maxHeartbeats 4000000 in
set_option maxRecDepth 100000 in
theorem tM_county_J260 {G : wG} {X : wX} {k186 : Int32 → wM → Option (Int32 × wM)} {x1 : Int32} {x2 : Int32} {x6 : Int32} {v0 : Int32} {v1 : Int32} {s : wM} {r0 : Int32} {s1 : wM} (hX : wOK G X cX11_county RX11 (some .int) 3) (hQ : wRt G X (wQi G r0 s1)) (hN : wNl X = 7) (hk186 : ∀ (x6 : Int32) (s : wM), k186 x6 s = some (r0, s1) → WB G X 186 [(0, .ref (G.1 161)), (1, .int x1), (2, .int x2), (6, .int x6)] [] s) (h : fM_county_J260 k186 x1 x2 x6 v0 v1 s = some (r0, s1)) : WB G X 260 [(0, .ref (G.1 161)), (1, .int x1), (2, .int x2), (6, .int x6)] [.int v0, .int v1, .ref (G.1 164)] s := by
  unfold fM_county_J260 at h
  obtain ⟨hi_1, h⟩ := chk_some h
  refine wb_iast hX sh_164 hi_1 dX11_county_260 (pq := 261) rfl ?_
  refine wb_mem (fun s_2 es_2 => ?_)
  have h := nmM_s h s_2 es_2
  refine wb_aload_n 0 hX dX11_county_261 rfl (pq := 262) rfl ?_
  refine wb_getR hX fl_1526 sh_161 rfl dX11_county_262 (pq := 265) rfl ?_
  refine wb_iload 3 hX dX11_county_265 rfl (pq := 267) rfl ?_
  refine wb_iload 3 hX dX11_county_267 rfl (pq := 269) rfl ?_
  refine wb_aload_n 0 hX dX11_county_269 rfl (pq := 270) rfl ?_
  refine wb_getI hX fl_1521 sh_161 rfl dX11_county_270 (pq := 273) rfl ?_
  refine wb_icmp_ge (tgt := 286) hX dX11_county_273 (by decide) (fun c_3 => ?_) (pq := 276) rfl (fun c_3 => ?_)
  · have h := ite_t c_3 h
    refine wb_iconst (v := iI (0)) hX dX11_county_286 rfl (pq := 287) rfl ?_
    exact tM_county_J287 hX hQ hN hk186 h
  · have h := ite_f c_3 h
    refine wb_aload_n 0 hX dX11_county_276 rfl (pq := 277) rfl ?_
    refine wb_getR hX fl_1526 sh_161 rfl dX11_county_277 (pq := 280) rfl ?_
    refine wb_iload 3 hX dX11_county_280 rfl (pq := 282) rfl ?_
    obtain ⟨hi_4, h⟩ := chk_some h
    refine wb_iald hX sh_167 hi_4 dX11_county_282 (pq := 283) rfl ?_
    refine wb_goto (tgt := 287) hX dX11_county_283 (by decide) ?_
    exact tM_county_J287 hX hQ hN hk186 h
set_option maxHeartbeats 4000000 in
set_option maxRecDepth 100000 in
theorem tM_county_J227 {G : wG} {X : wX} {k186 : Int32 → wM → Option (Int32 × wM)} {x1 : Int32} {x2 : Int32} {x6 : Int32} {v0 : Int32} {v1 : Int32} {s : wM} {r0 : Int32} {s1 : wM} (hX : wOK G X cX11_county RX11 (some .int) 3) (hQ : wRt G X (wQi G r0 s1)) (hN : wNl X = 7) (hk186 : ∀ (x6 : Int32) (s : wM), k186 x6 s = some (r0, s1) → WB G X 186 [(0, .ref (G.1 161)), (1, .int x1), (2, .int x2), (6, .int x6)] [] s) (h : fM_county_J227 k186 x1 x2 x6 v0 v1 s = some (r0, s1)) : WB G X 227 [(0, .ref (G.1 161)), (1, .int x1), (2, .int x2), (6, .int x6)] [.int v0, .int v1, .ref (G.1 163)] s := by
  unfold fM_county_J227 at h
  obtain ⟨hi_1, h⟩ := chk_some h
  refine wb_iast hX sh_163 hi_1 dX11_county_227 (pq := 228) rfl ?_
  refine wb_mem (fun s_2 es_2 => ?_)
  have h := nmM_s h s_2 es_2
  refine wb_aload_n 0 hX dX11_county_228 rfl (pq := 229) rfl ?_
  refine wb_getR hX fl_1523 sh_161 rfl dX11_county_229 (pq := 232) rfl ?_
  refine wb_iload 3 hX dX11_county_232 rfl (pq := 234) rfl ?_
  refine wb_iload 3 hX dX11_county_234 rfl (pq := 236) rfl ?_
  refine wb_aload_n 0 hX dX11_county_236 rfl (pq := 237) rfl ?_
  refine wb_getI hX fl_1521 sh_161 rfl dX11_county_237 (pq := 240) rfl ?_
  refine wb_icmp_ge (tgt := 253) hX dX11_county_240 (by decide) (fun c_3 => ?_) (pq := 243) rfl (fun c_3 => ?_)
  · have h := ite_t c_3 h
    refine wb_aload_n 0 hX dX11_county_253 rfl (pq := 254) rfl ?_
    refine wb_getR hX fl_1535 sh_161 rfl dX11_county_254 (pq := 257) rfl ?_
    refine wb_iload 3 hX dX11_county_257 rfl (pq := 259) rfl ?_
    obtain ⟨hi_4, h⟩ := chk_some h
    refine wb_iald hX sh_171 hi_4 dX11_county_259 (pq := 260) rfl ?_
    exact tM_county_J260 hX hQ hN hk186 h
  · have h := ite_f c_3 h
    refine wb_aload_n 0 hX dX11_county_243 rfl (pq := 244) rfl ?_
    refine wb_getR hX fl_1523 sh_161 rfl dX11_county_244 (pq := 247) rfl ?_
    refine wb_iload 3 hX dX11_county_247 rfl (pq := 249) rfl ?_
    obtain ⟨hi_5, h⟩ := chk_some h
    refine wb_iald hX sh_164 hi_5 dX11_county_249 (pq := 250) rfl ?_
    refine wb_goto (tgt := 260) hX dX11_county_250 (by decide) ?_
    exact tM_county_J260 hX hQ hN hk186 h
set_option maxHeartbeats 4000000 in
set_option maxRecDepth 100000 in
theorem tM_county_J359 {G : wG} {X : wX} {x2 : Int32} {v0 : Int32} {s : wM} {r0 : Int32} {s1 : wM} (hX : wOK G X cX11_county RX11 (some .int) 3) (hQ : wRt G X (wQi G r0 s1)) (hN : wNl X = 7) (h : fM_county_J359 x2 v0 s = some (r0, s1)) : WB G X 359 [(2, .int x2)] [.int v0, .ref (G.1 161)] s := by
  unfold fM_county_J359 at h
  refine wb_putI hX fp_1538 sh_161 rfl dX11_county_359 rfl rfl (pq := 362) rfl ?_
  refine wb_mem (fun s_1 es_1 => ?_)
  have h := nmM_s h s_1 es_1
  refine wb_iload_n 0 hX dX11_county_362 rfl (pq := 363) rfl ?_
  exact wb_iret hX hQ h dX11_county_363
set_option maxHeartbeats 4000000 in
set_option maxRecDepth 100000 in
theorem tM_county_L311 {G : wG} {X : wX} {x1 : Int32} {x2 : Int32} {r0 : Int32} {s1 : wM} (hX : wOK G X cX11_county RX11 (some .int) 3) (hQ : wRt G X (wQi G r0 s1)) (hN : wNl X = 7) : ∀ (n : Nat) (x6 : Int32) (s : wM), wh2 (fM_county_L311 x1 x2) n x6 s = some (r0, s1) → WB G X 311 [(0, .ref (G.1 161)), (1, .int x1), (2, .int x2), (6, .int x6)] [] s := by
  intro n
  induction n with
  | zero => intro x6 s h; cases h
  | succ n hk311 =>
    intro x6 s h
    have h : fM_county_L311 x1 x2 x6 s (wh2 (fM_county_L311 x1 x2) n) = some (r0, s1) := h
    unfold fM_county_L311 at h
    refine wb_iload 3 hX dX11_county_311 rfl (pq := 313) rfl ?_
    refine wb_bipush (v := iI (81)) hX dX11_county_313 (by decide) (pq := 315) rfl ?_
    refine wb_icmp_ge (tgt := 338) hX dX11_county_315 (by decide) (fun c_1 => ?_) (pq := 318) rfl (fun c_1 => ?_)
    · have h := ite_t c_1 h
      refine wb_aload_n 0 hX dX11_county_338 rfl (pq := 339) rfl ?_
      refine wb_aload_n 0 hX dX11_county_339 rfl (pq := 340) rfl ?_
      refine wb_getI hX fl_1533 sh_161 rfl dX11_county_340 (pq := 343) rfl ?_
      refine wb_putI hX fp_1521 sh_161 rfl dX11_county_343 rfl rfl (pq := 346) rfl ?_
      refine wb_mem (fun s_2 es_2 => ?_)
      have h := nmM_s h s_2 es_2
      refine wb_aload_n 0 hX dX11_county_346 rfl (pq := 347) rfl ?_
      refine wb_iload_n 1 hX dX11_county_347 rfl (pq := 348) rfl ?_
      refine wb_if_le (tgt := 355) hX dX11_county_348 (by decide) (fun c_3 => ?_) (pq := 351) rfl (fun c_3 => ?_)
      · have h := ite_t c_3 h
        refine wb_aload_n 0 hX dX11_county_355 rfl (pq := 356) rfl ?_
        refine wb_getI hX fl_1538 sh_161 rfl dX11_county_356 (pq := 359) rfl ?_
        refine wb_sub [2] (loc' := [(2, .int x2)]) rfl ?_
        exact tM_county_J359 hX hQ hN h
      · have h := ite_f c_3 h
        refine wb_iconst (v := iI (0)) hX dX11_county_351 rfl (pq := 352) rfl ?_
        refine wb_goto (tgt := 359) hX dX11_county_352 (by decide) ?_
        refine wb_sub [2] (loc' := [(2, .int x2)]) rfl ?_
        exact tM_county_J359 hX hQ hN h
    · have h := ite_f c_1 h
      refine wb_aload_n 0 hX dX11_county_318 rfl (pq := 319) rfl ?_
      refine wb_getR hX fl_1525 sh_161 rfl dX11_county_319 (pq := 322) rfl ?_
      refine wb_iload 3 hX dX11_county_322 rfl (pq := 324) rfl ?_
      refine wb_aload_n 0 hX dX11_county_324 rfl (pq := 325) rfl ?_
      refine wb_getR hX fl_1537 sh_161 rfl dX11_county_325 (pq := 328) rfl ?_
      refine wb_iload 3 hX dX11_county_328 rfl (pq := 330) rfl ?_
      obtain ⟨hi_4, h⟩ := chk_some h
      refine wb_iald hX sh_173 hi_4 dX11_county_330 (pq := 331) rfl ?_
      refine wb_iast hX sh_166 hi_4 dX11_county_331 (pq := 332) rfl ?_
      refine wb_mem (fun s_5 es_5 => ?_)
      have h := nmM_s h s_5 es_5
      refine wb_iinc (v := (x6 + iI (1))) (loc' := [(6, .int (x6 + iI (1))), (0, .ref (G.1 161)), (1, .int x1), (2, .int x2)]) 3 hX hN dX11_county_332 rfl rfl (by decide) rfl (pq := 335) rfl ?_
      refine wb_goto (tgt := 311) hX dX11_county_335 (by decide) ?_
      refine wb_sub [1, 2, 3, 0] (loc' := [(0, .ref (G.1 161)), (1, .int x1), (2, .int x2), (6, .int (x6 + iI (1)))]) rfl ?_
      exact hk311 _ _ h
set_option maxHeartbeats 4000000 in
set_option maxRecDepth 100000 in
theorem tM_county_L186 {G : wG} {X : wX} {x1 : Int32} {x2 : Int32} {r0 : Int32} {s1 : wM} (hX : wOK G X cX11_county RX11 (some .int) 3) (hQ : wRt G X (wQi G r0 s1)) (hN : wNl X = 7) : ∀ (n : Nat) (x6 : Int32) (s : wM), wh2 (fM_county_L186 x1 x2) n x6 s = some (r0, s1) → WB G X 186 [(0, .ref (G.1 161)), (1, .int x1), (2, .int x2), (6, .int x6)] [] s := by
  intro n
  induction n with
  | zero => intro x6 s h; cases h
  | succ n hk186 =>
    intro x6 s h
    have h : fM_county_L186 x1 x2 x6 s (wh2 (fM_county_L186 x1 x2) n) = some (r0, s1) := h
    unfold fM_county_L186 at h
    refine wb_iload 3 hX dX11_county_186 rfl (pq := 188) rfl ?_
    refine wb_aload_n 0 hX dX11_county_188 rfl (pq := 189) rfl ?_
    refine wb_getI hX fl_1533 sh_161 rfl dX11_county_189 (pq := 192) rfl ?_
    refine wb_icmp_ge (tgt := 308) hX dX11_county_192 (by decide) (fun c_1 => ?_) (pq := 195) rfl (fun c_1 => ?_)
    · have h := ite_t c_1 h
      refine wb_iconst (v := iI (0)) hX dX11_county_308 rfl (pq := 309) rfl ?_
      refine wb_istore (loc' := [(6, .int (iI (0))), (0, .ref (G.1 161)), (1, .int x1), (2, .int x2)]) hX hN dX11_county_309 (by decide) rfl (pq := 311) rfl ?_
      refine wb_sub [1, 2, 3, 0] (loc' := [(0, .ref (G.1 161)), (1, .int x1), (2, .int x2), (6, .int (iI (0)))]) rfl ?_
      exact tM_county_L311 hX hQ hN 100000 _ _ h
    · have h := ite_f c_1 h
      refine wb_aload_n 0 hX dX11_county_195 rfl (pq := 196) rfl ?_
      refine wb_getR hX fl_1522 sh_161 rfl dX11_county_196 (pq := 199) rfl ?_
      refine wb_iload 3 hX dX11_county_199 rfl (pq := 201) rfl ?_
      refine wb_iload 3 hX dX11_county_201 rfl (pq := 203) rfl ?_
      refine wb_aload_n 0 hX dX11_county_203 rfl (pq := 204) rfl ?_
      refine wb_getI hX fl_1521 sh_161 rfl dX11_county_204 (pq := 207) rfl ?_
      refine wb_icmp_ge (tgt := 220) hX dX11_county_207 (by decide) (fun c_2 => ?_) (pq := 210) rfl (fun c_2 => ?_)
      · have h := ite_t c_2 h
        refine wb_aload_n 0 hX dX11_county_220 rfl (pq := 221) rfl ?_
        refine wb_getR hX fl_1534 sh_161 rfl dX11_county_221 (pq := 224) rfl ?_
        refine wb_iload 3 hX dX11_county_224 rfl (pq := 226) rfl ?_
        obtain ⟨hi_3, h⟩ := chk_some h
        refine wb_iald hX sh_170 hi_3 dX11_county_226 (pq := 227) rfl ?_
        exact tM_county_J227 hX hQ hN hk186 h
      · have h := ite_f c_2 h
        refine wb_aload_n 0 hX dX11_county_210 rfl (pq := 211) rfl ?_
        refine wb_getR hX fl_1522 sh_161 rfl dX11_county_211 (pq := 214) rfl ?_
        refine wb_iload 3 hX dX11_county_214 rfl (pq := 216) rfl ?_
        obtain ⟨hi_4, h⟩ := chk_some h
        refine wb_iald hX sh_163 hi_4 dX11_county_216 (pq := 217) rfl ?_
        refine wb_goto (tgt := 227) hX dX11_county_217 (by decide) ?_
        exact tM_county_J227 hX hQ hN hk186 h
set_option maxHeartbeats 4000000 in
set_option maxRecDepth 100000 in
theorem tM_county_L89 {G : wG} {X : wX} {x1 : Int32} {r0 : Int32} {s1 : wM} (hX : wOK G X cX11_county RX11 (some .int) 3) (hQ : wRt G X (wQi G r0 s1)) (hN : wNl X = 7) : ∀ (n : Nat) (x2 : Int32) (x3 : Int32) (x4 : Int32) (s : wM), wh4 (fM_county_L89 x1) n x2 x3 x4 s = some (r0, s1) → WB G X 89 [(0, .ref (G.1 161)), (1, .int x1), (2, .int x2), (3, .int x3), (4, .int x4)] [] s := by
  intro n
  induction n with
  | zero => intro x2 x3 x4 s h; cases h
  | succ n hk89 =>
    intro x2 x3 x4 s h
    have h : fM_county_L89 x1 x2 x3 x4 s (wh4 (fM_county_L89 x1) n) = some (r0, s1) := h
    unfold fM_county_L89 at h
    refine wb_iload 4 hX dX11_county_89 rfl (pq := 91) rfl ?_
    refine wb_if_eq (tgt := 165) hX dX11_county_91 (by decide) (fun c_1 => ?_) (pq := 94) rfl (fun c_1 => ?_)
    · have h := ite_t c_1 h
      refine wb_aload_n 0 hX dX11_county_165 rfl (pq := 166) rfl ?_
      refine wb_iload_n 1 hX dX11_county_166 rfl (pq := 167) rfl ?_
      refine wb_bipush (v := iI (76)) hX dX11_county_167 (by decide) (pq := 169) rfl ?_
      refine wb_iload_n 3 hX dX11_county_169 rfl (pq := 170) rfl ?_
      obtain ⟨q_3, hc_2, h⟩ := bind_s h
      refine wb_callVi (r0 := q_3) (s1 := s) [.int x1, .int (iI (76)), .int x3] hX sh_161 ml_1162 (tM_faultOf hc_2) (by decide) rfl rfl (Nat.le_of_ble_eq_true rfl) dX11_county_170 (pq := 173) rfl ?_
      refine wb_istore (loc' := [(5, .int q_3), (0, .ref (G.1 161)), (1, .int x1), (2, .int x2), (3, .int x3), (4, .int x4)]) hX hN dX11_county_173 (by decide) rfl (pq := 175) rfl ?_
      refine wb_iload 0 hX dX11_county_175 rfl (pq := 177) rfl ?_
      refine wb_if_ge (tgt := 183) hX dX11_county_177 (by decide) (fun c_4 => ?_) (pq := 180) rfl (fun c_4 => ?_)
      · have h := ite_t c_4 h
        refine wb_iconst (v := iI (0)) hX dX11_county_183 rfl (pq := 184) rfl ?_
        refine wb_istore (loc' := [(6, .int (iI (0))), (5, .int q_3), (0, .ref (G.1 161)), (1, .int x1), (2, .int x2), (3, .int x3), (4, .int x4)]) hX hN dX11_county_184 (by decide) rfl (pq := 186) rfl ?_
        refine wb_sub [2, 3, 4, 0] (loc' := [(0, .ref (G.1 161)), (1, .int x1), (2, .int x2), (6, .int (iI (0)))]) rfl ?_
        exact tM_county_L186 hX hQ hN 100000 _ _ h
      · have h := ite_f c_4 h
        refine wb_iload 0 hX dX11_county_180 rfl (pq := 182) rfl ?_
        exact wb_iret hX hQ h dX11_county_182
    · have h := ite_f c_1 h
      refine wb_aload_n 0 hX dX11_county_94 rfl (pq := 95) rfl ?_
      refine wb_getI hX fl_1531 sh_161 rfl dX11_county_95 (pq := 98) rfl ?_
      refine wb_aload_n 0 hX dX11_county_98 rfl (pq := 99) rfl ?_
      refine wb_getI hX fl_1532 sh_161 rfl dX11_county_99 (pq := 102) rfl ?_
      refine wb_icmp_ge (tgt := 134) hX dX11_county_102 (by decide) (fun c_5 => ?_) (pq := 105) rfl (fun c_5 => ?_)
      · have h := ite_t c_5 h
        refine wb_sub [0, 1, 2] (loc' := [(0, .ref (G.1 161)), (1, .int x1), (2, .int x2)]) rfl ?_
        exact tM_county_J134 hX hQ hN hk89 h
      · have h := ite_f c_5 h
        refine wb_aload_n 0 hX dX11_county_105 rfl (pq := 106) rfl ?_
        refine wb_getR hX fl_1529 sh_161 rfl dX11_county_106 (pq := 109) rfl ?_
        refine wb_aload_n 0 hX dX11_county_109 rfl (pq := 110) rfl ?_
        refine wb_getI hX fl_1531 sh_161 rfl dX11_county_110 (pq := 113) rfl ?_
        obtain ⟨hi_6, h⟩ := chk_some h
        refine wb_iald hX sh_169 hi_6 dX11_county_113 (pq := 114) rfl ?_
        refine wb_i2l hX dX11_county_114 (pq := 115) rfl ?_
        refine wb_ldc2 (v := (48 : Int64)) hX k_1137 dX11_county_115 (pq := 118) rfl ?_
        refine wb_ldc2 (v := (57 : Int64)) hX k_1138 dX11_county_118 (pq := 121) rfl ?_
        obtain ⟨q_8, hc_7, h⟩ := bind_s h
        refine wb_callSi (r0 := q_8) (s1 := s) [.long ((s.1 169 (s.1 161 13).toNatClampNeg).toInt64), .long (48 : Int64), .long (57 : Int64)] hX ml_1124 (tM_in hc_7) (by decide) rfl rfl (Nat.le_of_ble_eq_true rfl) dX11_county_121 (pq := 124) rfl ?_
        refine wb_if_eq (tgt := 134) hX dX11_county_124 (by decide) (fun c_9 => ?_) (pq := 127) rfl (fun c_9 => ?_)
        · have h := ite_t c_9 h
          refine wb_sub [0, 1, 2] (loc' := [(0, .ref (G.1 161)), (1, .int x1), (2, .int x2)]) rfl ?_
          exact tM_county_J134 hX hQ hN hk89 h
        · have h := ite_f c_9 h
          refine wb_aload_n 0 hX dX11_county_127 rfl (pq := 128) rfl ?_
          obtain ⟨q_11, hc_10, h⟩ := bind_s h
          refine wb_callVi (r0 := q_11.1) (s1 := q_11.2) [] hX sh_161 ml_1139 (tM_readsFarm hc_10) (by decide) rfl rfl (Nat.le_of_ble_eq_true rfl) dX11_county_128 (pq := 131) rfl ?_
          refine wb_goto (tgt := 138) hX dX11_county_131 (by decide) ?_
          refine wb_sub [0, 1, 2] (loc' := [(0, .ref (G.1 161)), (1, .int x1), (2, .int x2)]) rfl ?_
          exact tM_county_J138 hX hQ hN hk89 h
set_option maxHeartbeats 4000000 in
set_option maxRecDepth 100000 in
theorem tM_county_J87 {G : wG} {X : wX} {x1 : Int32} {x2 : Int32} {x3 : Int32} {v0 : Int32} {s : wM} {r0 : Int32} {s1 : wM} (hX : wOK G X cX11_county RX11 (some .int) 3) (hQ : wRt G X (wQi G r0 s1)) (hN : wNl X = 7) (h : fM_county_J87 x1 x2 x3 v0 s = some (r0, s1)) : WB G X 87 [(0, .ref (G.1 161)), (1, .int x1), (2, .int x2), (3, .int x3)] [.int v0] s := by
  unfold fM_county_J87 at h
  refine wb_istore (loc' := [(4, .int v0), (0, .ref (G.1 161)), (1, .int x1), (2, .int x2), (3, .int x3)]) hX hN dX11_county_87 (by decide) rfl (pq := 89) rfl ?_
  refine wb_sub [1, 2, 3, 4, 0] (loc' := [(0, .ref (G.1 161)), (1, .int x1), (2, .int x2), (3, .int x3), (4, .int v0)]) rfl ?_
  exact tM_county_L89 hX hQ hN 100000 _ _ _ _ h
set_option maxHeartbeats 4000000 in
set_option maxRecDepth 100000 in
theorem tM_county_L48 {G : wG} {X : wX} {x1 : Int32} {r0 : Int32} {s1 : wM} (hX : wOK G X cX11_county RX11 (some .int) 3) (hQ : wRt G X (wQi G r0 s1)) (hN : wNl X = 7) : ∀ (n : Nat) (x2 : Int32) (s : wM), wh2 (fM_county_L48 x1) n x2 s = some (r0, s1) → WB G X 48 [(0, .ref (G.1 161)), (1, .int x1), (2, .int x2)] [] s := by
  intro n
  induction n with
  | zero => intro x2 s h; cases h
  | succ n hk48 =>
    intro x2 s h
    have h : fM_county_L48 x1 x2 s (wh2 (fM_county_L48 x1) n) = some (r0, s1) := h
    unfold fM_county_L48 at h
    refine wb_iload_n 2 hX dX11_county_48 rfl (pq := 49) rfl ?_
    refine wb_aload_n 0 hX dX11_county_49 rfl (pq := 50) rfl ?_
    refine wb_getI hX fl_1521 sh_161 rfl dX11_county_50 (pq := 53) rfl ?_
    refine wb_icmp_ge (tgt := 74) hX dX11_county_53 (by decide) (fun c_1 => ?_) (pq := 56) rfl (fun c_1 => ?_)
    · have h := ite_t c_1 h
      refine wb_iconst (v := iI (0)) hX dX11_county_74 rfl (pq := 75) rfl ?_
      refine wb_istore_n (loc' := [(2, .int (iI (0))), (0, .ref (G.1 161)), (1, .int x1)]) hX hN dX11_county_75 (by decide) rfl (pq := 76) rfl ?_
      refine wb_iconst (v := iI (1)) hX dX11_county_76 rfl (pq := 77) rfl ?_
      refine wb_istore_n (loc' := [(3, .int (iI (1))), (2, .int (iI (0))), (0, .ref (G.1 161)), (1, .int x1)]) hX hN dX11_county_77 (by decide) rfl (pq := 78) rfl ?_
      refine wb_iload_n 3 hX dX11_county_78 rfl (pq := 79) rfl ?_
      refine wb_if_le (tgt := 86) hX dX11_county_79 (by decide) (fun c_2 => ?_) (pq := 82) rfl (fun c_2 => ?_)
      · have h := ite_t c_2 h
        refine wb_iconst (v := iI (0)) hX dX11_county_86 rfl (pq := 87) rfl ?_
        refine wb_sub [2, 3, 1, 0] (loc' := [(0, .ref (G.1 161)), (1, .int x1), (2, .int (iI (0))), (3, .int (iI (1)))]) rfl ?_
        exact tM_county_J87 hX hQ hN h
      · have h := ite_f c_2 h
        refine wb_iconst (v := iI (1)) hX dX11_county_82 rfl (pq := 83) rfl ?_
        refine wb_goto (tgt := 87) hX dX11_county_83 (by decide) ?_
        refine wb_sub [2, 3, 1, 0] (loc' := [(0, .ref (G.1 161)), (1, .int x1), (2, .int (iI (0))), (3, .int (iI (1)))]) rfl ?_
        exact tM_county_J87 hX hQ hN h
    · have h := ite_f c_1 h
      refine wb_aload_n 0 hX dX11_county_56 rfl (pq := 57) rfl ?_
      refine wb_getR hX fl_1536 sh_161 rfl dX11_county_57 (pq := 60) rfl ?_
      refine wb_iload_n 2 hX dX11_county_60 rfl (pq := 61) rfl ?_
      refine wb_aload_n 0 hX dX11_county_61 rfl (pq := 62) rfl ?_
      refine wb_getR hX fl_1524 sh_161 rfl dX11_county_62 (pq := 65) rfl ?_
      refine wb_iload_n 2 hX dX11_county_65 rfl (pq := 66) rfl ?_
      obtain ⟨hi_3, h⟩ := chk_some h
      refine wb_iald hX sh_165 hi_3 dX11_county_66 (pq := 67) rfl ?_
      refine wb_iast hX sh_172 hi_3 dX11_county_67 (pq := 68) rfl ?_
      refine wb_mem (fun s_4 es_4 => ?_)
      have h := nmM_s h s_4 es_4
      refine wb_iinc (v := (x2 + iI (1))) (loc' := [(2, .int (x2 + iI (1))), (0, .ref (G.1 161)), (1, .int x1)]) 2 hX hN dX11_county_68 rfl rfl (by decide) rfl (pq := 71) rfl ?_
      refine wb_goto (tgt := 48) hX dX11_county_71 (by decide) ?_
      refine wb_sub [1, 2, 0] (loc' := [(0, .ref (G.1 161)), (1, .int x1), (2, .int (x2 + iI (1)))]) rfl ?_
      exact hk48 _ _ h
set_option maxHeartbeats 4000000 in
set_option maxRecDepth 100000 in
theorem tM_county_L22 {G : wG} {X : wX} {x1 : Int32} {r0 : Int32} {s1 : wM} (hX : wOK G X cX11_county RX11 (some .int) 3) (hQ : wRt G X (wQi G r0 s1)) (hN : wNl X = 7) : ∀ (n : Nat) (x2 : Int32) (s : wM), wh2 (fM_county_L22 x1) n x2 s = some (r0, s1) → WB G X 22 [(0, .ref (G.1 161)), (1, .int x1), (2, .int x2)] [] s := by
  intro n
  induction n with
  | zero => intro x2 s h; cases h
  | succ n hk22 =>
    intro x2 s h
    have h : fM_county_L22 x1 x2 s (wh2 (fM_county_L22 x1) n) = some (r0, s1) := h
    unfold fM_county_L22 at h
    refine wb_iload_n 2 hX dX11_county_22 rfl (pq := 23) rfl ?_
    refine wb_bipush (v := iI (81)) hX dX11_county_23 (by decide) (pq := 25) rfl ?_
    refine wb_icmp_ge (tgt := 46) hX dX11_county_25 (by decide) (fun c_1 => ?_) (pq := 28) rfl (fun c_1 => ?_)
    · have h := ite_t c_1 h
      refine wb_iconst (v := iI (0)) hX dX11_county_46 rfl (pq := 47) rfl ?_
      refine wb_istore_n (loc' := [(2, .int (iI (0))), (0, .ref (G.1 161)), (1, .int x1)]) hX hN dX11_county_47 (by decide) rfl (pq := 48) rfl ?_
      refine wb_sub [1, 2, 0] (loc' := [(0, .ref (G.1 161)), (1, .int x1), (2, .int (iI (0)))]) rfl ?_
      exact tM_county_L48 hX hQ hN 100000 _ _ h
    · have h := ite_f c_1 h
      refine wb_aload_n 0 hX dX11_county_28 rfl (pq := 29) rfl ?_
      refine wb_getR hX fl_1537 sh_161 rfl dX11_county_29 (pq := 32) rfl ?_
      refine wb_iload_n 2 hX dX11_county_32 rfl (pq := 33) rfl ?_
      refine wb_aload_n 0 hX dX11_county_33 rfl (pq := 34) rfl ?_
      refine wb_getR hX fl_1525 sh_161 rfl dX11_county_34 (pq := 37) rfl ?_
      refine wb_iload_n 2 hX dX11_county_37 rfl (pq := 38) rfl ?_
      obtain ⟨hi_2, h⟩ := chk_some h
      refine wb_iald hX sh_166 hi_2 dX11_county_38 (pq := 39) rfl ?_
      refine wb_iast hX sh_173 hi_2 dX11_county_39 (pq := 40) rfl ?_
      refine wb_mem (fun s_3 es_3 => ?_)
      have h := nmM_s h s_3 es_3
      refine wb_iinc (v := (x2 + iI (1))) (loc' := [(2, .int (x2 + iI (1))), (0, .ref (G.1 161)), (1, .int x1)]) 2 hX hN dX11_county_40 rfl rfl (by decide) rfl (pq := 43) rfl ?_
      refine wb_goto (tgt := 22) hX dX11_county_43 (by decide) ?_
      refine wb_sub [1, 2, 0] (loc' := [(0, .ref (G.1 161)), (1, .int x1), (2, .int (x2 + iI (1)))]) rfl ?_
      exact hk22 _ _ h
set_option maxHeartbeats 4000000 in
set_option maxRecDepth 100000 in
theorem tM_county {l : Launch} {G : wG} {s : wM} {r0 : Int32} {s1 : wM} (h : fM_county s = some (r0, s1)) : wMet l G yX11_county cX11_county 7 (some .int) 3 [.ref (G.1 161)] s (wQi G r0 s1) := by
  refine wMet_of (own := RX11) (by decide +kernel) rfl (Nat.le_of_ble_eq_true rfl) ?_
  intro X hX hQ hN hl
  show WB G X 0 [(0, .ref (G.1 161))] [] s
  unfold fM_county at h
  refine wb_aload_n 0 hX dX11_county_0 rfl (pq := 1) rfl ?_
  refine wb_iconst (v := iI (0)) hX dX11_county_1 rfl (pq := 2) rfl ?_
  refine wb_putI hX fp_1518 sh_161 rfl dX11_county_2 rfl rfl (pq := 5) rfl ?_
  refine wb_mem (fun s_1 es_1 => ?_)
  have h := nmM_s h s_1 es_1
  refine wb_aload_n 0 hX dX11_county_5 rfl (pq := 6) rfl ?_
  refine wb_bipush (v := iI (76)) hX dX11_county_6 (by decide) (pq := 8) rfl ?_
  obtain ⟨q_3, hc_2, h⟩ := bind_s h
  refine wb_callVi (r0 := q_3.1) (s1 := q_3.2) [.int (iI (76))] hX sh_161 ml_1131 (tM_begins hc_2) (by decide) rfl rfl (Nat.le_of_ble_eq_true rfl) dX11_county_8 (pq := 11) rfl ?_
  refine wb_istore_n (loc' := [(1, .int q_3.1), (0, .ref (G.1 161))]) hX hN dX11_county_11 (by decide) rfl (pq := 12) rfl ?_
  refine wb_aload_n 1 hX dX11_county_12 rfl (pq := 13) rfl ?_
  refine wb_aload_n 1 hX dX11_county_13 rfl (pq := 14) rfl ?_
  refine wb_getI hX fl_1521 sh_161 rfl dX11_county_14 (pq := 17) rfl ?_
  refine wb_putI hX fp_1533 sh_161 rfl dX11_county_17 rfl rfl (pq := 20) rfl ?_
  refine wb_mem (fun s_4 es_4 => ?_)
  have h := nmM_s h s_4 es_4
  refine wb_iconst (v := iI (0)) hX dX11_county_20 rfl (pq := 21) rfl ?_
  refine wb_istore_n (loc' := [(2, .int (iI (0))), (1, .int q_3.1), (0, .ref (G.1 161))]) hX hN dX11_county_21 (by decide) rfl (pq := 22) rfl ?_
  refine wb_sub [2, 1, 0] (loc' := [(0, .ref (G.1 161)), (1, .int q_3.1), (2, .int (iI (0)))]) rfl ?_
  exact tM_county_L22 hX hQ hN 100000 _ _ h
