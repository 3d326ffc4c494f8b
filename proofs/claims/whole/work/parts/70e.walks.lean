set_option maxHeartbeats 4000000 in
set_option maxRecDepth 100000 in
theorem tM_isEven_J37 {G : wG} {X : wX} {v0 : Int32} {s : wM} {r0 : Int32} (hX : wOK G X cX11_isEven RX11 (some .boolean) 1) (hQ : wRt G X (wQi G r0 s)) (hN : wNl X = 4) (h : fM_isEven_J37 v0 s = some r0) : WB G X 37 [] [.int v0] s := by
  unfold fM_isEven_J37 at h
  obtain ⟨hz_1, h⟩ := chkZ_some h
  exact wb_zretP hX hQ h hz_1.1 dX11_isEven_37
set_option maxHeartbeats 4000000 in
set_option maxRecDepth 100000 in
theorem tM_isEven_J36 {G : wG} {X : wX} {s : wM} {r0 : Int32} (hX : wOK G X cX11_isEven RX11 (some .boolean) 1) (hQ : wRt G X (wQi G r0 s)) (hN : wNl X = 4) (h : fM_isEven_J36 s = some r0) : WB G X 36 [] [] s := by
  unfold fM_isEven_J36 at h
  refine wb_iconst (v := iI (0)) hX dX11_isEven_36 rfl (pq := 37) rfl ?_
  exact tM_isEven_J37 hX hQ hN h
set_option maxHeartbeats 4000000 in
set_option maxRecDepth 100000 in
theorem tM_isEven {l : Launch} {G : wG} {s : wM} {x1 : Nat} {x2 : Int32} {x3 : Int32} {r0 : Int32} (hx1 : wSh[x1]? = some (.inl (.int, 9, 0, 0))) (h : fM_isEven s x1 x2 x3 = some r0) : wMet l G yX11_isEven cX11_isEven 4 (some .boolean) 1 [.ref (G.1 161), .ref (G.1 x1), .int x2, .int x3] s (wQi G r0 s) := by
  refine wMet_of (own := RX11) (by decide +kernel) rfl (Nat.le_of_ble_eq_true rfl) ?_
  intro X hX hQ hN hl
  show WB G X 0 [(0, .ref (G.1 161)), (1, .ref (G.1 x1)), (2, .int x2), (3, .int x3)] [] s
  unfold fM_isEven at h
  refine wb_aload_n 0 hX dX11_isEven_0 rfl (pq := 1) rfl ?_
  refine wb_getR hX fl_1524 sh_161 rfl dX11_isEven_1 (pq := 4) rfl ?_
  refine wb_iload_n 2 hX dX11_isEven_4 rfl (pq := 5) rfl ?_
  obtain ⟨hi_1, h⟩ := chk_some h
  refine wb_iald hX sh_165 hi_1 dX11_isEven_5 (pq := 6) rfl ?_
  refine wb_iload_n 3 hX dX11_isEven_6 rfl (pq := 7) rfl ?_
  obtain ⟨q_3, hc_2, h⟩ := bind_s h
  refine wb_callSi (r0 := q_3) (s1 := s) [.int (s.1 165 x2.toNatClampNeg), .int x3] hX ml_1187 (tM_has hc_2) (by decide) rfl rfl (Nat.le_of_ble_eq_true rfl) dX11_isEven_7 (pq := 10) rfl ?_
  refine wb_if_eq (tgt := 36) hX dX11_isEven_10 (by decide) (fun c_4 => ?_) (pq := 13) rfl (fun c_4 => ?_)
  · have h := ite_t c_4 h
    refine wb_sub [] (loc' := []) rfl ?_
    exact tM_isEven_J36 hX hQ hN h
  · have h := ite_f c_4 h
    refine wb_aload_n 1 hX dX11_isEven_13 rfl (pq := 14) rfl ?_
    refine wb_iload_n 2 hX dX11_isEven_14 rfl (pq := 15) rfl ?_
    refine wb_iald hX hx1 hi_1 dX11_isEven_15 (pq := 16) rfl ?_
    refine wb_aload_n 1 hX dX11_isEven_16 rfl (pq := 17) rfl ?_
    refine wb_iload_n 3 hX dX11_isEven_17 rfl (pq := 18) rfl ?_
    obtain ⟨hi_5, h⟩ := chk_some h
    refine wb_iald hX hx1 hi_5 dX11_isEven_18 (pq := 19) rfl ?_
    refine wb_isub hX dX11_isEven_19 (pq := 20) rfl ?_
    refine wb_mabs hX k_1190 k_587 k_14 k_588 (Nat.le_of_ble_eq_true rfl) dX11_isEven_20 (pq := 23) rfl ?_
    refine wb_aload_n 0 hX dX11_isEven_23 rfl (pq := 24) rfl ?_
    refine wb_getR hX fl_1527 sh_161 rfl dX11_isEven_24 (pq := 27) rfl ?_
    refine wb_iconst (v := iI (0)) hX dX11_isEven_27 rfl (pq := 28) rfl ?_
    refine wb_iald hX sh_168 (by unfold vp_in; decide) dX11_isEven_28 (pq := 29) rfl ?_
    refine wb_icmp_ge (tgt := 36) hX dX11_isEven_29 (by decide) (fun c_6 => ?_) (pq := 32) rfl (fun c_6 => ?_)
    · have h := ite_t c_6 h
      refine wb_sub [] (loc' := []) rfl ?_
      exact tM_isEven_J36 hX hQ hN h
    · have h := ite_f c_6 h
      refine wb_iconst (v := iI (1)) hX dX11_isEven_32 rfl (pq := 33) rfl ?_
      refine wb_goto (tgt := 37) hX dX11_isEven_33 (by decide) ?_
      refine wb_sub [] (loc' := []) rfl ?_
      exact tM_isEven_J37 hX hQ hN h
set_option maxHeartbeats 4000000 in
set_option maxRecDepth 100000 in
theorem tM_evenWith_J40 {G : wG} {X : wX} {k5 : Int32 → Int32 → Option (Int32)} {x1 : Nat} {x2 : Int32} {x4 : Int32} {v0 : Int32} {v1 : Int32} {s : wM} {r0 : Int32} (hX : wOK G X cX11_evenWith RX11 (some .int) 2) (hQ : wRt G X (wQi G r0 s)) (hN : wNl X = 5) (hk5 : ∀ (x3 : Int32) (x4 : Int32), k5 x3 x4 = some r0 → WB G X 5 [(0, .ref (G.1 161)), (1, .ref (G.1 x1)), (2, .int x2), (3, .int x3), (4, .int x4)] [] s) (hx1 : wSh[x1]? = some (.inl (.int, 9, 0, 0))) (h : fM_evenWith_J40 k5 x1 x2 x4 v0 v1 s = some r0) : WB G X 40 [(0, .ref (G.1 161)), (1, .ref (G.1 x1)), (2, .int x2), (4, .int x4)] [.int v0, .int v1] s := by
  unfold fM_evenWith_J40 at h
  refine wb_ior hX dX11_evenWith_40 (pq := 41) rfl ?_
  refine wb_istore_n (loc' := [(3, .int (v1 ||| v0)), (0, .ref (G.1 161)), (1, .ref (G.1 x1)), (2, .int x2), (4, .int x4)]) hX hN dX11_evenWith_41 (by decide) rfl (pq := 42) rfl ?_
  refine wb_iinc (v := (x4 + iI (1))) (loc' := [(4, .int (x4 + iI (1))), (3, .int (v1 ||| v0)), (0, .ref (G.1 161)), (1, .ref (G.1 x1)), (2, .int x2)]) 4 hX hN dX11_evenWith_42 rfl rfl (by decide) rfl (pq := 45) rfl ?_
  refine wb_goto (tgt := 5) hX dX11_evenWith_45 (by decide) ?_
  refine wb_sub [2, 3, 4, 1, 0] (loc' := [(0, .ref (G.1 161)), (1, .ref (G.1 x1)), (2, .int x2), (3, .int (v1 ||| v0)), (4, .int (x4 + iI (1)))]) rfl ?_
  exact hk5 _ _ h
set_option maxHeartbeats 4000000 in
set_option maxRecDepth 100000 in
theorem tM_evenWith_J39 {G : wG} {X : wX} {k5 : Int32 → Int32 → Option (Int32)} {x1 : Nat} {x2 : Int32} {x4 : Int32} {v0 : Int32} {s : wM} {r0 : Int32} (hX : wOK G X cX11_evenWith RX11 (some .int) 2) (hQ : wRt G X (wQi G r0 s)) (hN : wNl X = 5) (hk5 : ∀ (x3 : Int32) (x4 : Int32), k5 x3 x4 = some r0 → WB G X 5 [(0, .ref (G.1 161)), (1, .ref (G.1 x1)), (2, .int x2), (3, .int x3), (4, .int x4)] [] s) (hx1 : wSh[x1]? = some (.inl (.int, 9, 0, 0))) (h : fM_evenWith_J39 k5 x1 x2 x4 v0 s = some r0) : WB G X 39 [(0, .ref (G.1 161)), (1, .ref (G.1 x1)), (2, .int x2), (4, .int x4)] [.int v0] s := by
  unfold fM_evenWith_J39 at h
  refine wb_iconst (v := iI (0)) hX dX11_evenWith_39 rfl (pq := 40) rfl ?_
  exact tM_evenWith_J40 hX hQ hN hk5 hx1 h
set_option maxHeartbeats 4000000 in
set_option maxRecDepth 100000 in
theorem tM_evenWith_L5 {G : wG} {X : wX} {x1 : Nat} {x2 : Int32} {s : wM} {r0 : Int32} (hX : wOK G X cX11_evenWith RX11 (some .int) 2) (hQ : wRt G X (wQi G r0 s)) (hN : wNl X = 5) (hx1 : wSh[x1]? = some (.inl (.int, 9, 0, 0))) : ∀ (n : Nat) (x3 : Int32) (x4 : Int32), wh2 (fM_evenWith_L5 x1 x2 s) n x3 x4 = some r0 → WB G X 5 [(0, .ref (G.1 161)), (1, .ref (G.1 x1)), (2, .int x2), (3, .int x3), (4, .int x4)] [] s := by
  intro n
  induction n with
  | zero => intro x3 x4 h; cases h
  | succ n hk5 =>
    intro x3 x4 h
    have h : fM_evenWith_L5 x1 x2 s x3 x4 (wh2 (fM_evenWith_L5 x1 x2 s) n) = some r0 := h
    unfold fM_evenWith_L5 at h
    refine wb_iload 4 hX dX11_evenWith_5 rfl (pq := 7) rfl ?_
    refine wb_aload_n 0 hX dX11_evenWith_7 rfl (pq := 8) rfl ?_
    refine wb_getI hX fl_1521 sh_161 rfl dX11_evenWith_8 (pq := 11) rfl ?_
    refine wb_icmp_ge (tgt := 48) hX dX11_evenWith_11 (by decide) (fun c_1 => ?_) (pq := 14) rfl (fun c_1 => ?_)
    · have h := ite_t c_1 h
      refine wb_iload_n 3 hX dX11_evenWith_48 rfl (pq := 49) rfl ?_
      exact wb_iretP hX hQ h dX11_evenWith_49
    · have h := ite_f c_1 h
      refine wb_iload_n 3 hX dX11_evenWith_14 rfl (pq := 15) rfl ?_
      refine wb_iload 4 hX dX11_evenWith_15 rfl (pq := 17) rfl ?_
      refine wb_iload_n 2 hX dX11_evenWith_17 rfl (pq := 18) rfl ?_
      refine wb_icmp_eq (tgt := 39) hX dX11_evenWith_18 (by decide) (fun c_2 => ?_) (pq := 21) rfl (fun c_2 => ?_)
      · have h := ite_t c_2 h
        refine wb_sub [0, 1, 2, 4] (loc' := [(0, .ref (G.1 161)), (1, .ref (G.1 x1)), (2, .int x2), (4, .int x4)]) rfl ?_
        exact tM_evenWith_J39 hX hQ hN hk5 hx1 h
      · have h := ite_f c_2 h
        refine wb_aload_n 0 hX dX11_evenWith_21 rfl (pq := 22) rfl ?_
        refine wb_aload_n 1 hX dX11_evenWith_22 rfl (pq := 23) rfl ?_
        refine wb_iload_n 2 hX dX11_evenWith_23 rfl (pq := 24) rfl ?_
        refine wb_iload 4 hX dX11_evenWith_24 rfl (pq := 26) rfl ?_
        obtain ⟨q_4, hc_3, h⟩ := bind_s h
        refine wb_callVi (r0 := q_4) (s1 := s) [.ref (G.1 x1), .int x2, .int x4] hX sh_161 ml_1183 (tM_isEven hx1 hc_3) (by decide) rfl rfl (Nat.le_of_ble_eq_true rfl) dX11_evenWith_26 (pq := 29) rfl ?_
        refine wb_if_eq (tgt := 39) hX dX11_evenWith_29 (by decide) (fun c_5 => ?_) (pq := 32) rfl (fun c_5 => ?_)
        · have h := ite_t c_5 h
          refine wb_sub [0, 1, 2, 4] (loc' := [(0, .ref (G.1 161)), (1, .ref (G.1 x1)), (2, .int x2), (4, .int x4)]) rfl ?_
          exact tM_evenWith_J39 hX hQ hN hk5 hx1 h
        · have h := ite_f c_5 h
          refine wb_iconst (v := iI (1)) hX dX11_evenWith_32 rfl (pq := 33) rfl ?_
          refine wb_iload 4 hX dX11_evenWith_33 rfl (pq := 35) rfl ?_
          refine wb_ishl hX dX11_evenWith_35 (pq := 36) rfl ?_
          refine wb_goto (tgt := 40) hX dX11_evenWith_36 (by decide) ?_
          refine wb_sub [0, 1, 2, 4] (loc' := [(0, .ref (G.1 161)), (1, .ref (G.1 x1)), (2, .int x2), (4, .int x4)]) rfl ?_
          exact tM_evenWith_J40 hX hQ hN hk5 hx1 h
set_option maxHeartbeats 4000000 in
set_option maxRecDepth 100000 in
theorem tM_evenWith {l : Launch} {G : wG} {s : wM} {x1 : Nat} {x2 : Int32} {r0 : Int32} (hx1 : wSh[x1]? = some (.inl (.int, 9, 0, 0))) (h : fM_evenWith s x1 x2 = some r0) : wMet l G yX11_evenWith cX11_evenWith 5 (some .int) 2 [.ref (G.1 161), .ref (G.1 x1), .int x2] s (wQi G r0 s) := by
  refine wMet_of (own := RX11) (by decide +kernel) rfl (Nat.le_of_ble_eq_true rfl) ?_
  intro X hX hQ hN hl
  show WB G X 0 [(0, .ref (G.1 161)), (1, .ref (G.1 x1)), (2, .int x2)] [] s
  unfold fM_evenWith at h
  refine wb_iconst (v := iI (0)) hX dX11_evenWith_0 rfl (pq := 1) rfl ?_
  refine wb_istore_n (loc' := [(3, .int (iI (0))), (0, .ref (G.1 161)), (1, .ref (G.1 x1)), (2, .int x2)]) hX hN dX11_evenWith_1 (by decide) rfl (pq := 2) rfl ?_
  refine wb_iconst (v := iI (0)) hX dX11_evenWith_2 rfl (pq := 3) rfl ?_
  refine wb_istore (loc' := [(4, .int (iI (0))), (3, .int (iI (0))), (0, .ref (G.1 161)), (1, .ref (G.1 x1)), (2, .int x2)]) hX hN dX11_evenWith_3 (by decide) rfl (pq := 5) rfl ?_
  refine wb_sub [2, 3, 4, 1, 0] (loc' := [(0, .ref (G.1 161)), (1, .ref (G.1 x1)), (2, .int x2), (3, .int (iI (0))), (4, .int (iI (0)))]) rfl ?_
  exact tM_evenWith_L5 hX hQ hN hx1 100000 _ _ h
set_option maxHeartbeats 4000000 in
set_option maxRecDepth 100000 in
theorem tM_evenPairs_L4 {G : wG} {X : wX} {x1 : Nat} {s : wM} {r0 : Int32} (hX : wOK G X cX11_evenPairs RX11 (some .int) 3) (hQ : wRt G X (wQi G r0 s)) (hN : wNl X = 4) (hx1 : wSh[x1]? = some (.inl (.int, 9, 0, 0))) : ∀ (n : Nat) (x2 : Int32) (x3 : Int32), wh2 (fM_evenPairs_L4 x1 s) n x2 x3 = some r0 → WB G X 4 [(0, .ref (G.1 161)), (1, .ref (G.1 x1)), (2, .int x2), (3, .int x3)] [] s := by
  intro n
  induction n with
  | zero => intro x2 x3 h; cases h
  | succ n hk4 =>
    intro x2 x3 h
    have h : fM_evenPairs_L4 x1 s x2 x3 (wh2 (fM_evenPairs_L4 x1 s) n) = some r0 := h
    unfold fM_evenPairs_L4 at h
    refine wb_iload_n 3 hX dX11_evenPairs_4 rfl (pq := 5) rfl ?_
    refine wb_aload_n 0 hX dX11_evenPairs_5 rfl (pq := 6) rfl ?_
    refine wb_getI hX fl_1521 sh_161 rfl dX11_evenPairs_6 (pq := 9) rfl ?_
    refine wb_icmp_ge (tgt := 30) hX dX11_evenPairs_9 (by decide) (fun c_1 => ?_) (pq := 12) rfl (fun c_1 => ?_)
    · have h := ite_t c_1 h
      refine wb_iload_n 2 hX dX11_evenPairs_30 rfl (pq := 31) rfl ?_
      refine wb_iconst (v := iI (2)) hX dX11_evenPairs_31 rfl (pq := 32) rfl ?_
      refine wb_idiv hX dX11_evenPairs_32 (by decide) (pq := 33) rfl ?_
      exact wb_iretP hX hQ h dX11_evenPairs_33
    · have h := ite_f c_1 h
      refine wb_iload_n 2 hX dX11_evenPairs_12 rfl (pq := 13) rfl ?_
      refine wb_aload_n 0 hX dX11_evenPairs_13 rfl (pq := 14) rfl ?_
      refine wb_aload_n 1 hX dX11_evenPairs_14 rfl (pq := 15) rfl ?_
      refine wb_iload_n 3 hX dX11_evenPairs_15 rfl (pq := 16) rfl ?_
      obtain ⟨q_3, hc_2, h⟩ := bind_s h
      refine wb_callVi (r0 := q_3) (s1 := s) [.ref (G.1 x1), .int x3] hX sh_161 ml_1179 (tM_evenWith hx1 hc_2) (by decide) rfl rfl (Nat.le_of_ble_eq_true rfl) dX11_evenPairs_16 (pq := 19) rfl ?_
      obtain ⟨q_5, hc_4, h⟩ := bind_s h
      refine wb_callSi (r0 := q_5) (s1 := s) [.int q_3] hX ml_1288 (tJ_bitCount hc_4) (by decide) rfl rfl (Nat.le_of_ble_eq_true rfl) dX11_evenPairs_19 (pq := 22) rfl ?_
      refine wb_iadd hX dX11_evenPairs_22 (pq := 23) rfl ?_
      refine wb_istore_n (loc' := [(2, .int (x2 + q_5)), (0, .ref (G.1 161)), (1, .ref (G.1 x1)), (3, .int x3)]) hX hN dX11_evenPairs_23 (by decide) rfl (pq := 24) rfl ?_
      refine wb_iinc (v := (x3 + iI (1))) (loc' := [(3, .int (x3 + iI (1))), (2, .int (x2 + q_5)), (0, .ref (G.1 161)), (1, .ref (G.1 x1))]) 3 hX hN dX11_evenPairs_24 rfl rfl (by decide) rfl (pq := 27) rfl ?_
      refine wb_goto (tgt := 4) hX dX11_evenPairs_27 (by decide) ?_
      refine wb_sub [2, 3, 1, 0] (loc' := [(0, .ref (G.1 161)), (1, .ref (G.1 x1)), (2, .int (x2 + q_5)), (3, .int (x3 + iI (1)))]) rfl ?_
      exact hk4 _ _ h
set_option maxHeartbeats 4000000 in
set_option maxRecDepth 100000 in
theorem tM_evenPairs {l : Launch} {G : wG} {s : wM} {x1 : Nat} {r0 : Int32} (hx1 : wSh[x1]? = some (.inl (.int, 9, 0, 0))) (h : fM_evenPairs s x1 = some r0) : wMet l G yX11_evenPairs cX11_evenPairs 4 (some .int) 3 [.ref (G.1 161), .ref (G.1 x1)] s (wQi G r0 s) := by
  refine wMet_of (own := RX11) (by decide +kernel) rfl (Nat.le_of_ble_eq_true rfl) ?_
  intro X hX hQ hN hl
  show WB G X 0 [(0, .ref (G.1 161)), (1, .ref (G.1 x1))] [] s
  unfold fM_evenPairs at h
  refine wb_iconst (v := iI (0)) hX dX11_evenPairs_0 rfl (pq := 1) rfl ?_
  refine wb_istore_n (loc' := [(2, .int (iI (0))), (0, .ref (G.1 161)), (1, .ref (G.1 x1))]) hX hN dX11_evenPairs_1 (by decide) rfl (pq := 2) rfl ?_
  refine wb_iconst (v := iI (0)) hX dX11_evenPairs_2 rfl (pq := 3) rfl ?_
  refine wb_istore_n (loc' := [(3, .int (iI (0))), (2, .int (iI (0))), (0, .ref (G.1 161)), (1, .ref (G.1 x1))]) hX hN dX11_evenPairs_3 (by decide) rfl (pq := 4) rfl ?_
  refine wb_sub [2, 3, 1, 0] (loc' := [(0, .ref (G.1 161)), (1, .ref (G.1 x1)), (2, .int (iI (0))), (3, .int (iI (0)))]) rfl ?_
  exact tM_evenPairs_L4 hX hQ hN hx1 100000 _ _ h
set_option maxHeartbeats 4000000 in
set_option maxRecDepth 100000 in
theorem tM_farm_J25 {G : wG} {X : wX} {s : wM} {r0 : Int32} {s1 : wM} (hX : wOK G X cX11_farm RX11 (some .int) 3) (hQ : wRt G X (wQi G r0 s1)) (hN : wNl X = 3) (h : fM_farm_J25 s = some (r0, s1)) : WB G X 25 [(0, .ref (G.1 161))] [] s := by
  unfold fM_farm_J25 at h
  refine wb_aload_n 0 hX dX11_farm_25 rfl (pq := 26) rfl ?_
  obtain ⟨q_2, hc_1, h⟩ := bind_s h
  refine wb_callVi (r0 := q_2.1) (s1 := q_2.2) [] hX sh_161 ml_1175 (tM_refuse hc_1) (by decide) rfl rfl (Nat.le_of_ble_eq_true rfl) dX11_farm_26 (pq := 29) rfl ?_
  exact wb_iret hX hQ h dX11_farm_29
set_option maxHeartbeats 4000000 in
set_option maxRecDepth 100000 in
theorem tM_farm {l : Launch} {G : wG} {s : wM} {x1 : Int32} {x2 : Int32} {r0 : Int32} {s1 : wM} (h : fM_farm s x1 x2 = some (r0, s1)) : wMet l G yX11_farm cX11_farm 3 (some .int) 3 [.ref (G.1 161), .int x1, .int x2] s (wQi G r0 s1) := by
  refine wMet_of (own := RX11) (by decide +kernel) rfl (Nat.le_of_ble_eq_true rfl) ?_
  intro X hX hQ hN hl
  show WB G X 0 [(0, .ref (G.1 161)), (1, .int x1), (2, .int x2)] [] s
  unfold fM_farm at h
  refine wb_aload_n 0 hX dX11_farm_0 rfl (pq := 1) rfl ?_
  refine wb_iconst (v := iI (0)) hX dX11_farm_1 rfl (pq := 2) rfl ?_
  refine wb_putI hX fp_1518 sh_161 rfl dX11_farm_2 rfl rfl (pq := 5) rfl ?_
  refine wb_mem (fun s_1 es_1 => ?_)
  have h := nmM_s h s_1 es_1
  refine wb_aload_n 0 hX dX11_farm_5 rfl (pq := 6) rfl ?_
  refine wb_iload_n 1 hX dX11_farm_6 rfl (pq := 7) rfl ?_
  obtain ⟨q_3, hc_2, h⟩ := bind_s h
  refine wb_callVi (r0 := q_3) (s1 := s_1) [.int x1] hX sh_161 ml_1170 (tM_isFarm hc_2) (by decide) rfl rfl (Nat.le_of_ble_eq_true rfl) dX11_farm_7 (pq := 10) rfl ?_
  refine wb_if_eq (tgt := 25) hX dX11_farm_10 (by decide) (fun c_4 => ?_) (pq := 13) rfl (fun c_4 => ?_)
  · have h := ite_t c_4 h
    refine wb_sub [0] (loc' := [(0, .ref (G.1 161))]) rfl ?_
    exact tM_farm_J25 hX hQ hN h
  · have h := ite_f c_4 h
    refine wb_iload_n 2 hX dX11_farm_13 rfl (pq := 14) rfl ?_
    refine wb_i2l hX dX11_farm_14 (pq := 15) rfl ?_
    refine wb_lconst (v := (0 : Int64)) hX dX11_farm_15 rfl (pq := 16) rfl ?_
    refine wb_ldc2 (v := (4 : Int64)) hX k_1174 dX11_farm_16 (pq := 19) rfl ?_
    obtain ⟨q_6, hc_5, h⟩ := bind_s h
    refine wb_callSi (r0 := q_6) (s1 := s_1) [.long x2.toInt64, .long (0 : Int64), .long (4 : Int64)] hX ml_1124 (tM_in hc_5) (by decide) rfl rfl (Nat.le_of_ble_eq_true rfl) dX11_farm_19 (pq := 22) rfl ?_
    refine wb_if_ne (tgt := 30) hX dX11_farm_22 (by decide) (pq := 25) rfl (fun c_7 => ?_) (fun c_7 => ?_)
    · have h := ite_t c_7 h
      refine wb_sub [0] (loc' := [(0, .ref (G.1 161))]) rfl ?_
      exact tM_farm_J25 hX hQ hN h
    · have h := ite_f c_7 h
      refine wb_iload_n 2 hX dX11_farm_30 rfl (pq := 31) rfl ?_
      by_cases c_8 : x2 = iI (0)
      · have h := ite_t c_8 h
        refine wb_tabIn (tgt := 60) (off := 29) hX dX11_farm_31 (by rw [c_8]; decide) (by rw [c_8]; decide) (by rw [c_8]; decide) (by decide) ?_
        refine wb_aload_n 0 hX dX11_farm_60 rfl (pq := 61) rfl ?_
        refine wb_getR hX fl_1522 sh_161 rfl dX11_farm_61 (pq := 64) rfl ?_
        refine wb_iload_n 1 hX dX11_farm_64 rfl (pq := 65) rfl ?_
        obtain ⟨hi_9, h⟩ := chk_some h
        refine wb_iald hX sh_163 hi_9 dX11_farm_65 (pq := 66) rfl ?_
        exact wb_iret hX hQ h dX11_farm_66
      · have h := ite_f c_8 h
        by_cases c_10 : x2 = iI (1)
        · have h := ite_t c_10 h
          refine wb_tabIn (tgt := 67) (off := 36) hX dX11_farm_31 (by rw [c_10]; decide) (by rw [c_10]; decide) (by rw [c_10]; decide) (by decide) ?_
          refine wb_aload_n 0 hX dX11_farm_67 rfl (pq := 68) rfl ?_
          refine wb_getR hX fl_1523 sh_161 rfl dX11_farm_68 (pq := 71) rfl ?_
          refine wb_iload_n 1 hX dX11_farm_71 rfl (pq := 72) rfl ?_
          obtain ⟨hi_11, h⟩ := chk_some h
          refine wb_iald hX sh_164 hi_11 dX11_farm_72 (pq := 73) rfl ?_
          exact wb_iret hX hQ h dX11_farm_73
        · have h := ite_f c_10 h
          by_cases c_12 : x2 = iI (2)
          · have h := ite_t c_12 h
            refine wb_tabIn (tgt := 74) (off := 43) hX dX11_farm_31 (by rw [c_12]; decide) (by rw [c_12]; decide) (by rw [c_12]; decide) (by decide) ?_
            refine wb_aload_n 0 hX dX11_farm_74 rfl (pq := 75) rfl ?_
            refine wb_getR hX fl_1524 sh_161 rfl dX11_farm_75 (pq := 78) rfl ?_
            refine wb_iload_n 1 hX dX11_farm_78 rfl (pq := 79) rfl ?_
            obtain ⟨hi_13, h⟩ := chk_some h
            refine wb_iald hX sh_165 hi_13 dX11_farm_79 (pq := 80) rfl ?_
            exact wb_iret hX hQ h dX11_farm_80
          · have h := ite_f c_12 h
            by_cases c_14 : x2 = iI (3)
            · have h := ite_t c_14 h
              refine wb_tabIn (tgt := 81) (off := 50) hX dX11_farm_31 (by rw [c_14]; decide) (by rw [c_14]; decide) (by rw [c_14]; decide) (by decide) ?_
              refine wb_aload_n 0 hX dX11_farm_81 rfl (pq := 82) rfl ?_
              refine wb_aload_n 0 hX dX11_farm_82 rfl (pq := 83) rfl ?_
              refine wb_getR hX fl_1522 sh_161 rfl dX11_farm_83 (pq := 86) rfl ?_
              refine wb_iload_n 1 hX dX11_farm_86 rfl (pq := 87) rfl ?_
              obtain ⟨q_16, hc_15, h⟩ := bind_s h
              refine wb_callVi (r0 := q_16) (s1 := s_1) [.ref (G.1 163), .int x1] hX sh_161 ml_1179 (tM_evenWith sh_163 hc_15) (by decide) rfl rfl (Nat.le_of_ble_eq_true rfl) dX11_farm_87 (pq := 90) rfl ?_
              exact wb_iret hX hQ h dX11_farm_90
            · have h := ite_f c_14 h
              have tc_8 := lv_neT (a := 0) c_8 (by decide)
              have tc_10 := lv_neT (a := 1) c_10 (by decide)
              have tc_12 := lv_neT (a := 2) c_12 (by decide)
              have tc_14 := lv_neT (a := 3) c_14 (by decide)
              refine wb_tabOut (tgt := 91) hX dX11_farm_31 (by omega) (by decide) ?_
              refine wb_aload_n 0 hX dX11_farm_91 rfl (pq := 92) rfl ?_
              refine wb_getR hX fl_1526 sh_161 rfl dX11_farm_92 (pq := 95) rfl ?_
              refine wb_iload_n 1 hX dX11_farm_95 rfl (pq := 96) rfl ?_
              obtain ⟨hi_17, h⟩ := chk_some h
              refine wb_iald hX sh_167 hi_17 dX11_farm_96 (pq := 97) rfl ?_
              exact wb_iret hX hQ h dX11_farm_97
set_option maxHeartbeats 4000000 in
set_option maxRecDepth 100000 in
theorem tM_stone_J45 {G : wG} {X : wX} {v0 : Int32} {s : wM} {r0 : Int32} {s1 : wM} (hX : wOK G X cX11_stone RX11 (some .int) 3) (hQ : wRt G X (wQi G r0 s1)) (hN : wNl X = 3) (h : fM_stone_J45 v0 s = some (r0, s1)) : WB G X 45 [] [.int v0] s := by
  unfold fM_stone_J45 at h
  exact wb_iret hX hQ h dX11_stone_45
set_option maxHeartbeats 4000000 in
set_option maxRecDepth 100000 in
theorem tM_stone {l : Launch} {G : wG} {s : wM} {x1 : Int32} {x2 : Int32} {r0 : Int32} {s1 : wM} (h : fM_stone s x1 x2 = some (r0, s1)) : wMet l G yX11_stone cX11_stone 3 (some .int) 3 [.ref (G.1 161), .int x1, .int x2] s (wQi G r0 s1) := by
  refine wMet_of (own := RX11) (by decide +kernel) rfl (Nat.le_of_ble_eq_true rfl) ?_
  intro X hX hQ hN hl
  show WB G X 0 [(0, .ref (G.1 161)), (1, .int x1), (2, .int x2)] [] s
  unfold fM_stone at h
  refine wb_aload_n 0 hX dX11_stone_0 rfl (pq := 1) rfl ?_
  refine wb_iconst (v := iI (0)) hX dX11_stone_1 rfl (pq := 2) rfl ?_
  refine wb_putI hX fp_1518 sh_161 rfl dX11_stone_2 rfl rfl (pq := 5) rfl ?_
  refine wb_mem (fun s_1 es_1 => ?_)
  have h := nmM_s h s_1 es_1
  refine wb_aload_n 0 hX dX11_stone_5 rfl (pq := 6) rfl ?_
  refine wb_iload_n 1 hX dX11_stone_6 rfl (pq := 7) rfl ?_
  refine wb_iload_n 2 hX dX11_stone_7 rfl (pq := 8) rfl ?_
  obtain ⟨q_3, hc_2, h⟩ := bind_s h
  refine wb_callVi (r0 := q_3) (s1 := s_1) [.int x1, .int x2] hX sh_161 ml_1195 (tM_areTwo hc_2) (by decide) rfl rfl (Nat.le_of_ble_eq_true rfl) dX11_stone_8 (pq := 11) rfl ?_
  refine wb_if_ne (tgt := 16) hX dX11_stone_11 (by decide) (pq := 14) rfl (fun c_4 => ?_) (fun c_4 => ?_)
  · have h := ite_t c_4 h
    refine wb_iconst (v := iI (-1)) hX dX11_stone_14 rfl (pq := 15) rfl ?_
    exact wb_iret hX hQ h dX11_stone_15
  · have h := ite_f c_4 h
    refine wb_aload_n 0 hX dX11_stone_16 rfl (pq := 17) rfl ?_
    refine wb_getR hX fl_1524 sh_161 rfl dX11_stone_17 (pq := 20) rfl ?_
    refine wb_iload_n 1 hX dX11_stone_20 rfl (pq := 21) rfl ?_
    obtain ⟨hi_5, h⟩ := chk_some h
    refine wb_iald hX sh_165 hi_5 dX11_stone_21 (pq := 22) rfl ?_
    refine wb_iload_n 2 hX dX11_stone_22 rfl (pq := 23) rfl ?_
    obtain ⟨q_7, hc_6, h⟩ := bind_s h
    refine wb_callSi (r0 := q_7) (s1 := s_1) [.int (s_1.1 165 x1.toNatClampNeg), .int x2] hX ml_1187 (tM_has hc_6) (by decide) rfl rfl (Nat.le_of_ble_eq_true rfl) dX11_stone_23 (pq := 26) rfl ?_
    refine wb_if_eq (tgt := 43) hX dX11_stone_26 (by decide) (fun c_8 => ?_) (pq := 29) rfl (fun c_8 => ?_)
    · have h := ite_t c_8 h
      refine wb_bipush (v := iI (-2)) hX dX11_stone_43 (by decide) (pq := 45) rfl ?_
      refine wb_sub [] (loc' := []) rfl ?_
      exact tM_stone_J45 hX hQ hN h
    · have h := ite_f c_8 h
      refine wb_aload_n 0 hX dX11_stone_29 rfl (pq := 30) rfl ?_
      refine wb_getR hX fl_1525 sh_161 rfl dX11_stone_30 (pq := 33) rfl ?_
      refine wb_bipush (v := iI (9)) hX dX11_stone_33 (by decide) (pq := 35) rfl ?_
      refine wb_iload_n 1 hX dX11_stone_35 rfl (pq := 36) rfl ?_
      refine wb_imul hX dX11_stone_36 (pq := 37) rfl ?_
      refine wb_iload_n 2 hX dX11_stone_37 rfl (pq := 38) rfl ?_
      refine wb_iadd hX dX11_stone_38 (pq := 39) rfl ?_
      obtain ⟨hi_9, h⟩ := chk_some h
      refine wb_iald hX sh_166 hi_9 dX11_stone_39 (pq := 40) rfl ?_
      refine wb_goto (tgt := 45) hX dX11_stone_40 (by decide) ?_
      refine wb_sub [] (loc' := []) rfl ?_
      exact tM_stone_J45 hX hQ hN h
set_option maxHeartbeats 4000000 in
set_option maxRecDepth 100000 in
theorem tM_touchBy_J69 {G : wG} {X : wX} {x1 : Int32} {x2 : Int32} {x3 : Int32} {v0 : Int32} {v1 : Int32} {s : wM} {s1 : wM} (hX : wOK G X cX11_touchBy RX11 none 0) (hQ : wRt G X (wQv G s1)) (hN : wNl X = 4) (h : fM_touchBy_J69 x1 x2 x3 v0 v1 s = some s1) : WB G X 69 [(0, .ref (G.1 161)), (1, .int x1), (2, .int x2), (3, .int x3)] [.int v0, .int v1, .ref (G.1 165)] s := by
  unfold fM_touchBy_J69 at h
  obtain ⟨hi_1, h⟩ := chk_some h
  refine wb_iast hX sh_165 hi_1 dX11_touchBy_69 (pq := 70) rfl ?_
  refine wb_mem (fun s_2 es_2 => ?_)
  have h := nmM_s h s_2 es_2
  refine wb_aload_n 0 hX dX11_touchBy_70 rfl (pq := 71) rfl ?_
  refine wb_getR hX fl_1525 sh_161 rfl dX11_touchBy_71 (pq := 74) rfl ?_
  refine wb_bipush (v := iI (9)) hX dX11_touchBy_74 (by decide) (pq := 76) rfl ?_
  refine wb_iload_n 1 hX dX11_touchBy_76 rfl (pq := 77) rfl ?_
  refine wb_imul hX dX11_touchBy_77 (pq := 78) rfl ?_
  refine wb_iload_n 2 hX dX11_touchBy_78 rfl (pq := 79) rfl ?_
  refine wb_iadd hX dX11_touchBy_79 (pq := 80) rfl ?_
  refine wb_iconst (v := iI (0)) hX dX11_touchBy_80 rfl (pq := 81) rfl ?_
  refine wb_iload_n 3 hX dX11_touchBy_81 rfl (pq := 82) rfl ?_
  refine wb_mmax hX k_1209 k_491 k_14 k_492 (Nat.le_of_ble_eq_true rfl) dX11_touchBy_82 (pq := 85) rfl ?_
  obtain ⟨hi_3, h⟩ := chk_some h
  refine wb_iast hX sh_166 hi_3 dX11_touchBy_85 (pq := 86) rfl ?_
  refine wb_mem (fun s_4 es_4 => ?_)
  have h := nmM_s h s_4 es_4
  refine wb_aload_n 0 hX dX11_touchBy_86 rfl (pq := 87) rfl ?_
  refine wb_getR hX fl_1525 sh_161 rfl dX11_touchBy_87 (pq := 90) rfl ?_
  refine wb_bipush (v := iI (9)) hX dX11_touchBy_90 (by decide) (pq := 92) rfl ?_
  refine wb_iload_n 2 hX dX11_touchBy_92 rfl (pq := 93) rfl ?_
  refine wb_imul hX dX11_touchBy_93 (pq := 94) rfl ?_
  refine wb_iload_n 1 hX dX11_touchBy_94 rfl (pq := 95) rfl ?_
  refine wb_iadd hX dX11_touchBy_95 (pq := 96) rfl ?_
  refine wb_iconst (v := iI (0)) hX dX11_touchBy_96 rfl (pq := 97) rfl ?_
  refine wb_iload_n 3 hX dX11_touchBy_97 rfl (pq := 98) rfl ?_
  refine wb_mmax hX k_1209 k_491 k_14 k_492 (Nat.le_of_ble_eq_true rfl) dX11_touchBy_98 (pq := 101) rfl ?_
  obtain ⟨hi_5, h⟩ := chk_some h
  refine wb_iast hX sh_166 hi_5 dX11_touchBy_101 (pq := 102) rfl ?_
  refine wb_mem (fun s_6 es_6 => ?_)
  have h := nmM_s h s_6 es_6
  exact wb_vret hX hQ h dX11_touchBy_102
set_option maxHeartbeats 4000000 in
set_option maxRecDepth 100000 in
theorem tM_touchBy_J34 {G : wG} {X : wX} {x1 : Int32} {x2 : Int32} {x3 : Int32} {v0 : Int32} {v1 : Int32} {s : wM} {s1 : wM} (hX : wOK G X cX11_touchBy RX11 none 0) (hQ : wRt G X (wQv G s1)) (hN : wNl X = 4) (h : fM_touchBy_J34 x1 x2 x3 v0 v1 s = some s1) : WB G X 34 [(0, .ref (G.1 161)), (1, .int x1), (2, .int x2), (3, .int x3)] [.int v0, .int v1, .ref (G.1 165)] s := by
  unfold fM_touchBy_J34 at h
  obtain ⟨hi_1, h⟩ := chk_some h
  refine wb_iast hX sh_165 hi_1 dX11_touchBy_34 (pq := 35) rfl ?_
  refine wb_mem (fun s_2 es_2 => ?_)
  have h := nmM_s h s_2 es_2
  refine wb_aload_n 0 hX dX11_touchBy_35 rfl (pq := 36) rfl ?_
  refine wb_getR hX fl_1524 sh_161 rfl dX11_touchBy_36 (pq := 39) rfl ?_
  refine wb_iload_n 2 hX dX11_touchBy_39 rfl (pq := 40) rfl ?_
  refine wb_iload_n 3 hX dX11_touchBy_40 rfl (pq := 41) rfl ?_
  refine wb_if_ge (tgt := 59) hX dX11_touchBy_41 (by decide) (fun c_3 => ?_) (pq := 44) rfl (fun c_3 => ?_)
  · have h := ite_t c_3 h
    refine wb_aload_n 0 hX dX11_touchBy_59 rfl (pq := 60) rfl ?_
    refine wb_getR hX fl_1524 sh_161 rfl dX11_touchBy_60 (pq := 63) rfl ?_
    refine wb_iload_n 2 hX dX11_touchBy_63 rfl (pq := 64) rfl ?_
    obtain ⟨hi_4, h⟩ := chk_some h
    refine wb_iald hX sh_165 hi_4 dX11_touchBy_64 (pq := 65) rfl ?_
    refine wb_iconst (v := iI (1)) hX dX11_touchBy_65 rfl (pq := 66) rfl ?_
    refine wb_iload_n 1 hX dX11_touchBy_66 rfl (pq := 67) rfl ?_
    refine wb_ishl hX dX11_touchBy_67 (pq := 68) rfl ?_
    refine wb_ior hX dX11_touchBy_68 (pq := 69) rfl ?_
    exact tM_touchBy_J69 hX hQ hN h
  · have h := ite_f c_3 h
    refine wb_aload_n 0 hX dX11_touchBy_44 rfl (pq := 45) rfl ?_
    refine wb_getR hX fl_1524 sh_161 rfl dX11_touchBy_45 (pq := 48) rfl ?_
    refine wb_iload_n 2 hX dX11_touchBy_48 rfl (pq := 49) rfl ?_
    obtain ⟨hi_5, h⟩ := chk_some h
    refine wb_iald hX sh_165 hi_5 dX11_touchBy_49 (pq := 50) rfl ?_
    refine wb_iconst (v := iI (1)) hX dX11_touchBy_50 rfl (pq := 51) rfl ?_
    refine wb_iload_n 1 hX dX11_touchBy_51 rfl (pq := 52) rfl ?_
    refine wb_ishl hX dX11_touchBy_52 (pq := 53) rfl ?_
    refine wb_iconst (v := iI (-1)) hX dX11_touchBy_53 rfl (pq := 54) rfl ?_
    refine wb_ixor hX dX11_touchBy_54 (pq := 55) rfl ?_
    refine wb_iand hX dX11_touchBy_55 (pq := 56) rfl ?_
    refine wb_goto (tgt := 69) hX dX11_touchBy_56 (by decide) ?_
    exact tM_touchBy_J69 hX hQ hN h
set_option maxHeartbeats 4000000 in
set_option maxRecDepth 100000 in
theorem tM_touchBy {l : Launch} {G : wG} {s : wM} {x1 : Int32} {x2 : Int32} {x3 : Int32} {s1 : wM} (h : fM_touchBy s x1 x2 x3 = some s1) : wMet l G yX11_touchBy cX11_touchBy 4 none 0 [.ref (G.1 161), .int x1, .int x2, .int x3] s (wQv G s1) := by
  refine wMet_of (own := RX11) (by decide +kernel) rfl (Nat.le_of_ble_eq_true rfl) ?_
  intro X hX hQ hN hl
  show WB G X 0 [(0, .ref (G.1 161)), (1, .int x1), (2, .int x2), (3, .int x3)] [] s
  unfold fM_touchBy at h
  refine wb_aload_n 0 hX dX11_touchBy_0 rfl (pq := 1) rfl ?_
  refine wb_getR hX fl_1524 sh_161 rfl dX11_touchBy_1 (pq := 4) rfl ?_
  refine wb_iload_n 1 hX dX11_touchBy_4 rfl (pq := 5) rfl ?_
  refine wb_iload_n 3 hX dX11_touchBy_5 rfl (pq := 6) rfl ?_
  refine wb_if_ge (tgt := 24) hX dX11_touchBy_6 (by decide) (fun c_1 => ?_) (pq := 9) rfl (fun c_1 => ?_)
  · have h := ite_t c_1 h
    refine wb_aload_n 0 hX dX11_touchBy_24 rfl (pq := 25) rfl ?_
    refine wb_getR hX fl_1524 sh_161 rfl dX11_touchBy_25 (pq := 28) rfl ?_
    refine wb_iload_n 1 hX dX11_touchBy_28 rfl (pq := 29) rfl ?_
    obtain ⟨hi_2, h⟩ := chk_some h
    refine wb_iald hX sh_165 hi_2 dX11_touchBy_29 (pq := 30) rfl ?_
    refine wb_iconst (v := iI (1)) hX dX11_touchBy_30 rfl (pq := 31) rfl ?_
    refine wb_iload_n 2 hX dX11_touchBy_31 rfl (pq := 32) rfl ?_
    refine wb_ishl hX dX11_touchBy_32 (pq := 33) rfl ?_
    refine wb_ior hX dX11_touchBy_33 (pq := 34) rfl ?_
    exact tM_touchBy_J34 hX hQ hN h
  · have h := ite_f c_1 h
    refine wb_aload_n 0 hX dX11_touchBy_9 rfl (pq := 10) rfl ?_
    refine wb_getR hX fl_1524 sh_161 rfl dX11_touchBy_10 (pq := 13) rfl ?_
    refine wb_iload_n 1 hX dX11_touchBy_13 rfl (pq := 14) rfl ?_
    obtain ⟨hi_3, h⟩ := chk_some h
    refine wb_iald hX sh_165 hi_3 dX11_touchBy_14 (pq := 15) rfl ?_
    refine wb_iconst (v := iI (1)) hX dX11_touchBy_15 rfl (pq := 16) rfl ?_
    refine wb_iload_n 2 hX dX11_touchBy_16 rfl (pq := 17) rfl ?_
    refine wb_ishl hX dX11_touchBy_17 (pq := 18) rfl ?_
    refine wb_iconst (v := iI (-1)) hX dX11_touchBy_18 rfl (pq := 19) rfl ?_
    refine wb_ixor hX dX11_touchBy_19 (pq := 20) rfl ?_
    refine wb_iand hX dX11_touchBy_20 (pq := 21) rfl ?_
    refine wb_goto (tgt := 34) hX dX11_touchBy_21 (by decide) ?_
    exact tM_touchBy_J34 hX hQ hN h
set_option maxHeartbeats 4000000 in
set_option maxRecDepth 100000 in
theorem tM_touch_J28 {G : wG} {X : wX} {s : wM} {r0 : Int32} {s1 : wM} (hX : wOK G X cX11_touch RX11 (some .boolean) 3) (hQ : wRt G X (wQi G r0 s1)) (hN : wNl X = 4) (h : fM_touch_J28 s = some (r0, s1)) : WB G X 28 [] [] s := by
  unfold fM_touch_J28 at h
  refine wb_iconst (v := iI (0)) hX dX11_touch_28 rfl (pq := 29) rfl ?_
  exact wb_zret hX hQ h nar01.1.1 dX11_touch_29
set_option maxHeartbeats 4000000 in
set_option maxRecDepth 100000 in
theorem tM_touch {l : Launch} {G : wG} {s : wM} {x1 : Int32} {x2 : Int32} {x3 : Int32} {r0 : Int32} {s1 : wM} (h : fM_touch s x1 x2 x3 = some (r0, s1)) : wMet l G yX11_touch cX11_touch 4 (some .boolean) 3 [.ref (G.1 161), .int x1, .int x2, .int x3] s (wQi G r0 s1) := by
  refine wMet_of (own := RX11) (by decide +kernel) rfl (Nat.le_of_ble_eq_true rfl) ?_
  intro X hX hQ hN hl
  show WB G X 0 [(0, .ref (G.1 161)), (1, .int x1), (2, .int x2), (3, .int x3)] [] s
  unfold fM_touch at h
  refine wb_aload_n 0 hX dX11_touch_0 rfl (pq := 1) rfl ?_
  refine wb_iconst (v := iI (0)) hX dX11_touch_1 rfl (pq := 2) rfl ?_
  refine wb_putI hX fp_1518 sh_161 rfl dX11_touch_2 rfl rfl (pq := 5) rfl ?_
  refine wb_mem (fun s_1 es_1 => ?_)
  have h := nmM_s h s_1 es_1
  refine wb_aload_n 0 hX dX11_touch_5 rfl (pq := 6) rfl ?_
  refine wb_iload_n 1 hX dX11_touch_6 rfl (pq := 7) rfl ?_
  refine wb_iload_n 2 hX dX11_touch_7 rfl (pq := 8) rfl ?_
  obtain ⟨q_3, hc_2, h⟩ := bind_s h
  refine wb_callVi (r0 := q_3) (s1 := s_1) [.int x1, .int x2] hX sh_161 ml_1195 (tM_areTwo hc_2) (by decide) rfl rfl (Nat.le_of_ble_eq_true rfl) dX11_touch_8 (pq := 11) rfl ?_
  refine wb_if_eq (tgt := 28) hX dX11_touch_11 (by decide) (fun c_4 => ?_) (pq := 14) rfl (fun c_4 => ?_)
  · have h := ite_t c_4 h
    refine wb_sub [] (loc' := []) rfl ?_
    exact tM_touch_J28 hX hQ hN h
  · have h := ite_f c_4 h
    refine wb_iload_n 3 hX dX11_touch_14 rfl (pq := 15) rfl ?_
    refine wb_i2l hX dX11_touch_15 (pq := 16) rfl ?_
    refine wb_ldc2 (v := (-1 : Int64)) hX k_1203 dX11_touch_16 (pq := 19) rfl ?_
    refine wb_ldc2 (v := (9 : Int64)) hX k_1204 dX11_touch_19 (pq := 22) rfl ?_
    obtain ⟨q_6, hc_5, h⟩ := bind_s h
    refine wb_callSi (r0 := q_6) (s1 := s_1) [.long x3.toInt64, .long (-1 : Int64), .long (9 : Int64)] hX ml_1124 (tM_in hc_5) (by decide) rfl rfl (Nat.le_of_ble_eq_true rfl) dX11_touch_22 (pq := 25) rfl ?_
    refine wb_if_ne (tgt := 30) hX dX11_touch_25 (by decide) (pq := 28) rfl (fun c_7 => ?_) (fun c_7 => ?_)
    · have h := ite_t c_7 h
      refine wb_sub [] (loc' := []) rfl ?_
      exact tM_touch_J28 hX hQ hN h
    · have h := ite_f c_7 h
      refine wb_aload_n 0 hX dX11_touch_30 rfl (pq := 31) rfl ?_
      refine wb_iload_n 1 hX dX11_touch_31 rfl (pq := 32) rfl ?_
      refine wb_iload_n 2 hX dX11_touch_32 rfl (pq := 33) rfl ?_
      refine wb_iload_n 3 hX dX11_touch_33 rfl (pq := 34) rfl ?_
      obtain ⟨q_9, hc_8, h⟩ := bind_s h
      refine wb_callVv (s1 := q_9) [.int x1, .int x2, .int x3] hX sh_161 ml_1205 (tM_touchBy hc_8) (by decide) rfl rfl (Nat.le_of_ble_eq_true rfl) dX11_touch_34 (pq := 37) rfl ?_
      refine wb_iconst (v := iI (1)) hX dX11_touch_37 rfl (pq := 38) rfl ?_
      exact wb_zret hX hQ h nar01.2.1 dX11_touch_38
set_option maxHeartbeats 4000000 in
set_option maxRecDepth 100000 in
theorem tM_law_J38 {G : wG} {X : wX} {s : wM} {r0 : Int32} {s1 : wM} (hX : wOK G X cX11_law RX11 (some .int) 1) (hQ : wRt G X (wQi G r0 s1)) (hN : wNl X = 4) (h : fM_law_J38 s = some (r0, s1)) : WB G X 38 [] [] s := by
  unfold fM_law_J38 at h
  refine wb_iconst (v := iI (-1)) hX dX11_law_38 rfl (pq := 39) rfl ?_
  exact wb_iret hX hQ h dX11_law_39
set_option maxHeartbeats 4000000 in
set_option maxRecDepth 100000 in
theorem tM_law_J29 {G : wG} {X : wX} {x1 : Int32} {x2 : Int32} {v0 : Int64} {v1 : Int64} {s : wM} {r0 : Int32} {s1 : wM} (hX : wOK G X cX11_law RX11 (some .int) 1) (hQ : wRt G X (wQi G r0 s1)) (hN : wNl X = 4) (h : fM_law_J29 x1 x2 v0 v1 s = some (r0, s1)) : WB G X 29 [(0, .ref (G.1 161)), (1, .int x1), (2, .int x2)] [.long v0, .long v1] s := by
  unfold fM_law_J29 at h
  refine wb_ldc2 (v := (9 : Int64)) hX k_1204 dX11_law_29 (pq := 32) rfl ?_
  obtain ⟨q_2, hc_1, h⟩ := bind_s h
  refine wb_callSi (r0 := q_2) (s1 := s) [.long v1, .long v0, .long (9 : Int64)] hX ml_1124 (tM_in hc_1) (by decide) rfl rfl (Nat.le_of_ble_eq_true rfl) dX11_law_32 (pq := 35) rfl ?_
  refine wb_if_ne (tgt := 40) hX dX11_law_35 (by decide) (pq := 38) rfl (fun c_3 => ?_) (fun c_3 => ?_)
  · have h := ite_t c_3 h
    refine wb_sub [] (loc' := []) rfl ?_
    exact tM_law_J38 hX hQ hN h
  · have h := ite_f c_3 h
    refine wb_aload_n 0 hX dX11_law_40 rfl (pq := 41) rfl ?_
    refine wb_getR hX fl_1527 sh_161 rfl dX11_law_41 (pq := 44) rfl ?_
    refine wb_iload_n 1 hX dX11_law_44 rfl (pq := 45) rfl ?_
    obtain ⟨hi_4, h⟩ := chk_some h
    refine wb_iald hX sh_168 hi_4 dX11_law_45 (pq := 46) rfl ?_
    refine wb_istore_n (loc' := [(3, .int (s.1 168 x1.toNatClampNeg)), (0, .ref (G.1 161)), (1, .int x1), (2, .int x2)]) hX hN dX11_law_46 (by decide) rfl (pq := 47) rfl ?_
    refine wb_aload_n 1 hX dX11_law_47 rfl (pq := 48) rfl ?_
    refine wb_getR hX fl_1527 sh_161 rfl dX11_law_48 (pq := 51) rfl ?_
    refine wb_iload_n 2 hX dX11_law_51 rfl (pq := 52) rfl ?_
    refine wb_iload_n 3 hX dX11_law_52 rfl (pq := 53) rfl ?_
    refine wb_iast hX sh_168 hi_4 dX11_law_53 (pq := 54) rfl ?_
    refine wb_mem (fun s_5 es_5 => ?_)
    have h := nmM_s h s_5 es_5
    refine wb_iload_n 0 hX dX11_law_54 rfl (pq := 55) rfl ?_
    exact wb_iret hX hQ h dX11_law_55
set_option maxHeartbeats 4000000 in
set_option maxRecDepth 100000 in
theorem tM_law {l : Launch} {G : wG} {s : wM} {x1 : Int32} {x2 : Int32} {r0 : Int32} {s1 : wM} (h : fM_law s x1 x2 = some (r0, s1)) : wMet l G yX11_law cX11_law 4 (some .int) 1 [.ref (G.1 161), .int x1, .int x2] s (wQi G r0 s1) := by
  refine wMet_of (own := RX11) (by decide +kernel) rfl (Nat.le_of_ble_eq_true rfl) ?_
  intro X hX hQ hN hl
  show WB G X 0 [(0, .ref (G.1 161)), (1, .int x1), (2, .int x2)] [] s
  unfold fM_law at h
  refine wb_aload_n 0 hX dX11_law_0 rfl (pq := 1) rfl ?_
  refine wb_iconst (v := iI (0)) hX dX11_law_1 rfl (pq := 2) rfl ?_
  refine wb_putI hX fp_1518 sh_161 rfl dX11_law_2 rfl rfl (pq := 5) rfl ?_
  refine wb_mem (fun s_1 es_1 => ?_)
  have h := nmM_s h s_1 es_1
  refine wb_iload_n 1 hX dX11_law_5 rfl (pq := 6) rfl ?_
  refine wb_i2l hX dX11_law_6 (pq := 7) rfl ?_
  refine wb_lconst (v := (0 : Int64)) hX dX11_law_7 rfl (pq := 8) rfl ?_
  refine wb_ldc2 (v := (2 : Int64)) hX k_1214 dX11_law_8 (pq := 11) rfl ?_
  obtain ⟨q_3, hc_2, h⟩ := bind_s h
  refine wb_callSi (r0 := q_3) (s1 := s_1) [.long x1.toInt64, .long (0 : Int64), .long (2 : Int64)] hX ml_1124 (tM_in hc_2) (by decide) rfl rfl (Nat.le_of_ble_eq_true rfl) dX11_law_11 (pq := 14) rfl ?_
  refine wb_if_eq (tgt := 38) hX dX11_law_14 (by decide) (fun c_4 => ?_) (pq := 17) rfl (fun c_4 => ?_)
  · have h := ite_t c_4 h
    refine wb_sub [] (loc' := []) rfl ?_
    exact tM_law_J38 hX hQ hN h
  · have h := ite_f c_4 h
    refine wb_iload_n 2 hX dX11_law_17 rfl (pq := 18) rfl ?_
    refine wb_i2l hX dX11_law_18 (pq := 19) rfl ?_
    refine wb_iload_n 1 hX dX11_law_19 rfl (pq := 20) rfl ?_
    refine wb_iconst (v := iI (1)) hX dX11_law_20 rfl (pq := 21) rfl ?_
    refine wb_icmp_ne (tgt := 28) hX dX11_law_21 (by decide) (pq := 24) rfl (fun c_5 => ?_) (fun c_5 => ?_)
    · have h := ite_t c_5 h
      refine wb_lconst (v := (0 : Int64)) hX dX11_law_24 rfl (pq := 25) rfl ?_
      refine wb_goto (tgt := 29) hX dX11_law_25 (by decide) ?_
      exact tM_law_J29 hX hQ hN h
    · have h := ite_f c_5 h
      refine wb_lconst (v := (1 : Int64)) hX dX11_law_28 rfl (pq := 29) rfl ?_
      exact tM_law_J29 hX hQ hN h
set_option maxHeartbeats 4000000 in
set_option maxRecDepth 100000 in
theorem tM_set_J45 {G : wG} {X : wX} {s : wM} {r0 : Int32} {s1 : wM} (hX : wOK G X cX11_set RX11 (some .int) 2) (hQ : wRt G X (wQi G r0 s1)) (hN : wNl X = 6) (h : fM_set_J45 s = some (r0, s1)) : WB G X 45 [] [] s := by
  unfold fM_set_J45 at h
  refine wb_iconst (v := iI (-1)) hX dX11_set_45 rfl (pq := 46) rfl ?_
  exact wb_iret hX hQ h dX11_set_46
set_option maxHeartbeats 4000000 in
set_option maxRecDepth 100000 in
theorem tM_set_J62 {G : wG} {X : wX} {x2 : Int32} {x3 : Int32} {v0 : Nat} {s : wM} {r0 : Int32} {s1 : wM} (hX : wOK G X cX11_set RX11 (some .int) 2) (hQ : wRt G X (wQi G r0 s1)) (hN : wNl X = 6) (hv0 : wSh[v0]? = some (.inl (.int, 9, 0, 0))) (h : fM_set_J62 x2 x3 v0 s = some (r0, s1)) : WB G X 62 [(2, .int x2), (3, .int x3)] [.ref (G.1 v0)] s := by
  unfold fM_set_J62 at h
  refine wb_astore (loc' := [(4, .ref (G.1 v0)), (2, .int x2), (3, .int x3)]) hX hN dX11_set_62 (by decide) rfl (pq := 64) rfl ?_
  refine wb_aload 0 hX dX11_set_64 rfl (pq := 66) rfl ?_
  refine wb_iload_n 1 hX dX11_set_66 rfl (pq := 67) rfl ?_
  obtain ⟨hi_1, h⟩ := chk_some h
  refine wb_iald hX hv0 hi_1 dX11_set_67 (pq := 68) rfl ?_
  refine wb_istore (loc' := [(5, .int (s.1 v0 x2.toNatClampNeg)), (4, .ref (G.1 v0)), (2, .int x2), (3, .int x3)]) hX hN dX11_set_68 (by decide) rfl (pq := 70) rfl ?_
  refine wb_aload 1 hX dX11_set_70 rfl (pq := 72) rfl ?_
  refine wb_iload_n 2 hX dX11_set_72 rfl (pq := 73) rfl ?_
  refine wb_iload_n 3 hX dX11_set_73 rfl (pq := 74) rfl ?_
  refine wb_iast hX hv0 hi_1 dX11_set_74 (pq := 75) rfl ?_
  refine wb_mem (fun s_2 es_2 => ?_)
  have h := nmM_s h s_2 es_2
  refine wb_iload 0 hX dX11_set_75 rfl (pq := 77) rfl ?_
  exact wb_iret hX hQ h dX11_set_77
set_option maxHeartbeats 4000000 in
set_option maxRecDepth 100000 in
theorem tM_set_J39 {G : wG} {X : wX} {x1 : Int32} {x2 : Int32} {x3 : Int32} {v0 : Int64} {v1 : Int64} {v2 : Int64} {s : wM} {r0 : Int32} {s1 : wM} (hX : wOK G X cX11_set RX11 (some .int) 2) (hQ : wRt G X (wQi G r0 s1)) (hN : wNl X = 6) (h : fM_set_J39 x1 x2 x3 v0 v1 v2 s = some (r0, s1)) : WB G X 39 [(0, .ref (G.1 161)), (1, .int x1), (2, .int x2), (3, .int x3)] [.long v0, .long v1, .long v2] s := by
  unfold fM_set_J39 at h
  obtain ⟨q_2, hc_1, h⟩ := bind_s h
  refine wb_callSi (r0 := q_2) (s1 := s) [.long v2, .long v1, .long v0] hX ml_1124 (tM_in hc_1) (by decide) rfl rfl (Nat.le_of_ble_eq_true rfl) dX11_set_39 (pq := 42) rfl ?_
  refine wb_if_ne (tgt := 47) hX dX11_set_42 (by decide) (pq := 45) rfl (fun c_3 => ?_) (fun c_3 => ?_)
  · have h := ite_t c_3 h
    refine wb_sub [] (loc' := []) rfl ?_
    exact tM_set_J45 hX hQ hN h
  · have h := ite_f c_3 h
    refine wb_iload_n 1 hX dX11_set_47 rfl (pq := 48) rfl ?_
    refine wb_if_ne (tgt := 58) hX dX11_set_48 (by decide) (pq := 51) rfl (fun c_4 => ?_) (fun c_4 => ?_)
    · have h := ite_t c_4 h
      refine wb_aload_n 0 hX dX11_set_51 rfl (pq := 52) rfl ?_
      refine wb_getR hX fl_1522 sh_161 rfl dX11_set_52 (pq := 55) rfl ?_
      refine wb_goto (tgt := 62) hX dX11_set_55 (by decide) ?_
      refine wb_sub [2, 3] (loc' := [(2, .int x2), (3, .int x3)]) rfl ?_
      exact tM_set_J62 hX hQ hN sh_163 h
    · have h := ite_f c_4 h
      refine wb_aload_n 0 hX dX11_set_58 rfl (pq := 59) rfl ?_
      refine wb_getR hX fl_1523 sh_161 rfl dX11_set_59 (pq := 62) rfl ?_
      refine wb_sub [2, 3] (loc' := [(2, .int x2), (3, .int x3)]) rfl ?_
      exact tM_set_J62 hX hQ hN sh_164 h
set_option maxHeartbeats 4000000 in
set_option maxRecDepth 100000 in
theorem tM_set {l : Launch} {G : wG} {s : wM} {x1 : Int32} {x2 : Int32} {x3 : Int32} {r0 : Int32} {s1 : wM} (h : fM_set s x1 x2 x3 = some (r0, s1)) : wMet l G yX11_set cX11_set 6 (some .int) 2 [.ref (G.1 161), .int x1, .int x2, .int x3] s (wQi G r0 s1) := by
  refine wMet_of (own := RX11) (by decide +kernel) rfl (Nat.le_of_ble_eq_true rfl) ?_
  intro X hX hQ hN hl
  show WB G X 0 [(0, .ref (G.1 161)), (1, .int x1), (2, .int x2), (3, .int x3)] [] s
  unfold fM_set at h
  refine wb_aload_n 0 hX dX11_set_0 rfl (pq := 1) rfl ?_
  refine wb_iconst (v := iI (0)) hX dX11_set_1 rfl (pq := 2) rfl ?_
  refine wb_putI hX fp_1518 sh_161 rfl dX11_set_2 rfl rfl (pq := 5) rfl ?_
  refine wb_mem (fun s_1 es_1 => ?_)
  have h := nmM_s h s_1 es_1
  refine wb_iload_n 1 hX dX11_set_5 rfl (pq := 6) rfl ?_
  refine wb_i2l hX dX11_set_6 (pq := 7) rfl ?_
  refine wb_lconst (v := (0 : Int64)) hX dX11_set_7 rfl (pq := 8) rfl ?_
  refine wb_lconst (v := (1 : Int64)) hX dX11_set_8 rfl (pq := 9) rfl ?_
  obtain ⟨q_3, hc_2, h⟩ := bind_s h
  refine wb_callSi (r0 := q_3) (s1 := s_1) [.long x1.toInt64, .long (0 : Int64), .long (1 : Int64)] hX ml_1124 (tM_in hc_2) (by decide) rfl rfl (Nat.le_of_ble_eq_true rfl) dX11_set_9 (pq := 12) rfl ?_
  refine wb_if_eq (tgt := 45) hX dX11_set_12 (by decide) (fun c_4 => ?_) (pq := 15) rfl (fun c_4 => ?_)
  · have h := ite_t c_4 h
    refine wb_sub [] (loc' := []) rfl ?_
    exact tM_set_J45 hX hQ hN h
  · have h := ite_f c_4 h
    refine wb_aload_n 0 hX dX11_set_15 rfl (pq := 16) rfl ?_
    refine wb_iload_n 2 hX dX11_set_16 rfl (pq := 17) rfl ?_
    obtain ⟨q_6, hc_5, h⟩ := bind_s h
    refine wb_callVi (r0 := q_6) (s1 := s_1) [.int x2] hX sh_161 ml_1170 (tM_isFarm hc_5) (by decide) rfl rfl (Nat.le_of_ble_eq_true rfl) dX11_set_17 (pq := 20) rfl ?_
    refine wb_if_eq (tgt := 45) hX dX11_set_20 (by decide) (fun c_7 => ?_) (pq := 23) rfl (fun c_7 => ?_)
    · have h := ite_t c_7 h
      refine wb_sub [] (loc' := []) rfl ?_
      exact tM_set_J45 hX hQ hN h
    · have h := ite_f c_7 h
      refine wb_iload_n 3 hX dX11_set_23 rfl (pq := 24) rfl ?_
      refine wb_i2l hX dX11_set_24 (pq := 25) rfl ?_
      refine wb_lconst (v := (0 : Int64)) hX dX11_set_25 rfl (pq := 26) rfl ?_
      refine wb_iload_n 1 hX dX11_set_26 rfl (pq := 27) rfl ?_
      refine wb_if_ne (tgt := 36) hX dX11_set_27 (by decide) (pq := 30) rfl (fun c_8 => ?_) (fun c_8 => ?_)
      · have h := ite_t c_8 h
        refine wb_ldc2 (v := (99 : Int64)) hX k_1219 dX11_set_30 (pq := 33) rfl ?_
        refine wb_goto (tgt := 39) hX dX11_set_33 (by decide) ?_
        exact tM_set_J39 hX hQ hN h
      · have h := ite_f c_8 h
        refine wb_ldc2 (v := (9 : Int64)) hX k_1204 dX11_set_36 (pq := 39) rfl ?_
        exact tM_set_J39 hX hQ hN h
set_option maxHeartbeats 4000000 in
set_option maxRecDepth 100000 in
theorem tM_sheet_J23 {G : wG} {X : wX} {s : wM} {r0 : Int32} {s1 : wM} (hX : wOK G X cX11_sheet RX11 (some .int) 1) (hQ : wRt G X (wQi G r0 s1)) (hN : wNl X = 9) (h : fM_sheet_J23 s = some (r0, s1)) : WB G X 23 [] [] s := by
  unfold fM_sheet_J23 at h
  refine wb_iconst (v := iI (-1)) hX dX11_sheet_23 rfl (pq := 24) rfl ?_
  exact wb_iret hX hQ h dX11_sheet_24
set_option maxHeartbeats 4000000 in
set_option maxRecDepth 100000 in
theorem tM_sheet_J112 {G : wG} {X : wX} {k46 : Int32 → Int32 → Int32 → wM → Option (Int32 × wM)} {x1 : Int32} {x2 : Int32} {x4 : Int32} {x5 : Int32} {x6 : Int32} {x7 : Int32} {v0 : Int32} {v1 : Int32} {s : wM} {r0 : Int32} {s1 : wM} (hX : wOK G X cX11_sheet RX11 (some .int) 1) (hQ : wRt G X (wQi G r0 s1)) (hN : wNl X = 9) (hk46 : ∀ (x5 : Int32) (x6 : Int32) (x7 : Int32) (s : wM), k46 x5 x6 x7 s = some (r0, s1) → WB G X 46 [(0, .ref (G.1 161)), (1, .int x1), (2, .int x2), (4, .int x4), (5, .int x5), (6, .int x6), (7, .int x7)] [] s) (h : fM_sheet_J112 k46 x1 x2 x4 x5 x6 x7 v0 v1 s = some (r0, s1)) : WB G X 112 [(0, .ref (G.1 161)), (1, .int x1), (2, .int x2), (4, .int x4), (5, .int x5), (6, .int x6), (7, .int x7)] [.int v0, .int v1, .ref (G.1 163)] s := by
  unfold fM_sheet_J112 at h
  obtain ⟨hi_1, h⟩ := chk_some h
  refine wb_iast hX sh_163 hi_1 dX11_sheet_112 (pq := 113) rfl ?_
  refine wb_mem (fun s_2 es_2 => ?_)
  have h := nmM_s h s_2 es_2
  refine wb_iload 4 hX dX11_sheet_113 rfl (pq := 115) rfl ?_
  refine wb_aload_n 0 hX dX11_sheet_115 rfl (pq := 116) rfl ?_
  refine wb_getR hX fl_1522 sh_161 rfl dX11_sheet_116 (pq := 119) rfl ?_
  refine wb_iload 6 hX dX11_sheet_119 rfl (pq := 121) rfl ?_
  obtain ⟨hi_3, h⟩ := chk_some h
  refine wb_iald hX sh_163 hi_3 dX11_sheet_121 (pq := 122) rfl ?_
  refine wb_iadd hX dX11_sheet_122 (pq := 123) rfl ?_
  refine wb_istore (loc' := [(5, .int (x5 + (s_2.1 163 x7.toNatClampNeg))), (0, .ref (G.1 161)), (1, .int x1), (2, .int x2), (4, .int x4), (6, .int x6), (7, .int x7)]) hX hN dX11_sheet_123 (by decide) rfl (pq := 125) rfl ?_
  refine wb_iload 5 hX dX11_sheet_125 rfl (pq := 127) rfl ?_
  refine wb_iload 4 hX dX11_sheet_127 rfl (pq := 129) rfl ?_
  refine wb_iadd hX dX11_sheet_129 (pq := 130) rfl ?_
  refine wb_istore (loc' := [(6, .int (x6 + x4)), (5, .int (x5 + (s_2.1 163 x7.toNatClampNeg))), (0, .ref (G.1 161)), (1, .int x1), (2, .int x2), (4, .int x4), (7, .int x7)]) hX hN dX11_sheet_130 (by decide) rfl (pq := 132) rfl ?_
  refine wb_iinc (v := (x7 + iI (1))) (loc' := [(7, .int (x7 + iI (1))), (6, .int (x6 + x4)), (5, .int (x5 + (s_2.1 163 x7.toNatClampNeg))), (0, .ref (G.1 161)), (1, .int x1), (2, .int x2), (4, .int x4)]) 6 hX hN dX11_sheet_132 rfl rfl (by decide) rfl (pq := 135) rfl ?_
  refine wb_goto (tgt := 46) hX dX11_sheet_135 (by decide) ?_
  refine wb_sub [3, 4, 5, 6, 2, 1, 0] (loc' := [(0, .ref (G.1 161)), (1, .int x1), (2, .int x2), (4, .int x4), (5, .int (x5 + (s_2.1 163 x7.toNatClampNeg))), (6, .int (x6 + x4)), (7, .int (x7 + iI (1)))]) rfl ?_
  exact hk46 _ _ _ _ h
set_option maxHeartbeats 4000000 in
set_option maxRecDepth 100000 in
theorem tM_sheet_J97 {G : wG} {X : wX} {k46 : Int32 → Int32 → Int32 → wM → Option (Int32 × wM)} {x1 : Int32} {x2 : Int32} {x4 : Int32} {x5 : Int32} {x6 : Int32} {x7 : Int32} {v0 : Int32} {s : wM} {r0 : Int32} {s1 : wM} (hX : wOK G X cX11_sheet RX11 (some .int) 1) (hQ : wRt G X (wQi G r0 s1)) (hN : wNl X = 9) (hk46 : ∀ (x5 : Int32) (x6 : Int32) (x7 : Int32) (s : wM), k46 x5 x6 x7 s = some (r0, s1) → WB G X 46 [(0, .ref (G.1 161)), (1, .int x1), (2, .int x2), (4, .int x4), (5, .int x5), (6, .int x6), (7, .int x7)] [] s) (h : fM_sheet_J97 k46 x1 x2 x4 x5 x6 x7 v0 s = some (r0, s1)) : WB G X 97 [(0, .ref (G.1 161)), (1, .int x1), (2, .int x2), (4, .int x4), (5, .int x5), (6, .int x6), (7, .int x7)] [.int v0, .ref (G.1 163)] s := by
  unfold fM_sheet_J97 at h
  refine wb_iconst (v := iI (0)) hX dX11_sheet_97 rfl (pq := 98) rfl ?_
  refine wb_goto (tgt := 112) hX dX11_sheet_98 (by decide) ?_
  exact tM_sheet_J112 hX hQ hN hk46 h
set_option maxHeartbeats 4000000 in
set_option maxRecDepth 100000 in
theorem tM_sheet_J78 {G : wG} {X : wX} {k46 : Int32 → Int32 → Int32 → wM → Option (Int32 × wM)} {x1 : Int32} {x2 : Int32} {x4 : Int32} {x5 : Int32} {x6 : Int32} {x7 : Int32} {v0 : Int32} {s : wM} {r0 : Int32} {s1 : wM} (hX : wOK G X cX11_sheet RX11 (some .int) 1) (hQ : wRt G X (wQi G r0 s1)) (hN : wNl X = 9) (hk46 : ∀ (x5 : Int32) (x6 : Int32) (x7 : Int32) (s : wM), k46 x5 x6 x7 s = some (r0, s1) → WB G X 46 [(0, .ref (G.1 161)), (1, .int x1), (2, .int x2), (4, .int x4), (5, .int x5), (6, .int x6), (7, .int x7)] [] s) (h : fM_sheet_J78 k46 x1 x2 x4 x5 x6 x7 v0 s = some (r0, s1)) : WB G X 78 [(0, .ref (G.1 161)), (1, .int x1), (2, .int x2), (4, .int x4), (5, .int x5), (6, .int x6), (7, .int x7)] [.int v0] s := by
  unfold fM_sheet_J78 at h
  refine wb_istore (loc' := [(8, .int v0), (0, .ref (G.1 161)), (1, .int x1), (2, .int x2), (4, .int x4), (5, .int x5), (6, .int x6), (7, .int x7)]) hX hN dX11_sheet_78 (by decide) rfl (pq := 80) rfl ?_
  refine wb_aload_n 1 hX dX11_sheet_80 rfl (pq := 81) rfl ?_
  refine wb_getR hX fl_1522 sh_161 rfl dX11_sheet_81 (pq := 84) rfl ?_
  refine wb_iload 7 hX dX11_sheet_84 rfl (pq := 86) rfl ?_
  refine wb_iload_n 2 hX dX11_sheet_86 rfl (pq := 87) rfl ?_
  refine wb_iconst (v := iI (3)) hX dX11_sheet_87 rfl (pq := 88) rfl ?_
  refine wb_icmp_eq (tgt := 97) hX dX11_sheet_88 (by decide) (fun c_1 => ?_) (pq := 91) rfl (fun c_1 => ?_)
  · have h := ite_t c_1 h
    refine wb_sub [1, 2, 3, 4, 5, 6, 7] (loc' := [(0, .ref (G.1 161)), (1, .int x1), (2, .int x2), (4, .int x4), (5, .int x5), (6, .int x6), (7, .int x7)]) rfl ?_
    exact tM_sheet_J97 hX hQ hN hk46 h
  · have h := ite_f c_1 h
    refine wb_iload 7 hX dX11_sheet_91 rfl (pq := 93) rfl ?_
    refine wb_iload_n 3 hX dX11_sheet_93 rfl (pq := 94) rfl ?_
    refine wb_icmp_lt (tgt := 101) hX dX11_sheet_94 (by decide) (fun c_2 => ?_) (pq := 97) rfl (fun c_2 => ?_)
    · have h := ite_t c_2 h
      refine wb_iconst (v := iI (0)) hX dX11_sheet_101 rfl (pq := 102) rfl ?_
      refine wb_bipush (v := iI (99)) hX dX11_sheet_102 (by decide) (pq := 104) rfl ?_
      refine wb_iload 0 hX dX11_sheet_104 rfl (pq := 106) rfl ?_
      refine wb_mmin hX k_1136 k_394 k_14 k_395 (Nat.le_of_ble_eq_true rfl) dX11_sheet_106 (pq := 109) rfl ?_
      refine wb_mmax hX k_1209 k_491 k_14 k_492 (Nat.le_of_ble_eq_true rfl) dX11_sheet_109 (pq := 112) rfl ?_
      refine wb_sub [1, 2, 3, 4, 5, 6, 7] (loc' := [(0, .ref (G.1 161)), (1, .int x1), (2, .int x2), (4, .int x4), (5, .int x5), (6, .int x6), (7, .int x7)]) rfl ?_
      exact tM_sheet_J112 hX hQ hN hk46 h
    · have h := ite_f c_2 h
      refine wb_sub [1, 2, 3, 4, 5, 6, 7] (loc' := [(0, .ref (G.1 161)), (1, .int x1), (2, .int x2), (4, .int x4), (5, .int x5), (6, .int x6), (7, .int x7)]) rfl ?_
      exact tM_sheet_J97 hX hQ hN hk46 h
set_option maxHeartbeats 4000000 in
set_option maxRecDepth 100000 in
theorem tM_sheet_J150 {G : wG} {X : wX} {v0 : Int32} {s : wM} {r0 : Int32} {s1 : wM} (hX : wOK G X cX11_sheet RX11 (some .int) 1) (hQ : wRt G X (wQi G r0 s1)) (hN : wNl X = 9) (h : fM_sheet_J150 v0 s = some (r0, s1)) : WB G X 150 [] [.int v0] s := by
  unfold fM_sheet_J150 at h
  exact wb_iret hX hQ h dX11_sheet_150
set_option maxHeartbeats 4000000 in
set_option maxRecDepth 100000 in
theorem tM_sheet_L46 {G : wG} {X : wX} {x1 : Int32} {x2 : Int32} {x4 : Int32} {r0 : Int32} {s1 : wM} (hX : wOK G X cX11_sheet RX11 (some .int) 1) (hQ : wRt G X (wQi G r0 s1)) (hN : wNl X = 9) : ∀ (n : Nat) (x5 : Int32) (x6 : Int32) (x7 : Int32) (s : wM), wh4 (fM_sheet_L46 x1 x2 x4) n x5 x6 x7 s = some (r0, s1) → WB G X 46 [(0, .ref (G.1 161)), (1, .int x1), (2, .int x2), (4, .int x4), (5, .int x5), (6, .int x6), (7, .int x7)] [] s := by
  intro n
  induction n with
  | zero => intro x5 x6 x7 s h; cases h
  | succ n hk46 =>
    intro x5 x6 x7 s h
    have h : fM_sheet_L46 x1 x2 x4 x5 x6 x7 s (wh4 (fM_sheet_L46 x1 x2 x4) n) = some (r0, s1) := h
    unfold fM_sheet_L46 at h
    refine wb_iload 6 hX dX11_sheet_46 rfl (pq := 48) rfl ?_
    refine wb_aload_n 0 hX dX11_sheet_48 rfl (pq := 49) rfl ?_
    refine wb_getI hX fl_1521 sh_161 rfl dX11_sheet_49 (pq := 52) rfl ?_
    refine wb_icmp_ge (tgt := 138) hX dX11_sheet_52 (by decide) (fun c_1 => ?_) (pq := 55) rfl (fun c_1 => ?_)
    · have h := ite_t c_1 h
      refine wb_iload_n 1 hX dX11_sheet_138 rfl (pq := 139) rfl ?_
      refine wb_iconst (v := iI (3)) hX dX11_sheet_139 rfl (pq := 140) rfl ?_
      refine wb_icmp_ne (tgt := 148) hX dX11_sheet_140 (by decide) (pq := 143) rfl (fun c_2 => ?_) (fun c_2 => ?_)
      · have h := ite_t c_2 h
        refine wb_bipush (v := iI (-3)) hX dX11_sheet_143 (by decide) (pq := 145) rfl ?_
        refine wb_goto (tgt := 150) hX dX11_sheet_145 (by decide) ?_
        refine wb_sub [] (loc' := []) rfl ?_
        exact tM_sheet_J150 hX hQ hN h
      · have h := ite_f c_2 h
        refine wb_iload 4 hX dX11_sheet_148 rfl (pq := 150) rfl ?_
        refine wb_sub [] (loc' := []) rfl ?_
        exact tM_sheet_J150 hX hQ hN h
    · have h := ite_f c_1 h
      refine wb_iload_n 1 hX dX11_sheet_55 rfl (pq := 56) rfl ?_
      refine wb_if_ne (tgt := 65) hX dX11_sheet_56 (by decide) (pq := 59) rfl (fun c_3 => ?_) (fun c_3 => ?_)
      · have h := ite_t c_3 h
        refine wb_iload 5 hX dX11_sheet_59 rfl (pq := 61) rfl ?_
        refine wb_i2b hX dX11_sheet_61 (pq := 62) rfl ?_
        refine wb_goto (tgt := 78) hX dX11_sheet_62 (by decide) ?_
        exact tM_sheet_J78 hX hQ hN hk46 h
      · have h := ite_f c_3 h
        refine wb_iload_n 1 hX dX11_sheet_65 rfl (pq := 66) rfl ?_
        refine wb_iconst (v := iI (1)) hX dX11_sheet_66 rfl (pq := 67) rfl ?_
        refine wb_icmp_ne (tgt := 76) hX dX11_sheet_67 (by decide) (pq := 70) rfl (fun c_4 => ?_) (fun c_4 => ?_)
        · have h := ite_t c_4 h
          refine wb_iload 5 hX dX11_sheet_70 rfl (pq := 72) rfl ?_
          refine wb_i2s hX dX11_sheet_72 (pq := 73) rfl ?_
          refine wb_goto (tgt := 78) hX dX11_sheet_73 (by decide) ?_
          exact tM_sheet_J78 hX hQ hN hk46 h
        · have h := ite_f c_4 h
          refine wb_iload 5 hX dX11_sheet_76 rfl (pq := 78) rfl ?_
          exact tM_sheet_J78 hX hQ hN hk46 h
set_option maxHeartbeats 4000000 in
set_option maxRecDepth 100000 in
theorem tM_sheet_J37 {G : wG} {X : wX} {x1 : Int32} {x2 : Int32} {x3 : Int32} {x4 : Int32} {s : wM} {r0 : Int32} {s1 : wM} (hX : wOK G X cX11_sheet RX11 (some .int) 1) (hQ : wRt G X (wQi G r0 s1)) (hN : wNl X = 9) (h : fM_sheet_J37 x1 x2 x3 x4 s = some (r0, s1)) : WB G X 37 [(0, .ref (G.1 161)), (1, .int x1), (2, .int x2), (3, .int x3), (4, .int x4)] [] s := by
  unfold fM_sheet_J37 at h
  refine wb_iconst (v := iI (0)) hX dX11_sheet_37 rfl (pq := 38) rfl ?_
  refine wb_istore (loc' := [(5, .int (iI (0))), (0, .ref (G.1 161)), (1, .int x1), (2, .int x2), (3, .int x3), (4, .int x4)]) hX hN dX11_sheet_38 (by decide) rfl (pq := 40) rfl ?_
  refine wb_iload_n 4 hX dX11_sheet_40 rfl (pq := 41) rfl ?_
  refine wb_istore (loc' := [(6, .int x3), (5, .int (iI (0))), (0, .ref (G.1 161)), (1, .int x1), (2, .int x2), (3, .int x3), (4, .int x4)]) hX hN dX11_sheet_41 (by decide) rfl (pq := 43) rfl ?_
  refine wb_iconst (v := iI (0)) hX dX11_sheet_43 rfl (pq := 44) rfl ?_
  refine wb_istore (loc' := [(7, .int (iI (0))), (6, .int x3), (5, .int (iI (0))), (0, .ref (G.1 161)), (1, .int x1), (2, .int x2), (3, .int x3), (4, .int x4)]) hX hN dX11_sheet_44 (by decide) rfl (pq := 46) rfl ?_
  refine wb_sub [3, 4, 5, 7, 2, 1, 0] (loc' := [(0, .ref (G.1 161)), (1, .int x1), (2, .int x2), (4, .int x4), (5, .int (iI (0))), (6, .int x3), (7, .int (iI (0)))]) rfl ?_
  exact tM_sheet_L46 hX hQ hN 100000 _ _ _ _ h
set_option maxHeartbeats 4000000 in
set_option maxRecDepth 100000 in
theorem tM_sheet {l : Launch} {G : wG} {s : wM} {x1 : Int32} {x2 : Int32} {x3 : Int32} {x4 : Int32} {r0 : Int32} {s1 : wM} (h : fM_sheet s x1 x2 x3 x4 = some (r0, s1)) : wMet l G yX11_sheet cX11_sheet 9 (some .int) 1 [.ref (G.1 161), .int x1, .int x2, .int x3, .int x4] s (wQi G r0 s1) := by
  refine wMet_of (own := RX11) (by decide +kernel) rfl (Nat.le_of_ble_eq_true rfl) ?_
  intro X hX hQ hN hl
  show WB G X 0 [(0, .ref (G.1 161)), (1, .int x1), (2, .int x2), (3, .int x3), (4, .int x4)] [] s
  unfold fM_sheet at h
  refine wb_aload_n 0 hX dX11_sheet_0 rfl (pq := 1) rfl ?_
  refine wb_iconst (v := iI (0)) hX dX11_sheet_1 rfl (pq := 2) rfl ?_
  refine wb_putI hX fp_1518 sh_161 rfl dX11_sheet_2 rfl rfl (pq := 5) rfl ?_
  refine wb_mem (fun s_1 es_1 => ?_)
  have h := nmM_s h s_1 es_1
  refine wb_iload_n 1 hX dX11_sheet_5 rfl (pq := 6) rfl ?_
  refine wb_i2l hX dX11_sheet_6 (pq := 7) rfl ?_
  refine wb_lconst (v := (0 : Int64)) hX dX11_sheet_7 rfl (pq := 8) rfl ?_
  refine wb_ldc2 (v := (3 : Int64)) hX k_1224 dX11_sheet_8 (pq := 11) rfl ?_
  obtain ⟨q_3, hc_2, h⟩ := bind_s h
  refine wb_callSi (r0 := q_3) (s1 := s_1) [.long x1.toInt64, .long (0 : Int64), .long (3 : Int64)] hX ml_1124 (tM_in hc_2) (by decide) rfl rfl (Nat.le_of_ble_eq_true rfl) dX11_sheet_11 (pq := 14) rfl ?_
  refine wb_if_eq (tgt := 23) hX dX11_sheet_14 (by decide) (fun c_4 => ?_) (pq := 17) rfl (fun c_4 => ?_)
  · have h := ite_t c_4 h
    refine wb_sub [] (loc' := []) rfl ?_
    exact tM_sheet_J23 hX hQ hN h
  · have h := ite_f c_4 h
    refine wb_iload_n 2 hX dX11_sheet_17 rfl (pq := 18) rfl ?_
    refine wb_bipush (v := iI (9)) hX dX11_sheet_18 (by decide) (pq := 20) rfl ?_
    refine wb_icmp_le (tgt := 25) hX dX11_sheet_20 (by decide) (fun c_5 => ?_) (pq := 23) rfl (fun c_5 => ?_)
    · have h := ite_t c_5 h
      refine wb_iload_n 1 hX dX11_sheet_25 rfl (pq := 26) rfl ?_
      refine wb_iconst (v := iI (3)) hX dX11_sheet_26 rfl (pq := 27) rfl ?_
      refine wb_icmp_eq (tgt := 37) hX dX11_sheet_27 (by decide) (fun c_6 => ?_) (pq := 30) rfl (fun c_6 => ?_)
      · have h := ite_t c_6 h
        exact tM_sheet_J37 hX hQ hN h
      · have h := ite_f c_6 h
        refine wb_iload_n 2 hX dX11_sheet_30 rfl (pq := 31) rfl ?_
        refine wb_if_ge (tgt := 37) hX dX11_sheet_31 (by decide) (fun c_7 => ?_) (pq := 34) rfl (fun c_7 => ?_)
        · have h := ite_t c_7 h
          exact tM_sheet_J37 hX hQ hN h
        · have h := ite_f c_7 h
          refine wb_bipush (v := iI (-2)) hX dX11_sheet_34 (by decide) (pq := 36) rfl ?_
          exact wb_iret hX hQ h dX11_sheet_36
    · have h := ite_f c_5 h
      refine wb_sub [] (loc' := []) rfl ?_
      exact tM_sheet_J23 hX hQ hN h
set_option maxHeartbeats 4000000 in
set_option maxRecDepth 100000 in
theorem tM_putsDown_L2 {G : wG} {X : wX} {x1 : Int32} {s1 : wM} (hX : wOK G X cX11_putsDown RX11 none 0) (hQ : wRt G X (wQv G s1)) (hN : wNl X = 3) : ∀ (n : Nat) (x2 : Int32) (s : wM), wh2 (fM_putsDown_L2 x1) n x2 s = some s1 → WB G X 2 [(0, .ref (G.1 161)), (1, .int x1), (2, .int x2)] [] s := by
  intro n
  induction n with
  | zero => intro x2 s h; cases h
  | succ n hk2 =>
    intro x2 s h
    have h : fM_putsDown_L2 x1 x2 s (wh2 (fM_putsDown_L2 x1) n) = some s1 := h
    unfold fM_putsDown_L2 at h
    refine wb_iload_n 2 hX dX11_putsDown_2 rfl (pq := 3) rfl ?_
    refine wb_bipush (v := iI (9)) hX dX11_putsDown_3 (by decide) (pq := 5) rfl ?_
    refine wb_icmp_ge (tgt := 51) hX dX11_putsDown_5 (by decide) (fun c_1 => ?_) (pq := 8) rfl (fun c_1 => ?_)
    · have h := ite_t c_1 h
      refine wb_aload_n 0 hX dX11_putsDown_51 rfl (pq := 52) rfl ?_
      refine wb_getR hX fl_1539 sh_161 rfl dX11_putsDown_52 (pq := 55) rfl ?_
      refine wb_bipush (v := iI (19)) hX dX11_putsDown_55 (by decide) (pq := 57) rfl ?_
      refine wb_iload_n 1 hX dX11_putsDown_57 rfl (pq := 58) rfl ?_
      refine wb_imul hX dX11_putsDown_58 (pq := 59) rfl ?_
      refine wb_bipush (v := iI (18)) hX dX11_putsDown_59 (by decide) (pq := 61) rfl ?_
      refine wb_iadd hX dX11_putsDown_61 (pq := 62) rfl ?_
      refine wb_aload_n 0 hX dX11_putsDown_62 rfl (pq := 63) rfl ?_
      refine wb_getI hX fl_1528 sh_161 rfl dX11_putsDown_63 (pq := 66) rfl ?_
      obtain ⟨hi_2, h⟩ := chk_some h
      refine wb_iast hX sh_174 hi_2 dX11_putsDown_66 (pq := 67) rfl ?_
      refine wb_mem (fun s_3 es_3 => ?_)
      have h := nmM_s h s_3 es_3
      exact wb_vret hX hQ h dX11_putsDown_67
    · have h := ite_f c_1 h
      refine wb_aload_n 0 hX dX11_putsDown_8 rfl (pq := 9) rfl ?_
      refine wb_getR hX fl_1539 sh_161 rfl dX11_putsDown_9 (pq := 12) rfl ?_
      refine wb_bipush (v := iI (19)) hX dX11_putsDown_12 (by decide) (pq := 14) rfl ?_
      refine wb_iload_n 1 hX dX11_putsDown_14 rfl (pq := 15) rfl ?_
      refine wb_imul hX dX11_putsDown_15 (pq := 16) rfl ?_
      refine wb_iload_n 2 hX dX11_putsDown_16 rfl (pq := 17) rfl ?_
      refine wb_iadd hX dX11_putsDown_17 (pq := 18) rfl ?_
      refine wb_aload_n 0 hX dX11_putsDown_18 rfl (pq := 19) rfl ?_
      refine wb_getR hX fl_1522 sh_161 rfl dX11_putsDown_19 (pq := 22) rfl ?_
      refine wb_iload_n 2 hX dX11_putsDown_22 rfl (pq := 23) rfl ?_
      obtain ⟨hi_4, h⟩ := chk_some h
      refine wb_iald hX sh_163 hi_4 dX11_putsDown_23 (pq := 24) rfl ?_
      obtain ⟨hi_5, h⟩ := chk_some h
      refine wb_iast hX sh_174 hi_5 dX11_putsDown_24 (pq := 25) rfl ?_
      refine wb_mem (fun s_6 es_6 => ?_)
      have h := nmM_s h s_6 es_6
      refine wb_aload_n 0 hX dX11_putsDown_25 rfl (pq := 26) rfl ?_
      refine wb_getR hX fl_1539 sh_161 rfl dX11_putsDown_26 (pq := 29) rfl ?_
      refine wb_bipush (v := iI (19)) hX dX11_putsDown_29 (by decide) (pq := 31) rfl ?_
      refine wb_iload_n 1 hX dX11_putsDown_31 rfl (pq := 32) rfl ?_
      refine wb_imul hX dX11_putsDown_32 (pq := 33) rfl ?_
      refine wb_bipush (v := iI (9)) hX dX11_putsDown_33 (by decide) (pq := 35) rfl ?_
      refine wb_iadd hX dX11_putsDown_35 (pq := 36) rfl ?_
      refine wb_iload_n 2 hX dX11_putsDown_36 rfl (pq := 37) rfl ?_
      refine wb_iadd hX dX11_putsDown_37 (pq := 38) rfl ?_
      refine wb_aload_n 0 hX dX11_putsDown_38 rfl (pq := 39) rfl ?_
      refine wb_getR hX fl_1526 sh_161 rfl dX11_putsDown_39 (pq := 42) rfl ?_
      refine wb_iload_n 2 hX dX11_putsDown_42 rfl (pq := 43) rfl ?_
      refine wb_iald hX sh_167 hi_4 dX11_putsDown_43 (pq := 44) rfl ?_
      obtain ⟨hi_7, h⟩ := chk_some h
      refine wb_iast hX sh_174 hi_7 dX11_putsDown_44 (pq := 45) rfl ?_
      refine wb_mem (fun s_8 es_8 => ?_)
      have h := nmM_s h s_8 es_8
      refine wb_iinc (v := (x2 + iI (1))) (loc' := [(2, .int (x2 + iI (1))), (0, .ref (G.1 161)), (1, .int x1)]) 2 hX hN dX11_putsDown_45 rfl rfl (by decide) rfl (pq := 48) rfl ?_
      refine wb_goto (tgt := 2) hX dX11_putsDown_48 (by decide) ?_
      refine wb_sub [1, 2, 0] (loc' := [(0, .ref (G.1 161)), (1, .int x1), (2, .int (x2 + iI (1)))]) rfl ?_
      exact hk2 _ _ h
set_option maxHeartbeats 4000000 in
set_option maxRecDepth 100000 in
theorem tM_putsDown {l : Launch} {G : wG} {s : wM} {x1 : Int32} {s1 : wM} (h : fM_putsDown s x1 = some s1) : wMet l G yX11_putsDown cX11_putsDown 3 none 0 [.ref (G.1 161), .int x1] s (wQv G s1) := by
  refine wMet_of (own := RX11) (by decide +kernel) rfl (Nat.le_of_ble_eq_true rfl) ?_
  intro X hX hQ hN hl
  show WB G X 0 [(0, .ref (G.1 161)), (1, .int x1)] [] s
  unfold fM_putsDown at h
  refine wb_iconst (v := iI (0)) hX dX11_putsDown_0 rfl (pq := 1) rfl ?_
  refine wb_istore_n (loc' := [(2, .int (iI (0))), (0, .ref (G.1 161)), (1, .int x1)]) hX hN dX11_putsDown_1 (by decide) rfl (pq := 2) rfl ?_
  refine wb_sub [1, 2, 0] (loc' := [(0, .ref (G.1 161)), (1, .int x1), (2, .int (iI (0)))]) rfl ?_
  exact tM_putsDown_L2 hX hQ hN 100000 _ _ h
set_option maxHeartbeats 4000000 in
set_option maxRecDepth 100000 in
theorem tM_putsBy {l : Launch} {G : wG} {s : wM} {s1 : wM} (h : fM_putsBy s = some s1) : wMet l G yX11_putsBy cX11_putsBy 1 none 1 [.ref (G.1 161)] s (wQv G s1) := by
  refine wMet_of (own := RX11) (by decide +kernel) rfl (Nat.le_of_ble_eq_true rfl) ?_
  intro X hX hQ hN hl
  show WB G X 0 [(0, .ref (G.1 161))] [] s
  unfold fM_putsBy at h
  refine wb_aload_n 0 hX dX11_putsBy_0 rfl (pq := 1) rfl ?_
  refine wb_aload_n 0 hX dX11_putsBy_1 rfl (pq := 2) rfl ?_
  refine wb_getI hX fl_1538 sh_161 rfl dX11_putsBy_2 (pq := 5) rfl ?_
  obtain ⟨q_2, hc_1, h⟩ := bind_s h
  refine wb_callVv (s1 := q_2) [.int (s.1 161 20)] hX sh_161 ml_1241 (tM_putsDown hc_1) (by decide) rfl rfl (Nat.le_of_ble_eq_true rfl) dX11_putsBy_5 (pq := 8) rfl ?_
  exact wb_vret hX hQ h dX11_putsBy_8
set_option maxHeartbeats 4000000 in
set_option maxRecDepth 100000 in
theorem tM_adds_J59 {G : wG} {X : wX} {s : wM} {s1 : wM} (hX : wOK G X cX11_adds RX11 none 0) (hQ : wRt G X (wQv G s1)) (hN : wNl X = 2) (h : fM_adds_J59 s = some s1) : WB G X 59 [] [] s := by
  unfold fM_adds_J59 at h
  exact wb_vret hX hQ h dX11_adds_59
set_option maxHeartbeats 4000000 in
set_option maxRecDepth 100000 in
theorem tM_adds_L21 {G : wG} {X : wX} {s1 : wM} (hX : wOK G X cX11_adds RX11 none 0) (hQ : wRt G X (wQv G s1)) (hN : wNl X = 2) : ∀ (n : Nat) (x1 : Int32) (s : wM), wh2 (fM_adds_L21) n x1 s = some s1 → WB G X 21 [(0, .ref (G.1 161)), (1, .int x1)] [] s := by
  intro n
  induction n with
  | zero => intro x1 s h; cases h
  | succ n hk21 =>
    intro x1 s h
    have h : fM_adds_L21 x1 s (wh2 (fM_adds_L21) n) = some s1 := h
    unfold fM_adds_L21 at h
    refine wb_iload_n 1 hX dX11_adds_21 rfl (pq := 22) rfl ?_
    refine wb_sipush (v := iI (380)) hX dX11_adds_22 (by decide) (pq := 25) rfl ?_
    refine wb_icmp_ge (tgt := 49) hX dX11_adds_25 (by decide) (fun c_1 => ?_) (pq := 28) rfl (fun c_1 => ?_)
    · have h := ite_t c_1 h
      refine wb_aload_n 0 hX dX11_adds_49 rfl (pq := 50) rfl ?_
      refine wb_dup hX dX11_adds_50 rfl (pq := 51) rfl ?_
      refine wb_getI hX fl_1538 sh_161 rfl dX11_adds_51 (pq := 54) rfl ?_
      refine wb_iconst (v := iI (1)) hX dX11_adds_54 rfl (pq := 55) rfl ?_
      refine wb_isub hX dX11_adds_55 (pq := 56) rfl ?_
      refine wb_putI hX fp_1538 sh_161 rfl dX11_adds_56 rfl rfl (pq := 59) rfl ?_
      refine wb_mem (fun s_2 es_2 => ?_)
      have h := nmM_s h s_2 es_2
      refine wb_sub [] (loc' := []) rfl ?_
      exact tM_adds_J59 hX hQ hN h
    · have h := ite_f c_1 h
      refine wb_aload_n 0 hX dX11_adds_28 rfl (pq := 29) rfl ?_
      refine wb_getR hX fl_1539 sh_161 rfl dX11_adds_29 (pq := 32) rfl ?_
      refine wb_iload_n 1 hX dX11_adds_32 rfl (pq := 33) rfl ?_
      refine wb_aload_n 0 hX dX11_adds_33 rfl (pq := 34) rfl ?_
      refine wb_getR hX fl_1539 sh_161 rfl dX11_adds_34 (pq := 37) rfl ?_
      refine wb_iload_n 1 hX dX11_adds_37 rfl (pq := 38) rfl ?_
      refine wb_bipush (v := iI (19)) hX dX11_adds_38 (by decide) (pq := 40) rfl ?_
      refine wb_iadd hX dX11_adds_40 (pq := 41) rfl ?_
      obtain ⟨hi_3, h⟩ := chk_some h
      refine wb_iald hX sh_174 hi_3 dX11_adds_41 (pq := 42) rfl ?_
      obtain ⟨hi_4, h⟩ := chk_some h
      refine wb_iast hX sh_174 hi_4 dX11_adds_42 (pq := 43) rfl ?_
      refine wb_mem (fun s_5 es_5 => ?_)
      have h := nmM_s h s_5 es_5
      refine wb_iinc (v := (x1 + iI (1))) (loc' := [(1, .int (x1 + iI (1))), (0, .ref (G.1 161))]) 1 hX hN dX11_adds_43 rfl rfl (by decide) rfl (pq := 46) rfl ?_
      refine wb_goto (tgt := 21) hX dX11_adds_46 (by decide) ?_
      refine wb_sub [1, 0] (loc' := [(0, .ref (G.1 161)), (1, .int (x1 + iI (1)))]) rfl ?_
      exact hk21 _ _ h
set_option maxHeartbeats 4000000 in
set_option maxRecDepth 100000 in
theorem tM_adds {l : Launch} {G : wG} {s : wM} {s1 : wM} (h : fM_adds s = some s1) : wMet l G yX11_adds cX11_adds 2 none 0 [.ref (G.1 161)] s (wQv G s1) := by
  refine wMet_of (own := RX11) (by decide +kernel) rfl (Nat.le_of_ble_eq_true rfl) ?_
  intro X hX hQ hN hl
  show WB G X 0 [(0, .ref (G.1 161))] [] s
  unfold fM_adds at h
  refine wb_aload_n 0 hX dX11_adds_0 rfl (pq := 1) rfl ?_
  refine wb_dup hX dX11_adds_1 rfl (pq := 2) rfl ?_
  refine wb_getI hX fl_1538 sh_161 rfl dX11_adds_2 (pq := 5) rfl ?_
  refine wb_iconst (v := iI (1)) hX dX11_adds_5 rfl (pq := 6) rfl ?_
  refine wb_iadd hX dX11_adds_6 (pq := 7) rfl ?_
  refine wb_putI hX fp_1538 sh_161 rfl dX11_adds_7 rfl rfl (pq := 10) rfl ?_
  refine wb_mem (fun s_1 es_1 => ?_)
  have h := nmM_s h s_1 es_1
  refine wb_aload_n 0 hX dX11_adds_10 rfl (pq := 11) rfl ?_
  refine wb_getI hX fl_1538 sh_161 rfl dX11_adds_11 (pq := 14) rfl ?_
  refine wb_bipush (v := iI (20)) hX dX11_adds_14 (by decide) (pq := 16) rfl ?_
  refine wb_icmp_le (tgt := 59) hX dX11_adds_16 (by decide) (fun c_2 => ?_) (pq := 19) rfl (fun c_2 => ?_)
  · have h := ite_t c_2 h
    refine wb_sub [] (loc' := []) rfl ?_
    exact tM_adds_J59 hX hQ hN h
  · have h := ite_f c_2 h
    refine wb_iconst (v := iI (0)) hX dX11_adds_19 rfl (pq := 20) rfl ?_
    refine wb_istore_n (loc' := [(1, .int (iI (0))), (0, .ref (G.1 161))]) hX hN dX11_adds_20 (by decide) rfl (pq := 21) rfl ?_
    refine wb_sub [1, 0] (loc' := [(0, .ref (G.1 161)), (1, .int (iI (0)))]) rfl ?_
    exact tM_adds_L21 hX hQ hN 100000 _ _ h
set_option maxHeartbeats 4000000 in
set_option maxRecDepth 100000 in
theorem tM_undo_L26 {G : wG} {X : wX} {r0 : Int32} {s1 : wM} (hX : wOK G X cX11_undo RX11 (some .int) 0) (hQ : wRt G X (wQi G r0 s1)) (hN : wNl X = 2) : ∀ (n : Nat) (x1 : Int32) (s : wM), wh2 (fM_undo_L26) n x1 s = some (r0, s1) → WB G X 26 [(0, .ref (G.1 161)), (1, .int x1)] [] s := by
  intro n
  induction n with
  | zero => intro x1 s h; cases h
  | succ n hk26 =>
    intro x1 s h
    have h : fM_undo_L26 x1 s (wh2 (fM_undo_L26) n) = some (r0, s1) := h
    unfold fM_undo_L26 at h
    refine wb_iload_n 1 hX dX11_undo_26 rfl (pq := 27) rfl ?_
    refine wb_bipush (v := iI (9)) hX dX11_undo_27 (by decide) (pq := 29) rfl ?_
    refine wb_icmp_ge (tgt := 81) hX dX11_undo_29 (by decide) (fun c_1 => ?_) (pq := 32) rfl (fun c_1 => ?_)
    · have h := ite_t c_1 h
      refine wb_aload_n 0 hX dX11_undo_81 rfl (pq := 82) rfl ?_
      refine wb_aload_n 0 hX dX11_undo_82 rfl (pq := 83) rfl ?_
      refine wb_getR hX fl_1539 sh_161 rfl dX11_undo_83 (pq := 86) rfl ?_
      refine wb_bipush (v := iI (19)) hX dX11_undo_86 (by decide) (pq := 88) rfl ?_
      refine wb_aload_n 0 hX dX11_undo_88 rfl (pq := 89) rfl ?_
      refine wb_getI hX fl_1538 sh_161 rfl dX11_undo_89 (pq := 92) rfl ?_
      refine wb_imul hX dX11_undo_92 (pq := 93) rfl ?_
      refine wb_bipush (v := iI (18)) hX dX11_undo_93 (by decide) (pq := 95) rfl ?_
      refine wb_iadd hX dX11_undo_95 (pq := 96) rfl ?_
      obtain ⟨hi_2, h⟩ := chk_some h
      refine wb_iald hX sh_174 hi_2 dX11_undo_96 (pq := 97) rfl ?_
      refine wb_putI hX fp_1528 sh_161 rfl dX11_undo_97 rfl rfl (pq := 100) rfl ?_
      refine wb_mem (fun s_3 es_3 => ?_)
      have h := nmM_s h s_3 es_3
      refine wb_aload_n 0 hX dX11_undo_100 rfl (pq := 101) rfl ?_
      refine wb_getI hX fl_1538 sh_161 rfl dX11_undo_101 (pq := 104) rfl ?_
      exact wb_iret hX hQ h dX11_undo_104
    · have h := ite_f c_1 h
      refine wb_aload_n 0 hX dX11_undo_32 rfl (pq := 33) rfl ?_
      refine wb_getR hX fl_1522 sh_161 rfl dX11_undo_33 (pq := 36) rfl ?_
      refine wb_iload_n 1 hX dX11_undo_36 rfl (pq := 37) rfl ?_
      refine wb_aload_n 0 hX dX11_undo_37 rfl (pq := 38) rfl ?_
      refine wb_getR hX fl_1539 sh_161 rfl dX11_undo_38 (pq := 41) rfl ?_
      refine wb_bipush (v := iI (19)) hX dX11_undo_41 (by decide) (pq := 43) rfl ?_
      refine wb_aload_n 0 hX dX11_undo_43 rfl (pq := 44) rfl ?_
      refine wb_getI hX fl_1538 sh_161 rfl dX11_undo_44 (pq := 47) rfl ?_
      refine wb_imul hX dX11_undo_47 (pq := 48) rfl ?_
      refine wb_iload_n 1 hX dX11_undo_48 rfl (pq := 49) rfl ?_
      refine wb_iadd hX dX11_undo_49 (pq := 50) rfl ?_
      obtain ⟨hi_4, h⟩ := chk_some h
      refine wb_iald hX sh_174 hi_4 dX11_undo_50 (pq := 51) rfl ?_
      obtain ⟨hi_5, h⟩ := chk_some h
      refine wb_iast hX sh_163 hi_5 dX11_undo_51 (pq := 52) rfl ?_
      refine wb_mem (fun s_6 es_6 => ?_)
      have h := nmM_s h s_6 es_6
      refine wb_aload_n 0 hX dX11_undo_52 rfl (pq := 53) rfl ?_
      refine wb_getR hX fl_1526 sh_161 rfl dX11_undo_53 (pq := 56) rfl ?_
      refine wb_iload_n 1 hX dX11_undo_56 rfl (pq := 57) rfl ?_
      refine wb_aload_n 0 hX dX11_undo_57 rfl (pq := 58) rfl ?_
      refine wb_getR hX fl_1539 sh_161 rfl dX11_undo_58 (pq := 61) rfl ?_
      refine wb_bipush (v := iI (19)) hX dX11_undo_61 (by decide) (pq := 63) rfl ?_
      refine wb_aload_n 0 hX dX11_undo_63 rfl (pq := 64) rfl ?_
      refine wb_getI hX fl_1538 sh_161 rfl dX11_undo_64 (pq := 67) rfl ?_
      refine wb_imul hX dX11_undo_67 (pq := 68) rfl ?_
      refine wb_bipush (v := iI (9)) hX dX11_undo_68 (by decide) (pq := 70) rfl ?_
      refine wb_iadd hX dX11_undo_70 (pq := 71) rfl ?_
      refine wb_iload_n 1 hX dX11_undo_71 rfl (pq := 72) rfl ?_
      refine wb_iadd hX dX11_undo_72 (pq := 73) rfl ?_
      obtain ⟨hi_7, h⟩ := chk_some h
      refine wb_iald hX sh_174 hi_7 dX11_undo_73 (pq := 74) rfl ?_
      refine wb_iast hX sh_167 hi_5 dX11_undo_74 (pq := 75) rfl ?_
      refine wb_mem (fun s_8 es_8 => ?_)
      have h := nmM_s h s_8 es_8
      refine wb_iinc (v := (x1 + iI (1))) (loc' := [(1, .int (x1 + iI (1))), (0, .ref (G.1 161))]) 1 hX hN dX11_undo_75 rfl rfl (by decide) rfl (pq := 78) rfl ?_
      refine wb_goto (tgt := 26) hX dX11_undo_78 (by decide) ?_
      refine wb_sub [1, 0] (loc' := [(0, .ref (G.1 161)), (1, .int (x1 + iI (1)))]) rfl ?_
      exact hk26 _ _ h
set_option maxHeartbeats 4000000 in
set_option maxRecDepth 100000 in
theorem tM_undo {l : Launch} {G : wG} {s : wM} {r0 : Int32} {s1 : wM} (h : fM_undo s = some (r0, s1)) : wMet l G yX11_undo cX11_undo 2 (some .int) 0 [.ref (G.1 161)] s (wQi G r0 s1) := by
  refine wMet_of (own := RX11) (by decide +kernel) rfl (Nat.le_of_ble_eq_true rfl) ?_
  intro X hX hQ hN hl
  show WB G X 0 [(0, .ref (G.1 161))] [] s
  unfold fM_undo at h
  refine wb_aload_n 0 hX dX11_undo_0 rfl (pq := 1) rfl ?_
  refine wb_iconst (v := iI (0)) hX dX11_undo_1 rfl (pq := 2) rfl ?_
  refine wb_putI hX fp_1518 sh_161 rfl dX11_undo_2 rfl rfl (pq := 5) rfl ?_
  refine wb_mem (fun s_1 es_1 => ?_)
  have h := nmM_s h s_1 es_1
  refine wb_aload_n 0 hX dX11_undo_5 rfl (pq := 6) rfl ?_
  refine wb_getI hX fl_1538 sh_161 rfl dX11_undo_6 (pq := 9) rfl ?_
  refine wb_if_ne (tgt := 14) hX dX11_undo_9 (by decide) (pq := 12) rfl (fun c_2 => ?_) (fun c_2 => ?_)
  · have h := ite_t c_2 h
    refine wb_iconst (v := iI (-1)) hX dX11_undo_12 rfl (pq := 13) rfl ?_
    exact wb_iret hX hQ h dX11_undo_13
  · have h := ite_f c_2 h
    refine wb_aload_n 0 hX dX11_undo_14 rfl (pq := 15) rfl ?_
    refine wb_dup hX dX11_undo_15 rfl (pq := 16) rfl ?_
    refine wb_getI hX fl_1538 sh_161 rfl dX11_undo_16 (pq := 19) rfl ?_
    refine wb_iconst (v := iI (1)) hX dX11_undo_19 rfl (pq := 20) rfl ?_
    refine wb_isub hX dX11_undo_20 (pq := 21) rfl ?_
    refine wb_putI hX fp_1538 sh_161 rfl dX11_undo_21 rfl rfl (pq := 24) rfl ?_
    refine wb_mem (fun s_3 es_3 => ?_)
    have h := nmM_s h s_3 es_3
    refine wb_iconst (v := iI (0)) hX dX11_undo_24 rfl (pq := 25) rfl ?_
    refine wb_istore_n (loc' := [(1, .int (iI (0))), (0, .ref (G.1 161))]) hX hN dX11_undo_25 (by decide) rfl (pq := 26) rfl ?_
    refine wb_sub [1, 0] (loc' := [(0, .ref (G.1 161)), (1, .int (iI (0)))]) rfl ?_
    exact tM_undo_L26 hX hQ hN 100000 _ _ h
set_option maxHeartbeats 4000000 in
set_option maxRecDepth 100000 in
theorem tM_canCarry_J45 {G : wG} {X : wX} {v0 : Int32} {s : wM} {r0 : Int32} (hX : wOK G X cX11_canCarry RX11 (some .boolean) 1) (hQ : wRt G X (wQi G r0 s)) (hN : wNl X = 4) (h : fM_canCarry_J45 v0 s = some r0) : WB G X 45 [] [.int v0] s := by
  unfold fM_canCarry_J45 at h
  obtain ⟨hz_1, h⟩ := chkZ_some h
  exact wb_zretP hX hQ h hz_1.1 dX11_canCarry_45
set_option maxHeartbeats 4000000 in
set_option maxRecDepth 100000 in
theorem tM_canCarry_J44 {G : wG} {X : wX} {s : wM} {r0 : Int32} (hX : wOK G X cX11_canCarry RX11 (some .boolean) 1) (hQ : wRt G X (wQi G r0 s)) (hN : wNl X = 4) (h : fM_canCarry_J44 s = some r0) : WB G X 44 [] [] s := by
  unfold fM_canCarry_J44 at h
  refine wb_iconst (v := iI (0)) hX dX11_canCarry_44 rfl (pq := 45) rfl ?_
  exact tM_canCarry_J45 hX hQ hN h
set_option maxHeartbeats 4000000 in
set_option maxRecDepth 100000 in
theorem tM_canCarry {l : Launch} {G : wG} {s : wM} {x1 : Nat} {x2 : Int32} {x3 : Int32} {r0 : Int32} (hx1 : wSh[x1]? = some (.inl (.int, 9, 0, 0))) (h : fM_canCarry s x1 x2 x3 = some r0) : wMet l G yX11_canCarry cX11_canCarry 4 (some .boolean) 1 [.ref (G.1 161), .ref (G.1 x1), .int x2, .int x3] s (wQi G r0 s) := by
  refine wMet_of (own := RX11) (by decide +kernel) rfl (Nat.le_of_ble_eq_true rfl) ?_
  intro X hX hQ hN hl
  show WB G X 0 [(0, .ref (G.1 161)), (1, .ref (G.1 x1)), (2, .int x2), (3, .int x3)] [] s
  unfold fM_canCarry at h
  refine wb_aload_n 0 hX dX11_canCarry_0 rfl (pq := 1) rfl ?_
  refine wb_getR hX fl_1524 sh_161 rfl dX11_canCarry_1 (pq := 4) rfl ?_
  refine wb_iload_n 2 hX dX11_canCarry_4 rfl (pq := 5) rfl ?_
  obtain ⟨hi_1, h⟩ := chk_some h
  refine wb_iald hX sh_165 hi_1 dX11_canCarry_5 (pq := 6) rfl ?_
  refine wb_iload_n 3 hX dX11_canCarry_6 rfl (pq := 7) rfl ?_
  obtain ⟨q_3, hc_2, h⟩ := bind_s h
  refine wb_callSi (r0 := q_3) (s1 := s) [.int (s.1 165 x2.toNatClampNeg), .int x3] hX ml_1187 (tM_has hc_2) (by decide) rfl rfl (Nat.le_of_ble_eq_true rfl) dX11_canCarry_7 (pq := 10) rfl ?_
  refine wb_if_eq (tgt := 44) hX dX11_canCarry_10 (by decide) (fun c_4 => ?_) (pq := 13) rfl (fun c_4 => ?_)
  · have h := ite_t c_4 h
    refine wb_sub [] (loc' := []) rfl ?_
    exact tM_canCarry_J44 hX hQ hN h
  · have h := ite_f c_4 h
    refine wb_aload_n 1 hX dX11_canCarry_13 rfl (pq := 14) rfl ?_
    refine wb_iload_n 2 hX dX11_canCarry_14 rfl (pq := 15) rfl ?_
    refine wb_iald hX hx1 hi_1 dX11_canCarry_15 (pq := 16) rfl ?_
    refine wb_aload_n 0 hX dX11_canCarry_16 rfl (pq := 17) rfl ?_
    refine wb_getR hX fl_1527 sh_161 rfl dX11_canCarry_17 (pq := 20) rfl ?_
    refine wb_iconst (v := iI (2)) hX dX11_canCarry_20 rfl (pq := 21) rfl ?_
    refine wb_iald hX sh_168 (by unfold vp_in; decide) dX11_canCarry_21 (pq := 22) rfl ?_
    refine wb_icmp_lt (tgt := 44) hX dX11_canCarry_22 (by decide) (fun c_5 => ?_) (pq := 25) rfl (fun c_5 => ?_)
    · have h := ite_t c_5 h
      refine wb_sub [] (loc' := []) rfl ?_
      exact tM_canCarry_J44 hX hQ hN h
    · have h := ite_f c_5 h
      refine wb_aload_n 1 hX dX11_canCarry_25 rfl (pq := 26) rfl ?_
      refine wb_iload_n 3 hX dX11_canCarry_26 rfl (pq := 27) rfl ?_
      obtain ⟨hi_6, h⟩ := chk_some h
      refine wb_iald hX hx1 hi_6 dX11_canCarry_27 (pq := 28) rfl ?_
      refine wb_bipush (v := iI (99)) hX dX11_canCarry_28 (by decide) (pq := 30) rfl ?_
      refine wb_aload_n 0 hX dX11_canCarry_30 rfl (pq := 31) rfl ?_
      refine wb_getR hX fl_1527 sh_161 rfl dX11_canCarry_31 (pq := 34) rfl ?_
      refine wb_iconst (v := iI (2)) hX dX11_canCarry_34 rfl (pq := 35) rfl ?_
      refine wb_iald hX sh_168 (by unfold vp_in; decide) dX11_canCarry_35 (pq := 36) rfl ?_
      refine wb_isub hX dX11_canCarry_36 (pq := 37) rfl ?_
      refine wb_icmp_gt (tgt := 44) hX dX11_canCarry_37 (by decide) (fun c_7 => ?_) (pq := 40) rfl (fun c_7 => ?_)
      · have h := ite_t c_7 h
        refine wb_sub [] (loc' := []) rfl ?_
        exact tM_canCarry_J44 hX hQ hN h
      · have h := ite_f c_7 h
        refine wb_iconst (v := iI (1)) hX dX11_canCarry_40 rfl (pq := 41) rfl ?_
        refine wb_goto (tgt := 45) hX dX11_canCarry_41 (by decide) ?_
        refine wb_sub [] (loc' := []) rfl ?_
        exact tM_canCarry_J45 hX hQ hN h
set_option maxHeartbeats 4000000 in
set_option maxRecDepth 100000 in
theorem tM_carries {l : Launch} {G : wG} {s : wM} {x1 : Nat} {x2 : Int32} {x3 : Int32} {s1 : wM} (hx1 : wSh[x1]? = some (.inl (.int, 9, 0, 0))) (h : fM_carries s x1 x2 x3 = some s1) : wMet l G yX11_carries cX11_carries 4 none 0 [.ref (G.1 161), .ref (G.1 x1), .int x2, .int x3] s (wQv G s1) := by
  refine wMet_of (own := RX11) (by decide +kernel) rfl (Nat.le_of_ble_eq_true rfl) ?_
  intro X hX hQ hN hl
  show WB G X 0 [(0, .ref (G.1 161)), (1, .ref (G.1 x1)), (2, .int x2), (3, .int x3)] [] s
  unfold fM_carries at h
  refine wb_aload_n 1 hX dX11_carries_0 rfl (pq := 1) rfl ?_
  refine wb_iload_n 2 hX dX11_carries_1 rfl (pq := 2) rfl ?_
  refine wb_dup2 hX dX11_carries_2 rfl rfl (pq := 3) rfl ?_
  obtain ⟨hi_1, h⟩ := chk_some h
  refine wb_iald hX hx1 hi_1 dX11_carries_3 (pq := 4) rfl ?_
  refine wb_aload_n 0 hX dX11_carries_4 rfl (pq := 5) rfl ?_
  refine wb_getR hX fl_1527 sh_161 rfl dX11_carries_5 (pq := 8) rfl ?_
  refine wb_iconst (v := iI (2)) hX dX11_carries_8 rfl (pq := 9) rfl ?_
  refine wb_iald hX sh_168 (by unfold vp_in; decide) dX11_carries_9 (pq := 10) rfl ?_
  refine wb_isub hX dX11_carries_10 (pq := 11) rfl ?_
  refine wb_iast hX hx1 hi_1 dX11_carries_11 (pq := 12) rfl ?_
  refine wb_mem (fun s_2 es_2 => ?_)
  have h := nmM_s h s_2 es_2
  refine wb_aload_n 1 hX dX11_carries_12 rfl (pq := 13) rfl ?_
  refine wb_iload_n 3 hX dX11_carries_13 rfl (pq := 14) rfl ?_
  refine wb_dup2 hX dX11_carries_14 rfl rfl (pq := 15) rfl ?_
  obtain ⟨hi_3, h⟩ := chk_some h
  refine wb_iald hX hx1 hi_3 dX11_carries_15 (pq := 16) rfl ?_
  refine wb_aload_n 0 hX dX11_carries_16 rfl (pq := 17) rfl ?_
  refine wb_getR hX fl_1527 sh_161 rfl dX11_carries_17 (pq := 20) rfl ?_
  refine wb_iconst (v := iI (2)) hX dX11_carries_20 rfl (pq := 21) rfl ?_
  refine wb_iald hX sh_168 (by unfold vp_in; decide) dX11_carries_21 (pq := 22) rfl ?_
  refine wb_iadd hX dX11_carries_22 (pq := 23) rfl ?_
  refine wb_iast hX hx1 hi_3 dX11_carries_23 (pq := 24) rfl ?_
  refine wb_mem (fun s_4 es_4 => ?_)
  have h := nmM_s h s_4 es_4
  exact wb_vret hX hQ h dX11_carries_24
set_option maxHeartbeats 4000000 in
set_option maxRecDepth 100000 in
theorem tM_carry {l : Launch} {G : wG} {s : wM} {x1 : Int32} {x2 : Int32} {r0 : Int32} {s1 : wM} (h : fM_carry s x1 x2 = some (r0, s1)) : wMet l G yX11_carry cX11_carry 3 (some .int) 3 [.ref (G.1 161), .int x1, .int x2] s (wQi G r0 s1) := by
  refine wMet_of (own := RX11) (by decide +kernel) rfl (Nat.le_of_ble_eq_true rfl) ?_
  intro X hX hQ hN hl
  show WB G X 0 [(0, .ref (G.1 161)), (1, .int x1), (2, .int x2)] [] s
  unfold fM_carry at h
  refine wb_aload_n 0 hX dX11_carry_0 rfl (pq := 1) rfl ?_
  refine wb_iconst (v := iI (0)) hX dX11_carry_1 rfl (pq := 2) rfl ?_
  refine wb_putI hX fp_1518 sh_161 rfl dX11_carry_2 rfl rfl (pq := 5) rfl ?_
  refine wb_mem (fun s_1 es_1 => ?_)
  have h := nmM_s h s_1 es_1
  refine wb_aload_n 0 hX dX11_carry_5 rfl (pq := 6) rfl ?_
  refine wb_iload_n 1 hX dX11_carry_6 rfl (pq := 7) rfl ?_
  refine wb_iload_n 2 hX dX11_carry_7 rfl (pq := 8) rfl ?_
  obtain ⟨q_3, hc_2, h⟩ := bind_s h
  refine wb_callVi (r0 := q_3) (s1 := s_1) [.int x1, .int x2] hX sh_161 ml_1195 (tM_areTwo hc_2) (by decide) rfl rfl (Nat.le_of_ble_eq_true rfl) dX11_carry_8 (pq := 11) rfl ?_
  refine wb_if_ne (tgt := 16) hX dX11_carry_11 (by decide) (pq := 14) rfl (fun c_4 => ?_) (fun c_4 => ?_)
  · have h := ite_t c_4 h
    refine wb_iconst (v := iI (-1)) hX dX11_carry_14 rfl (pq := 15) rfl ?_
    exact wb_iret hX hQ h dX11_carry_15
  · have h := ite_f c_4 h
    refine wb_aload_n 0 hX dX11_carry_16 rfl (pq := 17) rfl ?_
    refine wb_getR hX fl_1524 sh_161 rfl dX11_carry_17 (pq := 20) rfl ?_
    refine wb_iload_n 1 hX dX11_carry_20 rfl (pq := 21) rfl ?_
    obtain ⟨hi_5, h⟩ := chk_some h
    refine wb_iald hX sh_165 hi_5 dX11_carry_21 (pq := 22) rfl ?_
    refine wb_iload_n 2 hX dX11_carry_22 rfl (pq := 23) rfl ?_
    obtain ⟨q_7, hc_6, h⟩ := bind_s h
    refine wb_callSi (r0 := q_7) (s1 := s_1) [.int (s_1.1 165 x1.toNatClampNeg), .int x2] hX ml_1187 (tM_has hc_6) (by decide) rfl rfl (Nat.le_of_ble_eq_true rfl) dX11_carry_23 (pq := 26) rfl ?_
    refine wb_if_ne (tgt := 32) hX dX11_carry_26 (by decide) (pq := 29) rfl (fun c_8 => ?_) (fun c_8 => ?_)
    · have h := ite_t c_8 h
      refine wb_bipush (v := iI (-2)) hX dX11_carry_29 (by decide) (pq := 31) rfl ?_
      exact wb_iret hX hQ h dX11_carry_31
    · have h := ite_f c_8 h
      refine wb_aload_n 0 hX dX11_carry_32 rfl (pq := 33) rfl ?_
      refine wb_aload_n 0 hX dX11_carry_33 rfl (pq := 34) rfl ?_
      refine wb_getR hX fl_1522 sh_161 rfl dX11_carry_34 (pq := 37) rfl ?_
      refine wb_iload_n 1 hX dX11_carry_37 rfl (pq := 38) rfl ?_
      refine wb_iload_n 2 hX dX11_carry_38 rfl (pq := 39) rfl ?_
      obtain ⟨q_10, hc_9, h⟩ := bind_s h
      refine wb_callVi (r0 := q_10) (s1 := s_1) [.ref (G.1 163), .int x1, .int x2] hX sh_161 ml_1233 (tM_canCarry sh_163 hc_9) (by decide) rfl rfl (Nat.le_of_ble_eq_true rfl) dX11_carry_39 (pq := 42) rfl ?_
      refine wb_if_ne (tgt := 48) hX dX11_carry_42 (by decide) (pq := 45) rfl (fun c_11 => ?_) (fun c_11 => ?_)
      · have h := ite_t c_11 h
        refine wb_bipush (v := iI (-3)) hX dX11_carry_45 (by decide) (pq := 47) rfl ?_
        exact wb_iret hX hQ h dX11_carry_47
      · have h := ite_f c_11 h
        refine wb_aload_n 0 hX dX11_carry_48 rfl (pq := 49) rfl ?_
        obtain ⟨q_13, hc_12, h⟩ := bind_s h
        refine wb_callVv (s1 := q_13) [] hX sh_161 ml_1237 (tM_putsBy hc_12) (by decide) rfl rfl (Nat.le_of_ble_eq_true rfl) dX11_carry_49 (pq := 52) rfl ?_
        refine wb_aload_n 0 hX dX11_carry_52 rfl (pq := 53) rfl ?_
        refine wb_aload_n 0 hX dX11_carry_53 rfl (pq := 54) rfl ?_
        refine wb_getR hX fl_1522 sh_161 rfl dX11_carry_54 (pq := 57) rfl ?_
        refine wb_iload_n 1 hX dX11_carry_57 rfl (pq := 58) rfl ?_
        refine wb_iload_n 2 hX dX11_carry_58 rfl (pq := 59) rfl ?_
        obtain ⟨q_15, hc_14, h⟩ := bind_s h
        refine wb_callVv (s1 := q_15) [.ref (G.1 163), .int x1, .int x2] hX sh_161 ml_1245 (tM_carries sh_163 hc_14) (by decide) rfl rfl (Nat.le_of_ble_eq_true rfl) dX11_carry_59 (pq := 62) rfl ?_
        refine wb_aload_n 0 hX dX11_carry_62 rfl (pq := 63) rfl ?_
        obtain ⟨q_17, hc_16, h⟩ := bind_s h
        refine wb_callVv (s1 := q_17) [] hX sh_161 ml_1249 (tM_adds hc_16) (by decide) rfl rfl (Nat.le_of_ble_eq_true rfl) dX11_carry_63 (pq := 66) rfl ?_
        refine wb_aload_n 0 hX dX11_carry_66 rfl (pq := 67) rfl ?_
        refine wb_getR hX fl_1522 sh_161 rfl dX11_carry_67 (pq := 70) rfl ?_
        refine wb_iload_n 1 hX dX11_carry_70 rfl (pq := 71) rfl ?_
        refine wb_iald hX sh_163 hi_5 dX11_carry_71 (pq := 72) rfl ?_
        exact wb_iret hX hQ h dX11_carry_72
set_option maxHeartbeats 4000000 in
set_option maxRecDepth 100000 in
theorem tM_readsStep_J33 {G : wG} {X : wX} {s : wM} {r0 : Int32} {s1 : wM} (hX : wOK G X cX11_readsStep RX11 (some .boolean) 2) (hQ : wRt G X (wQi G r0 s1)) (hN : wNl X = 1) (h : fM_readsStep_J33 s = some (r0, s1)) : WB G X 33 [] [] s := by
  unfold fM_readsStep_J33 at h
  refine wb_iconst (v := iI (0)) hX dX11_readsStep_33 rfl (pq := 34) rfl ?_
  exact wb_zret hX hQ h nar01.1.1 dX11_readsStep_34
set_option maxHeartbeats 4000000 in
set_option maxRecDepth 100000 in
theorem tM_readsStep_J108 {G : wG} {X : wX} {s : wM} {r0 : Int32} {s1 : wM} (hX : wOK G X cX11_readsStep RX11 (some .boolean) 2) (hQ : wRt G X (wQi G r0 s1)) (hN : wNl X = 1) (h : fM_readsStep_J108 s = some (r0, s1)) : WB G X 108 [] [] s := by
  unfold fM_readsStep_J108 at h
  refine wb_iconst (v := iI (0)) hX dX11_readsStep_108 rfl (pq := 109) rfl ?_
  exact wb_zret hX hQ h nar01.1.1 dX11_readsStep_109
set_option maxHeartbeats 4000000 in
set_option maxRecDepth 100000 in
theorem tM_readsStep_J197 {G : wG} {X : wX} {v0 : Int32} {s : wM} {r0 : Int32} {s1 : wM} (hX : wOK G X cX11_readsStep RX11 (some .boolean) 2) (hQ : wRt G X (wQi G r0 s1)) (hN : wNl X = 1) (h : fM_readsStep_J197 v0 s = some (r0, s1)) : WB G X 197 [] [.int v0] s := by
  unfold fM_readsStep_J197 at h
  obtain ⟨hz_1, h⟩ := chkZ_some h
  exact wb_zret hX hQ h hz_1.1 dX11_readsStep_197
set_option maxHeartbeats 4000000 in
set_option maxRecDepth 100000 in
theorem tM_readsStep_J167 {G : wG} {X : wX} {v0 : Int32} {v1 : Int32} {s : wM} {r0 : Int32} {s1 : wM} (hX : wOK G X cX11_readsStep RX11 (some .boolean) 2) (hQ : wRt G X (wQi G r0 s1)) (hN : wNl X = 1) (h : fM_readsStep_J167 v0 v1 s = some (r0, s1)) : WB G X 167 [(0, .ref (G.1 161))] [.int v0, .int v1, .ref (G.1 177)] s := by
  unfold fM_readsStep_J167 at h
  obtain ⟨hi_1, h⟩ := chk_some h
  refine wb_iast hX sh_177 hi_1 dX11_readsStep_167 (pq := 168) rfl ?_
  refine wb_mem (fun s_2 es_2 => ?_)
  have h := nmM_s h s_2 es_2
  refine wb_aload_n 0 hX dX11_readsStep_168 rfl (pq := 169) rfl ?_
  refine wb_dup hX dX11_readsStep_169 rfl (pq := 170) rfl ?_
  refine wb_getI hX fl_1543 sh_161 rfl dX11_readsStep_170 (pq := 173) rfl ?_
  refine wb_iconst (v := iI (1)) hX dX11_readsStep_173 rfl (pq := 174) rfl ?_
  refine wb_iadd hX dX11_readsStep_174 (pq := 175) rfl ?_
  refine wb_putI hX fp_1543 sh_161 rfl dX11_readsStep_175 rfl rfl (pq := 178) rfl ?_
  refine wb_mem (fun s_3 es_3 => ?_)
  have h := nmM_s h s_3 es_3
  refine wb_aload_n 0 hX dX11_readsStep_178 rfl (pq := 179) rfl ?_
  refine wb_getR hX fl_1542 sh_161 rfl dX11_readsStep_179 (pq := 182) rfl ?_
  refine wb_aload_n 0 hX dX11_readsStep_182 rfl (pq := 183) rfl ?_
  refine wb_getI hX fl_1543 sh_161 rfl dX11_readsStep_183 (pq := 186) rfl ?_
  refine wb_iconst (v := iI (1)) hX dX11_readsStep_186 rfl (pq := 187) rfl ?_
  refine wb_isub hX dX11_readsStep_187 (pq := 188) rfl ?_
  obtain ⟨hi_4, h⟩ := chk_some h
  refine wb_iald hX sh_177 hi_4 dX11_readsStep_188 (pq := 189) rfl ?_
  refine wb_if_le (tgt := 196) hX dX11_readsStep_189 (by decide) (fun c_5 => ?_) (pq := 192) rfl (fun c_5 => ?_)
  · have h := ite_t c_5 h
    refine wb_iconst (v := iI (0)) hX dX11_readsStep_196 rfl (pq := 197) rfl ?_
    refine wb_sub [] (loc' := []) rfl ?_
    exact tM_readsStep_J197 hX hQ hN h
  · have h := ite_f c_5 h
    refine wb_iconst (v := iI (1)) hX dX11_readsStep_192 rfl (pq := 193) rfl ?_
    refine wb_goto (tgt := 197) hX dX11_readsStep_193 (by decide) ?_
    refine wb_sub [] (loc' := []) rfl ?_
    exact tM_readsStep_J197 hX hQ hN h
set_option maxHeartbeats 4000000 in
set_option maxRecDepth 100000 in
theorem tM_readsStep {l : Launch} {G : wG} {s : wM} {r0 : Int32} {s1 : wM} (h : fM_readsStep s = some (r0, s1)) : wMet l G yX11_readsStep cX11_readsStep 1 (some .boolean) 2 [.ref (G.1 161)] s (wQi G r0 s1) := by
  refine wMet_of (own := RX11) (by decide +kernel) rfl (Nat.le_of_ble_eq_true rfl) ?_
  intro X hX hQ hN hl
  show WB G X 0 [(0, .ref (G.1 161))] [] s
  unfold fM_readsStep at h
  refine wb_aload_n 0 hX dX11_readsStep_0 rfl (pq := 1) rfl ?_
  refine wb_getI hX fl_1531 sh_161 rfl dX11_readsStep_1 (pq := 4) rfl ?_
  refine wb_aload_n 0 hX dX11_readsStep_4 rfl (pq := 5) rfl ?_
  refine wb_getI hX fl_1532 sh_161 rfl dX11_readsStep_5 (pq := 8) rfl ?_
  refine wb_icmp_ge (tgt := 33) hX dX11_readsStep_8 (by decide) (fun c_1 => ?_) (pq := 11) rfl (fun c_1 => ?_)
  · have h := ite_t c_1 h
    refine wb_sub [] (loc' := []) rfl ?_
    exact tM_readsStep_J33 hX hQ hN h
  · have h := ite_f c_1 h
    refine wb_aload_n 0 hX dX11_readsStep_11 rfl (pq := 12) rfl ?_
    refine wb_getR hX fl_1529 sh_161 rfl dX11_readsStep_12 (pq := 15) rfl ?_
    refine wb_aload_n 0 hX dX11_readsStep_15 rfl (pq := 16) rfl ?_
    refine wb_getI hX fl_1531 sh_161 rfl dX11_readsStep_16 (pq := 19) rfl ?_
    obtain ⟨hi_2, h⟩ := chk_some h
    refine wb_iald hX sh_169 hi_2 dX11_readsStep_19 (pq := 20) rfl ?_
    refine wb_i2l hX dX11_readsStep_20 (pq := 21) rfl ?_
    refine wb_ldc2 (v := (97 : Int64)) hX k_1261 dX11_readsStep_21 (pq := 24) rfl ?_
    refine wb_ldc2 (v := (105 : Int64)) hX k_1262 dX11_readsStep_24 (pq := 27) rfl ?_
    obtain ⟨q_4, hc_3, h⟩ := bind_s h
    refine wb_callSi (r0 := q_4) (s1 := s) [.long ((s.1 169 (s.1 161 13).toNatClampNeg).toInt64), .long (97 : Int64), .long (105 : Int64)] hX ml_1124 (tM_in hc_3) (by decide) rfl rfl (Nat.le_of_ble_eq_true rfl) dX11_readsStep_27 (pq := 30) rfl ?_
    refine wb_if_ne (tgt := 35) hX dX11_readsStep_30 (by decide) (pq := 33) rfl (fun c_5 => ?_) (fun c_5 => ?_)
    · have h := ite_t c_5 h
      refine wb_sub [] (loc' := []) rfl ?_
      exact tM_readsStep_J33 hX hQ hN h
    · have h := ite_f c_5 h
      refine wb_aload_n 0 hX dX11_readsStep_35 rfl (pq := 36) rfl ?_
      refine wb_getR hX fl_1540 sh_161 rfl dX11_readsStep_36 (pq := 39) rfl ?_
      refine wb_aload_n 0 hX dX11_readsStep_39 rfl (pq := 40) rfl ?_
      refine wb_getI hX fl_1543 sh_161 rfl dX11_readsStep_40 (pq := 43) rfl ?_
      refine wb_aload_n 0 hX dX11_readsStep_43 rfl (pq := 44) rfl ?_
      refine wb_getR hX fl_1529 sh_161 rfl dX11_readsStep_44 (pq := 47) rfl ?_
      refine wb_aload_n 0 hX dX11_readsStep_47 rfl (pq := 48) rfl ?_
      refine wb_getI hX fl_1531 sh_161 rfl dX11_readsStep_48 (pq := 51) rfl ?_
      refine wb_iald hX sh_169 hi_2 dX11_readsStep_51 (pq := 52) rfl ?_
      refine wb_bipush (v := iI (97)) hX dX11_readsStep_52 (by decide) (pq := 54) rfl ?_
      refine wb_isub hX dX11_readsStep_54 (pq := 55) rfl ?_
      obtain ⟨hi_6, h⟩ := chk_some h
      refine wb_iast hX sh_175 hi_6 dX11_readsStep_55 (pq := 56) rfl ?_
      refine wb_mem (fun s_7 es_7 => ?_)
      have h := nmM_s h s_7 es_7
      refine wb_aload_n 0 hX dX11_readsStep_56 rfl (pq := 57) rfl ?_
      refine wb_dup hX dX11_readsStep_57 rfl (pq := 58) rfl ?_
      refine wb_getI hX fl_1531 sh_161 rfl dX11_readsStep_58 (pq := 61) rfl ?_
      refine wb_iconst (v := iI (1)) hX dX11_readsStep_61 rfl (pq := 62) rfl ?_
      refine wb_iadd hX dX11_readsStep_62 (pq := 63) rfl ?_
      refine wb_putI hX fp_1531 sh_161 rfl dX11_readsStep_63 rfl rfl (pq := 66) rfl ?_
      refine wb_mem (fun s_8 es_8 => ?_)
      have h := nmM_s h s_8 es_8
      refine wb_aload_n 0 hX dX11_readsStep_66 rfl (pq := 67) rfl ?_
      refine wb_bipush (v := iI (62)) hX dX11_readsStep_67 (by decide) (pq := 69) rfl ?_
      obtain ⟨q_10, hc_9, h⟩ := bind_s h
      refine wb_callVi (r0 := q_10.1) (s1 := q_10.2) [.int (iI (62))] hX sh_161 ml_1147 (tM_takes hc_9) (by decide) rfl rfl (Nat.le_of_ble_eq_true rfl) dX11_readsStep_69 (pq := 72) rfl ?_
      refine wb_if_eq (tgt := 108) hX dX11_readsStep_72 (by decide) (fun c_11 => ?_) (pq := 75) rfl (fun c_11 => ?_)
      · have h := ite_t c_11 h
        refine wb_sub [] (loc' := []) rfl ?_
        exact tM_readsStep_J108 hX hQ hN h
      · have h := ite_f c_11 h
        refine wb_aload_n 0 hX dX11_readsStep_75 rfl (pq := 76) rfl ?_
        refine wb_getI hX fl_1531 sh_161 rfl dX11_readsStep_76 (pq := 79) rfl ?_
        refine wb_aload_n 0 hX dX11_readsStep_79 rfl (pq := 80) rfl ?_
        refine wb_getI hX fl_1532 sh_161 rfl dX11_readsStep_80 (pq := 83) rfl ?_
        refine wb_icmp_ge (tgt := 108) hX dX11_readsStep_83 (by decide) (fun c_12 => ?_) (pq := 86) rfl (fun c_12 => ?_)
        · have h := ite_t c_12 h
          refine wb_sub [] (loc' := []) rfl ?_
          exact tM_readsStep_J108 hX hQ hN h
        · have h := ite_f c_12 h
          refine wb_aload_n 0 hX dX11_readsStep_86 rfl (pq := 87) rfl ?_
          refine wb_getR hX fl_1529 sh_161 rfl dX11_readsStep_87 (pq := 90) rfl ?_
          refine wb_aload_n 0 hX dX11_readsStep_90 rfl (pq := 91) rfl ?_
          refine wb_getI hX fl_1531 sh_161 rfl dX11_readsStep_91 (pq := 94) rfl ?_
          obtain ⟨hi_13, h⟩ := chk_some h
          refine wb_iald hX sh_169 hi_13 dX11_readsStep_94 (pq := 95) rfl ?_
          refine wb_i2l hX dX11_readsStep_95 (pq := 96) rfl ?_
          refine wb_ldc2 (v := (97 : Int64)) hX k_1261 dX11_readsStep_96 (pq := 99) rfl ?_
          refine wb_ldc2 (v := (105 : Int64)) hX k_1262 dX11_readsStep_99 (pq := 102) rfl ?_
          obtain ⟨q_15, hc_14, h⟩ := bind_s h
          refine wb_callSi (r0 := q_15) (s1 := q_10.2) [.long ((q_10.2.1 169 (q_10.2.1 161 13).toNatClampNeg).toInt64), .long (97 : Int64), .long (105 : Int64)] hX ml_1124 (tM_in hc_14) (by decide) rfl rfl (Nat.le_of_ble_eq_true rfl) dX11_readsStep_102 (pq := 105) rfl ?_
          refine wb_if_ne (tgt := 110) hX dX11_readsStep_105 (by decide) (pq := 108) rfl (fun c_16 => ?_) (fun c_16 => ?_)
          · have h := ite_t c_16 h
            refine wb_sub [] (loc' := []) rfl ?_
            exact tM_readsStep_J108 hX hQ hN h
          · have h := ite_f c_16 h
            refine wb_aload_n 0 hX dX11_readsStep_110 rfl (pq := 111) rfl ?_
            refine wb_getR hX fl_1541 sh_161 rfl dX11_readsStep_111 (pq := 114) rfl ?_
            refine wb_aload_n 0 hX dX11_readsStep_114 rfl (pq := 115) rfl ?_
            refine wb_getI hX fl_1543 sh_161 rfl dX11_readsStep_115 (pq := 118) rfl ?_
            refine wb_aload_n 0 hX dX11_readsStep_118 rfl (pq := 119) rfl ?_
            refine wb_getR hX fl_1529 sh_161 rfl dX11_readsStep_119 (pq := 122) rfl ?_
            refine wb_aload_n 0 hX dX11_readsStep_122 rfl (pq := 123) rfl ?_
            refine wb_getI hX fl_1531 sh_161 rfl dX11_readsStep_123 (pq := 126) rfl ?_
            refine wb_iald hX sh_169 hi_13 dX11_readsStep_126 (pq := 127) rfl ?_
            refine wb_bipush (v := iI (97)) hX dX11_readsStep_127 (by decide) (pq := 129) rfl ?_
            refine wb_isub hX dX11_readsStep_129 (pq := 130) rfl ?_
            obtain ⟨hi_17, h⟩ := chk_some h
            refine wb_iast hX sh_176 hi_17 dX11_readsStep_130 (pq := 131) rfl ?_
            refine wb_mem (fun s_18 es_18 => ?_)
            have h := nmM_s h s_18 es_18
            refine wb_aload_n 0 hX dX11_readsStep_131 rfl (pq := 132) rfl ?_
            refine wb_dup hX dX11_readsStep_132 rfl (pq := 133) rfl ?_
            refine wb_getI hX fl_1531 sh_161 rfl dX11_readsStep_133 (pq := 136) rfl ?_
            refine wb_iconst (v := iI (1)) hX dX11_readsStep_136 rfl (pq := 137) rfl ?_
            refine wb_iadd hX dX11_readsStep_137 (pq := 138) rfl ?_
            refine wb_putI hX fp_1531 sh_161 rfl dX11_readsStep_138 rfl rfl (pq := 141) rfl ?_
            refine wb_mem (fun s_19 es_19 => ?_)
            have h := nmM_s h s_19 es_19
            refine wb_aload_n 0 hX dX11_readsStep_141 rfl (pq := 142) rfl ?_
            refine wb_getR hX fl_1542 sh_161 rfl dX11_readsStep_142 (pq := 145) rfl ?_
            refine wb_aload_n 0 hX dX11_readsStep_145 rfl (pq := 146) rfl ?_
            refine wb_getI hX fl_1543 sh_161 rfl dX11_readsStep_146 (pq := 149) rfl ?_
            refine wb_aload_n 0 hX dX11_readsStep_149 rfl (pq := 150) rfl ?_
            refine wb_bipush (v := iI (42)) hX dX11_readsStep_150 (by decide) (pq := 152) rfl ?_
            obtain ⟨q_21, hc_20, h⟩ := bind_s h
            refine wb_callVi (r0 := q_21.1) (s1 := q_21.2) [.int (iI (42))] hX sh_161 ml_1147 (tM_takes hc_20) (by decide) rfl rfl (Nat.le_of_ble_eq_true rfl) dX11_readsStep_152 (pq := 155) rfl ?_
            refine wb_if_eq (tgt := 166) hX dX11_readsStep_155 (by decide) (fun c_22 => ?_) (pq := 158) rfl (fun c_22 => ?_)
            · have h := ite_t c_22 h
              refine wb_iconst (v := iI (1)) hX dX11_readsStep_166 rfl (pq := 167) rfl ?_
              exact tM_readsStep_J167 hX hQ hN h
            · have h := ite_f c_22 h
              refine wb_aload_n 0 hX dX11_readsStep_158 rfl (pq := 159) rfl ?_
              refine wb_iconst (v := iI (1)) hX dX11_readsStep_159 rfl (pq := 160) rfl ?_
              obtain ⟨q_24, hc_23, h⟩ := bind_s h
              refine wb_callVi (r0 := q_24.1) (s1 := q_24.2) [.int (iI (1))] hX sh_161 ml_1143 (tM_digit hc_23) (by decide) rfl rfl (Nat.le_of_ble_eq_true rfl) dX11_readsStep_160 (pq := 163) rfl ?_
              refine wb_goto (tgt := 167) hX dX11_readsStep_163 (by decide) ?_
              exact tM_readsStep_J167 hX hQ hN h
set_option maxHeartbeats 4000000 in
set_option maxRecDepth 100000 in
theorem tM_night_J56 {G : wG} {X : wX} {k29 : Int32 → Int32 → wM → Option (Int32 × wM)} {x1 : Int32} {x2 : Int32} {v0 : Int32} {s : wM} {r0 : Int32} {s1 : wM} (hX : wOK G X cX11_night RX11 (some .int) 3) (hQ : wRt G X (wQi G r0 s1)) (hN : wNl X = 9) (hk29 : ∀ (x2 : Int32) (x3 : Int32) (s : wM), k29 x2 x3 s = some (r0, s1) → WB G X 29 [(0, .ref (G.1 161)), (1, .int x1), (2, .int x2), (3, .int x3)] [] s) (h : fM_night_J56 k29 x1 x2 v0 s = some (r0, s1)) : WB G X 56 [(0, .ref (G.1 161)), (1, .int x1), (2, .int x2)] [.int v0] s := by
  unfold fM_night_J56 at h
  refine wb_istore_n (loc' := [(3, .int v0), (0, .ref (G.1 161)), (1, .int x1), (2, .int x2)]) hX hN dX11_night_56 (by decide) rfl (pq := 57) rfl ?_
  refine wb_goto (tgt := 29) hX dX11_night_57 (by decide) ?_
  refine wb_sub [1, 2, 3, 0] (loc' := [(0, .ref (G.1 161)), (1, .int x1), (2, .int x2), (3, .int v0)]) rfl ?_
  exact hk29 _ _ _ h
set_option maxHeartbeats 4000000 in
set_option maxRecDepth 100000 in
theorem tM_night_J55 {G : wG} {X : wX} {k29 : Int32 → Int32 → wM → Option (Int32 × wM)} {x1 : Int32} {x2 : Int32} {s : wM} {r0 : Int32} {s1 : wM} (hX : wOK G X cX11_night RX11 (some .int) 3) (hQ : wRt G X (wQi G r0 s1)) (hN : wNl X = 9) (hk29 : ∀ (x2 : Int32) (x3 : Int32) (s : wM), k29 x2 x3 s = some (r0, s1) → WB G X 29 [(0, .ref (G.1 161)), (1, .int x1), (2, .int x2), (3, .int x3)] [] s) (h : fM_night_J55 k29 x1 x2 s = some (r0, s1)) : WB G X 55 [(0, .ref (G.1 161)), (1, .int x1), (2, .int x2)] [] s := by
  unfold fM_night_J55 at h
  refine wb_iconst (v := iI (0)) hX dX11_night_55 rfl (pq := 56) rfl ?_
  exact tM_night_J56 hX hQ hN hk29 h
set_option maxHeartbeats 4000000 in
set_option maxRecDepth 100000 in
theorem tM_night_J208 {G : wG} {X : wX} {k91 : Int32 → Int32 → Int32 → wM → Option (Int32 × wM)} {k108 : Int32 → Int32 → Int32 → wM → Option (Int32 × wM)} {x5 : Int32} {x6 : Int32} {x7 : Int32} {x8 : Int32} {s : wM} {r0 : Int32} {s1 : wM} (hX : wOK G X cX11_night RX11 (some .int) 3) (hQ : wRt G X (wQi G r0 s1)) (hN : wNl X = 9) (hk91 : ∀ (x5 : Int32) (x6 : Int32) (x7 : Int32) (s : wM), k91 x5 x6 x7 s = some (r0, s1) → WB G X 91 [(0, .ref (G.1 161)), (5, .int x5), (6, .int x6), (7, .int x7)] [] s) (hk108 : ∀ (x5 : Int32) (x6 : Int32) (x8 : Int32) (s : wM), k108 x5 x6 x8 s = some (r0, s1) → WB G X 108 [(0, .ref (G.1 161)), (5, .int x5), (6, .int x6), (7, .int x7), (8, .int x8)] [] s) (h : fM_night_J208 k91 k108 x5 x6 x7 x8 s = some (r0, s1)) : WB G X 208 [(0, .ref (G.1 161)), (5, .int x5), (6, .int x6), (7, .int x7), (8, .int x8)] [] s := by
  unfold fM_night_J208 at h
  refine wb_iinc (v := (x8 + iI (1))) (loc' := [(8, .int (x8 + iI (1))), (0, .ref (G.1 161)), (5, .int x5), (6, .int x6), (7, .int x7)]) 4 hX hN dX11_night_208 rfl rfl (by decide) rfl (pq := 211) rfl ?_
  refine wb_goto (tgt := 108) hX dX11_night_211 (by decide) ?_
  refine wb_sub [1, 2, 3, 4, 0] (loc' := [(0, .ref (G.1 161)), (5, .int x5), (6, .int x6), (7, .int x7), (8, .int (x8 + iI (1)))]) rfl ?_
  exact hk108 _ _ _ _ h
set_option maxHeartbeats 4000000 in
set_option maxRecDepth 100000 in
theorem tM_night_J176 {G : wG} {X : wX} {k91 : Int32 → Int32 → Int32 → wM → Option (Int32 × wM)} {k108 : Int32 → Int32 → Int32 → wM → Option (Int32 × wM)} {x5 : Int32} {x7 : Int32} {x8 : Int32} {v0 : Int32} {s : wM} {r0 : Int32} {s1 : wM} (hX : wOK G X cX11_night RX11 (some .int) 3) (hQ : wRt G X (wQi G r0 s1)) (hN : wNl X = 9) (hk91 : ∀ (x5 : Int32) (x6 : Int32) (x7 : Int32) (s : wM), k91 x5 x6 x7 s = some (r0, s1) → WB G X 91 [(0, .ref (G.1 161)), (5, .int x5), (6, .int x6), (7, .int x7)] [] s) (hk108 : ∀ (x5 : Int32) (x6 : Int32) (x8 : Int32) (s : wM), k108 x5 x6 x8 s = some (r0, s1) → WB G X 108 [(0, .ref (G.1 161)), (5, .int x5), (6, .int x6), (7, .int x7), (8, .int x8)] [] s) (h : fM_night_J176 k91 k108 x5 x7 x8 v0 s = some (r0, s1)) : WB G X 176 [(0, .ref (G.1 161)), (5, .int x5), (7, .int x7), (8, .int x8)] [.int v0] s := by
  unfold fM_night_J176 at h
  refine wb_istore (loc' := [(6, .int v0), (0, .ref (G.1 161)), (5, .int x5), (7, .int x7), (8, .int x8)]) hX hN dX11_night_176 (by decide) rfl (pq := 178) rfl ?_
  refine wb_iload 0 hX dX11_night_178 rfl (pq := 180) rfl ?_
  refine wb_if_eq (tgt := 208) hX dX11_night_180 (by decide) (fun c_1 => ?_) (pq := 183) rfl (fun c_1 => ?_)
  · have h := ite_t c_1 h
    refine wb_sub [1, 2, 0, 3, 4] (loc' := [(0, .ref (G.1 161)), (5, .int x5), (6, .int v0), (7, .int x7), (8, .int x8)]) rfl ?_
    exact tM_night_J208 hX hQ hN hk91 hk108 h
  · have h := ite_f c_1 h
    refine wb_aload_n 1 hX dX11_night_183 rfl (pq := 184) rfl ?_
    refine wb_aload_n 1 hX dX11_night_184 rfl (pq := 185) rfl ?_
    refine wb_getR hX fl_1522 sh_161 rfl dX11_night_185 (pq := 188) rfl ?_
    refine wb_aload_n 1 hX dX11_night_188 rfl (pq := 189) rfl ?_
    refine wb_getR hX fl_1540 sh_161 rfl dX11_night_189 (pq := 192) rfl ?_
    refine wb_iload 3 hX dX11_night_192 rfl (pq := 194) rfl ?_
    obtain ⟨hi_2, h⟩ := chk_some h
    refine wb_iald hX sh_175 hi_2 dX11_night_194 (pq := 195) rfl ?_
    refine wb_aload_n 1 hX dX11_night_195 rfl (pq := 196) rfl ?_
    refine wb_getR hX fl_1541 sh_161 rfl dX11_night_196 (pq := 199) rfl ?_
    refine wb_iload 3 hX dX11_night_199 rfl (pq := 201) rfl ?_
    refine wb_iald hX sh_176 hi_2 dX11_night_201 (pq := 202) rfl ?_
    obtain ⟨q_4, hc_3, h⟩ := bind_s h
    refine wb_callVv (s1 := q_4) [.ref (G.1 163), .int (s.1 175 x7.toNatClampNeg), .int (s.1 176 x7.toNatClampNeg)] hX sh_161 ml_1245 (tM_carries sh_163 hc_3) (by decide) rfl rfl (Nat.le_of_ble_eq_true rfl) dX11_night_202 (pq := 205) rfl ?_
    refine wb_iinc (v := (x5 + iI (1))) (loc' := [(5, .int (x5 + iI (1))), (6, .int v0), (0, .ref (G.1 161)), (7, .int x7), (8, .int x8)]) 2 hX hN dX11_night_205 rfl rfl (by decide) rfl (pq := 208) rfl ?_
    refine wb_sub [2, 0, 1, 3, 4] (loc' := [(0, .ref (G.1 161)), (5, .int (x5 + iI (1))), (6, .int v0), (7, .int x7), (8, .int x8)]) rfl ?_
    exact tM_night_J208 hX hQ hN hk91 hk108 h
set_option maxHeartbeats 4000000 in
set_option maxRecDepth 100000 in
theorem tM_night_J175 {G : wG} {X : wX} {k91 : Int32 → Int32 → Int32 → wM → Option (Int32 × wM)} {k108 : Int32 → Int32 → Int32 → wM → Option (Int32 × wM)} {x5 : Int32} {x7 : Int32} {x8 : Int32} {s : wM} {r0 : Int32} {s1 : wM} (hX : wOK G X cX11_night RX11 (some .int) 3) (hQ : wRt G X (wQi G r0 s1)) (hN : wNl X = 9) (hk91 : ∀ (x5 : Int32) (x6 : Int32) (x7 : Int32) (s : wM), k91 x5 x6 x7 s = some (r0, s1) → WB G X 91 [(0, .ref (G.1 161)), (5, .int x5), (6, .int x6), (7, .int x7)] [] s) (hk108 : ∀ (x5 : Int32) (x6 : Int32) (x8 : Int32) (s : wM), k108 x5 x6 x8 s = some (r0, s1) → WB G X 108 [(0, .ref (G.1 161)), (5, .int x5), (6, .int x6), (7, .int x7), (8, .int x8)] [] s) (h : fM_night_J175 k91 k108 x5 x7 x8 s = some (r0, s1)) : WB G X 175 [(0, .ref (G.1 161)), (5, .int x5), (7, .int x7), (8, .int x8)] [] s := by
  unfold fM_night_J175 at h
  refine wb_iconst (v := iI (0)) hX dX11_night_175 rfl (pq := 176) rfl ?_
  exact tM_night_J176 hX hQ hN hk91 hk108 h
set_option maxHeartbeats 4000000 in
set_option maxRecDepth 100000 in
theorem tM_night_J214 {G : wG} {X : wX} {k91 : Int32 → Int32 → Int32 → wM → Option (Int32 × wM)} {x5 : Int32} {x6 : Int32} {x7 : Int32} {s : wM} {r0 : Int32} {s1 : wM} (hX : wOK G X cX11_night RX11 (some .int) 3) (hQ : wRt G X (wQi G r0 s1)) (hN : wNl X = 9) (hk91 : ∀ (x5 : Int32) (x6 : Int32) (x7 : Int32) (s : wM), k91 x5 x6 x7 s = some (r0, s1) → WB G X 91 [(0, .ref (G.1 161)), (5, .int x5), (6, .int x6), (7, .int x7)] [] s) (h : fM_night_J214 k91 x5 x6 x7 s = some (r0, s1)) : WB G X 214 [(0, .ref (G.1 161)), (5, .int x5), (6, .int x6), (7, .int x7)] [] s := by
  unfold fM_night_J214 at h
  refine wb_iinc (v := (x7 + iI (1))) (loc' := [(7, .int (x7 + iI (1))), (0, .ref (G.1 161)), (5, .int x5), (6, .int x6)]) 3 hX hN dX11_night_214 rfl rfl (by decide) rfl (pq := 217) rfl ?_
  refine wb_goto (tgt := 91) hX dX11_night_217 (by decide) ?_
  refine wb_sub [1, 2, 3, 0] (loc' := [(0, .ref (G.1 161)), (5, .int x5), (6, .int x6), (7, .int (x7 + iI (1)))]) rfl ?_
  exact hk91 _ _ _ _ h
set_option maxHeartbeats 4000000 in
set_option maxRecDepth 100000 in
theorem tM_night_L108 {G : wG} {X : wX} {k91 : Int32 → Int32 → Int32 → wM → Option (Int32 × wM)} {x7 : Int32} {r0 : Int32} {s1 : wM} (hX : wOK G X cX11_night RX11 (some .int) 3) (hQ : wRt G X (wQi G r0 s1)) (hN : wNl X = 9) (hk91 : ∀ (x5 : Int32) (x6 : Int32) (x7 : Int32) (s : wM), k91 x5 x6 x7 s = some (r0, s1) → WB G X 91 [(0, .ref (G.1 161)), (5, .int x5), (6, .int x6), (7, .int x7)] [] s) : ∀ (n : Nat) (x5 : Int32) (x6 : Int32) (x8 : Int32) (s : wM), wh4 (fM_night_L108 k91 x7) n x5 x6 x8 s = some (r0, s1) → WB G X 108 [(0, .ref (G.1 161)), (5, .int x5), (6, .int x6), (7, .int x7), (8, .int x8)] [] s := by
  intro n
  induction n with
  | zero => intro x5 x6 x8 s h; cases h
  | succ n hk108 =>
    intro x5 x6 x8 s h
    have h : fM_night_L108 k91 x7 x5 x6 x8 s (wh4 (fM_night_L108 k91 x7) n) = some (r0, s1) := h
    unfold fM_night_L108 at h
    refine wb_iload 4 hX dX11_night_108 rfl (pq := 110) rfl ?_
    refine wb_aload_n 0 hX dX11_night_110 rfl (pq := 111) rfl ?_
    refine wb_getR hX fl_1542 sh_161 rfl dX11_night_111 (pq := 114) rfl ?_
    refine wb_iload 3 hX dX11_night_114 rfl (pq := 116) rfl ?_
    obtain ⟨hi_1, h⟩ := chk_some h
    refine wb_iald hX sh_177 hi_1 dX11_night_116 (pq := 117) rfl ?_
    refine wb_icmp_ge (tgt := 214) hX dX11_night_117 (by decide) (fun c_2 => ?_) (pq := 120) rfl (fun c_2 => ?_)
    · have h := ite_t c_2 h
      refine wb_sub [0, 1, 2, 3] (loc' := [(0, .ref (G.1 161)), (5, .int x5), (6, .int x6), (7, .int x7)]) rfl ?_
      exact tM_night_J214 hX hQ hN hk91 h
    · have h := ite_f c_2 h
      refine wb_iload 2 hX dX11_night_120 rfl (pq := 122) rfl ?_
      refine wb_if_eq (tgt := 214) hX dX11_night_122 (by decide) (fun c_3 => ?_) (pq := 125) rfl (fun c_3 => ?_)
      · have h := ite_t c_3 h
        refine wb_sub [0, 1, 2, 3] (loc' := [(0, .ref (G.1 161)), (5, .int x5), (6, .int x6), (7, .int x7)]) rfl ?_
        exact tM_night_J214 hX hQ hN hk91 h
      · have h := ite_f c_3 h
        refine wb_aload_n 0 hX dX11_night_125 rfl (pq := 126) rfl ?_
        refine wb_aload_n 0 hX dX11_night_126 rfl (pq := 127) rfl ?_
        refine wb_getR hX fl_1540 sh_161 rfl dX11_night_127 (pq := 130) rfl ?_
        refine wb_iload 3 hX dX11_night_130 rfl (pq := 132) rfl ?_
        refine wb_iald hX sh_175 hi_1 dX11_night_132 (pq := 133) rfl ?_
        refine wb_aload_n 0 hX dX11_night_133 rfl (pq := 134) rfl ?_
        refine wb_getR hX fl_1541 sh_161 rfl dX11_night_134 (pq := 137) rfl ?_
        refine wb_iload 3 hX dX11_night_137 rfl (pq := 139) rfl ?_
        refine wb_iald hX sh_176 hi_1 dX11_night_139 (pq := 140) rfl ?_
        obtain ⟨q_5, hc_4, h⟩ := bind_s h
        refine wb_callVi (r0 := q_5) (s1 := s) [.int (s.1 175 x7.toNatClampNeg), .int (s.1 176 x7.toNatClampNeg)] hX sh_161 ml_1195 (tM_areTwo hc_4) (by decide) rfl rfl (Nat.le_of_ble_eq_true rfl) dX11_night_140 (pq := 143) rfl ?_
        refine wb_if_eq (tgt := 175) hX dX11_night_143 (by decide) (fun c_6 => ?_) (pq := 146) rfl (fun c_6 => ?_)
        · have h := ite_t c_6 h
          refine wb_sub [0, 1, 3, 4] (loc' := [(0, .ref (G.1 161)), (5, .int x5), (7, .int x7), (8, .int x8)]) rfl ?_
          exact tM_night_J175 hX hQ hN hk91 hk108 h
        · have h := ite_f c_6 h
          refine wb_aload_n 0 hX dX11_night_146 rfl (pq := 147) rfl ?_
          refine wb_aload_n 0 hX dX11_night_147 rfl (pq := 148) rfl ?_
          refine wb_getR hX fl_1522 sh_161 rfl dX11_night_148 (pq := 151) rfl ?_
          refine wb_aload_n 0 hX dX11_night_151 rfl (pq := 152) rfl ?_
          refine wb_getR hX fl_1540 sh_161 rfl dX11_night_152 (pq := 155) rfl ?_
          refine wb_iload 3 hX dX11_night_155 rfl (pq := 157) rfl ?_
          refine wb_iald hX sh_175 hi_1 dX11_night_157 (pq := 158) rfl ?_
          refine wb_aload_n 0 hX dX11_night_158 rfl (pq := 159) rfl ?_
          refine wb_getR hX fl_1541 sh_161 rfl dX11_night_159 (pq := 162) rfl ?_
          refine wb_iload 3 hX dX11_night_162 rfl (pq := 164) rfl ?_
          refine wb_iald hX sh_176 hi_1 dX11_night_164 (pq := 165) rfl ?_
          obtain ⟨q_8, hc_7, h⟩ := bind_s h
          refine wb_callVi (r0 := q_8) (s1 := s) [.ref (G.1 163), .int (s.1 175 x7.toNatClampNeg), .int (s.1 176 x7.toNatClampNeg)] hX sh_161 ml_1233 (tM_canCarry sh_163 hc_7) (by decide) rfl rfl (Nat.le_of_ble_eq_true rfl) dX11_night_165 (pq := 168) rfl ?_
          refine wb_if_eq (tgt := 175) hX dX11_night_168 (by decide) (fun c_9 => ?_) (pq := 171) rfl (fun c_9 => ?_)
          · have h := ite_t c_9 h
            refine wb_sub [0, 1, 3, 4] (loc' := [(0, .ref (G.1 161)), (5, .int x5), (7, .int x7), (8, .int x8)]) rfl ?_
            exact tM_night_J175 hX hQ hN hk91 hk108 h
          · have h := ite_f c_9 h
            refine wb_iconst (v := iI (1)) hX dX11_night_171 rfl (pq := 172) rfl ?_
            refine wb_goto (tgt := 176) hX dX11_night_172 (by decide) ?_
            refine wb_sub [0, 1, 3, 4] (loc' := [(0, .ref (G.1 161)), (5, .int x5), (7, .int x7), (8, .int x8)]) rfl ?_
            exact tM_night_J176 hX hQ hN hk91 hk108 h
set_option maxHeartbeats 4000000 in
set_option maxRecDepth 100000 in
theorem tM_night_J245 {G : wG} {X : wX} {x5 : Int32} {v0 : Int32} {s : wM} {r0 : Int32} {s1 : wM} (hX : wOK G X cX11_night RX11 (some .int) 3) (hQ : wRt G X (wQi G r0 s1)) (hN : wNl X = 9) (h : fM_night_J245 x5 v0 s = some (r0, s1)) : WB G X 245 [(5, .int x5)] [.int v0, .ref (G.1 161)] s := by
  unfold fM_night_J245 at h
  obtain ⟨q_2, hc_1, h⟩ := bind_s h
  refine wb_callSi (r0 := q_2) (s1 := s) [.int v0] hX ml_1151 (tM_flag hc_1) (by decide) rfl rfl (Nat.le_of_ble_eq_true rfl) dX11_night_245 (pq := 248) rfl ?_
  obtain ⟨q_4, hc_3, h⟩ := bind_s h
  refine wb_callVv (s1 := q_4) [.int q_2] hX sh_161 ml_1263 (tM_enters hc_3) (by decide) rfl rfl (Nat.le_of_ble_eq_true rfl) dX11_night_248 (pq := 251) rfl ?_
  refine wb_iload 0 hX dX11_night_251 rfl (pq := 253) rfl ?_
  exact wb_iret hX hQ h dX11_night_253
set_option maxHeartbeats 4000000 in
set_option maxRecDepth 100000 in
theorem tM_night_J229 {G : wG} {X : wX} {x5 : Int32} {x6 : Int32} {s : wM} {r0 : Int32} {s1 : wM} (hX : wOK G X cX11_night RX11 (some .int) 3) (hQ : wRt G X (wQi G r0 s1)) (hN : wNl X = 9) (h : fM_night_J229 x5 x6 s = some (r0, s1)) : WB G X 229 [(0, .ref (G.1 161)), (5, .int x5), (6, .int x6)] [] s := by
  unfold fM_night_J229 at h
  refine wb_aload_n 0 hX dX11_night_229 rfl (pq := 230) rfl ?_
  refine wb_iconst (v := iI (0)) hX dX11_night_230 rfl (pq := 231) rfl ?_
  refine wb_putI hX fp_1519 sh_161 rfl dX11_night_231 rfl rfl (pq := 234) rfl ?_
  refine wb_mem (fun s_1 es_1 => ?_)
  have h := nmM_s h s_1 es_1
  refine wb_aload_n 0 hX dX11_night_234 rfl (pq := 235) rfl ?_
  refine wb_iload 2 hX dX11_night_235 rfl (pq := 237) rfl ?_
  refine wb_if_ne (tgt := 244) hX dX11_night_237 (by decide) (pq := 240) rfl (fun c_2 => ?_) (fun c_2 => ?_)
  · have h := ite_t c_2 h
    refine wb_iconst (v := iI (1)) hX dX11_night_240 rfl (pq := 241) rfl ?_
    refine wb_goto (tgt := 245) hX dX11_night_241 (by decide) ?_
    refine wb_sub [1] (loc' := [(5, .int x5)]) rfl ?_
    exact tM_night_J245 hX hQ hN h
  · have h := ite_f c_2 h
    refine wb_iconst (v := iI (0)) hX dX11_night_244 rfl (pq := 245) rfl ?_
    refine wb_sub [1] (loc' := [(5, .int x5)]) rfl ?_
    exact tM_night_J245 hX hQ hN h
set_option maxHeartbeats 4000000 in
set_option maxRecDepth 100000 in
theorem tM_night_J220 {G : wG} {X : wX} {x5 : Int32} {x6 : Int32} {s : wM} {r0 : Int32} {s1 : wM} (hX : wOK G X cX11_night RX11 (some .int) 3) (hQ : wRt G X (wQi G r0 s1)) (hN : wNl X = 9) (h : fM_night_J220 x5 x6 s = some (r0, s1)) : WB G X 220 [(0, .ref (G.1 161)), (5, .int x5), (6, .int x6)] [] s := by
  unfold fM_night_J220 at h
  refine wb_iload 1 hX dX11_night_220 rfl (pq := 222) rfl ?_
  refine wb_if_le (tgt := 229) hX dX11_night_222 (by decide) (fun c_1 => ?_) (pq := 225) rfl (fun c_1 => ?_)
  · have h := ite_t c_1 h
    exact tM_night_J229 hX hQ hN h
  · have h := ite_f c_1 h
    refine wb_aload_n 0 hX dX11_night_225 rfl (pq := 226) rfl ?_
    obtain ⟨q_3, hc_2, h⟩ := bind_s h
    refine wb_callVv (s1 := q_3) [] hX sh_161 ml_1249 (tM_adds hc_2) (by decide) rfl rfl (Nat.le_of_ble_eq_true rfl) dX11_night_226 (pq := 229) rfl ?_
    exact tM_night_J229 hX hQ hN h
set_option maxHeartbeats 4000000 in
set_option maxRecDepth 100000 in
theorem tM_night_L91 {G : wG} {X : wX} {r0 : Int32} {s1 : wM} (hX : wOK G X cX11_night RX11 (some .int) 3) (hQ : wRt G X (wQi G r0 s1)) (hN : wNl X = 9) : ∀ (n : Nat) (x5 : Int32) (x6 : Int32) (x7 : Int32) (s : wM), wh4 (fM_night_L91) n x5 x6 x7 s = some (r0, s1) → WB G X 91 [(0, .ref (G.1 161)), (5, .int x5), (6, .int x6), (7, .int x7)] [] s := by
  intro n
  induction n with
  | zero => intro x5 x6 x7 s h; cases h
  | succ n hk91 =>
    intro x5 x6 x7 s h
    have h : fM_night_L91 x5 x6 x7 s (wh4 (fM_night_L91) n) = some (r0, s1) := h
    unfold fM_night_L91 at h
    refine wb_iload 3 hX dX11_night_91 rfl (pq := 93) rfl ?_
    refine wb_aload_n 0 hX dX11_night_93 rfl (pq := 94) rfl ?_
    refine wb_getI hX fl_1543 sh_161 rfl dX11_night_94 (pq := 97) rfl ?_
    refine wb_icmp_ge (tgt := 220) hX dX11_night_97 (by decide) (fun c_1 => ?_) (pq := 100) rfl (fun c_1 => ?_)
    · have h := ite_t c_1 h
      refine wb_sub [0, 1, 2] (loc' := [(0, .ref (G.1 161)), (5, .int x5), (6, .int x6)]) rfl ?_
      exact tM_night_J220 hX hQ hN h
    · have h := ite_f c_1 h
      refine wb_iload 2 hX dX11_night_100 rfl (pq := 102) rfl ?_
      refine wb_if_eq (tgt := 220) hX dX11_night_102 (by decide) (fun c_2 => ?_) (pq := 105) rfl (fun c_2 => ?_)
      · have h := ite_t c_2 h
        refine wb_sub [0, 1, 2] (loc' := [(0, .ref (G.1 161)), (5, .int x5), (6, .int x6)]) rfl ?_
        exact tM_night_J220 hX hQ hN h
      · have h := ite_f c_2 h
        refine wb_iconst (v := iI (0)) hX dX11_night_105 rfl (pq := 106) rfl ?_
        refine wb_istore (loc' := [(8, .int (iI (0))), (0, .ref (G.1 161)), (5, .int x5), (6, .int x6), (7, .int x7)]) hX hN dX11_night_106 (by decide) rfl (pq := 108) rfl ?_
        refine wb_sub [1, 2, 3, 4, 0] (loc' := [(0, .ref (G.1 161)), (5, .int x5), (6, .int x6), (7, .int x7), (8, .int (iI (0)))]) rfl ?_
        exact tM_night_L108 hX hQ hN hk91 100000 _ _ _ _ h
set_option maxHeartbeats 4000000 in
set_option maxRecDepth 100000 in
theorem tM_night_L29 {G : wG} {X : wX} {x1 : Int32} {r0 : Int32} {s1 : wM} (hX : wOK G X cX11_night RX11 (some .int) 3) (hQ : wRt G X (wQi G r0 s1)) (hN : wNl X = 9) : ∀ (n : Nat) (x2 : Int32) (x3 : Int32) (s : wM), wh3 (fM_night_L29 x1) n x2 x3 s = some (r0, s1) → WB G X 29 [(0, .ref (G.1 161)), (1, .int x1), (2, .int x2), (3, .int x3)] [] s := by
  intro n
  induction n with
  | zero => intro x2 x3 s h; cases h
  | succ n hk29 =>
    intro x2 x3 s h
    have h : fM_night_L29 x1 x2 x3 s (wh3 (fM_night_L29 x1) n) = some (r0, s1) := h
    unfold fM_night_L29 at h
    refine wb_iload_n 3 hX dX11_night_29 rfl (pq := 30) rfl ?_
    refine wb_if_eq (tgt := 60) hX dX11_night_30 (by decide) (fun c_1 => ?_) (pq := 33) rfl (fun c_1 => ?_)
    · have h := ite_t c_1 h
      refine wb_aload_n 0 hX dX11_night_60 rfl (pq := 61) rfl ?_
      refine wb_iload_n 1 hX dX11_night_61 rfl (pq := 62) rfl ?_
      refine wb_bipush (v := iI (40)) hX dX11_night_62 (by decide) (pq := 64) rfl ?_
      refine wb_iload_n 2 hX dX11_night_64 rfl (pq := 65) rfl ?_
      obtain ⟨q_3, hc_2, h⟩ := bind_s h
      refine wb_callVi (r0 := q_3) (s1 := s) [.int x1, .int (iI (40)), .int x2] hX sh_161 ml_1162 (tM_faultOf hc_2) (by decide) rfl rfl (Nat.le_of_ble_eq_true rfl) dX11_night_65 (pq := 68) rfl ?_
      refine wb_istore (loc' := [(4, .int q_3), (0, .ref (G.1 161)), (1, .int x1), (2, .int x2), (3, .int x3)]) hX hN dX11_night_68 (by decide) rfl (pq := 70) rfl ?_
      refine wb_iload 0 hX dX11_night_70 rfl (pq := 72) rfl ?_
      refine wb_if_ge (tgt := 78) hX dX11_night_72 (by decide) (fun c_4 => ?_) (pq := 75) rfl (fun c_4 => ?_)
      · have h := ite_t c_4 h
        refine wb_aload_n 1 hX dX11_night_78 rfl (pq := 79) rfl ?_
        obtain ⟨q_6, hc_5, h⟩ := bind_s h
        refine wb_callVv (s1 := q_6) [] hX sh_161 ml_1237 (tM_putsBy hc_5) (by decide) rfl rfl (Nat.le_of_ble_eq_true rfl) dX11_night_79 (pq := 82) rfl ?_
        refine wb_iconst (v := iI (0)) hX dX11_night_82 rfl (pq := 83) rfl ?_
        refine wb_istore (loc' := [(5, .int (iI (0))), (4, .int q_3), (0, .ref (G.1 161)), (1, .int x1), (2, .int x2), (3, .int x3)]) hX hN dX11_night_83 (by decide) rfl (pq := 85) rfl ?_
        refine wb_iconst (v := iI (1)) hX dX11_night_85 rfl (pq := 86) rfl ?_
        refine wb_istore (loc' := [(6, .int (iI (1))), (5, .int (iI (0))), (4, .int q_3), (0, .ref (G.1 161)), (1, .int x1), (2, .int x2), (3, .int x3)]) hX hN dX11_night_86 (by decide) rfl (pq := 88) rfl ?_
        refine wb_iconst (v := iI (0)) hX dX11_night_88 rfl (pq := 89) rfl ?_
        refine wb_istore (loc' := [(7, .int (iI (0))), (6, .int (iI (1))), (5, .int (iI (0))), (4, .int q_3), (0, .ref (G.1 161)), (1, .int x1), (2, .int x2), (3, .int x3)]) hX hN dX11_night_89 (by decide) rfl (pq := 91) rfl ?_
        refine wb_sub [4, 2, 1, 0] (loc' := [(0, .ref (G.1 161)), (5, .int (iI (0))), (6, .int (iI (1))), (7, .int (iI (0)))]) rfl ?_
        exact tM_night_L91 hX hQ hN 100000 _ _ _ _ h
      · have h := ite_f c_4 h
        refine wb_iload 0 hX dX11_night_75 rfl (pq := 77) rfl ?_
        exact wb_iret hX hQ h dX11_night_77
    · have h := ite_f c_1 h
      refine wb_aload_n 0 hX dX11_night_33 rfl (pq := 34) rfl ?_
      obtain ⟨q_8, hc_7, h⟩ := bind_s h
      refine wb_callVi (r0 := q_8.1) (s1 := q_8.2) [] hX sh_161 ml_1257 (tM_readsStep hc_7) (by decide) rfl rfl (Nat.le_of_ble_eq_true rfl) dX11_night_34 (pq := 37) rfl ?_
      refine wb_istore_n (loc' := [(2, .int q_8.1), (0, .ref (G.1 161)), (1, .int x1), (3, .int x3)]) hX hN dX11_night_37 (by decide) rfl (pq := 38) rfl ?_
      refine wb_iload_n 0 hX dX11_night_38 rfl (pq := 39) rfl ?_
      refine wb_if_eq (tgt := 55) hX dX11_night_39 (by decide) (fun c_9 => ?_) (pq := 42) rfl (fun c_9 => ?_)
      · have h := ite_t c_9 h
        refine wb_sub [1, 2, 0] (loc' := [(0, .ref (G.1 161)), (1, .int x1), (2, .int q_8.1)]) rfl ?_
        exact tM_night_J55 hX hQ hN hk29 h
      · have h := ite_f c_9 h
        refine wb_aload_n 1 hX dX11_night_42 rfl (pq := 43) rfl ?_
        refine wb_bipush (v := iI (59)) hX dX11_night_43 (by decide) (pq := 45) rfl ?_
        obtain ⟨q_11, hc_10, h⟩ := bind_s h
        refine wb_callVi (r0 := q_11.1) (s1 := q_11.2) [.int (iI (59))] hX sh_161 ml_1147 (tM_takes hc_10) (by decide) rfl rfl (Nat.le_of_ble_eq_true rfl) dX11_night_45 (pq := 48) rfl ?_
        refine wb_if_eq (tgt := 55) hX dX11_night_48 (by decide) (fun c_12 => ?_) (pq := 51) rfl (fun c_12 => ?_)
        · have h := ite_t c_12 h
          refine wb_sub [1, 2, 0] (loc' := [(0, .ref (G.1 161)), (1, .int x1), (2, .int q_8.1)]) rfl ?_
          exact tM_night_J55 hX hQ hN hk29 h
        · have h := ite_f c_12 h
          refine wb_iconst (v := iI (1)) hX dX11_night_51 rfl (pq := 52) rfl ?_
          refine wb_goto (tgt := 56) hX dX11_night_52 (by decide) ?_
          refine wb_sub [1, 2, 0] (loc' := [(0, .ref (G.1 161)), (1, .int x1), (2, .int q_8.1)]) rfl ?_
          exact tM_night_J56 hX hQ hN hk29 h
set_option maxHeartbeats 4000000 in
set_option maxRecDepth 100000 in
theorem tM_night_J28 {G : wG} {X : wX} {x1 : Int32} {x2 : Int32} {v0 : Int32} {s : wM} {r0 : Int32} {s1 : wM} (hX : wOK G X cX11_night RX11 (some .int) 3) (hQ : wRt G X (wQi G r0 s1)) (hN : wNl X = 9) (h : fM_night_J28 x1 x2 v0 s = some (r0, s1)) : WB G X 28 [(0, .ref (G.1 161)), (1, .int x1), (2, .int x2)] [.int v0] s := by
  unfold fM_night_J28 at h
  refine wb_istore_n (loc' := [(3, .int v0), (0, .ref (G.1 161)), (1, .int x1), (2, .int x2)]) hX hN dX11_night_28 (by decide) rfl (pq := 29) rfl ?_
  refine wb_sub [1, 2, 3, 0] (loc' := [(0, .ref (G.1 161)), (1, .int x1), (2, .int x2), (3, .int v0)]) rfl ?_
  exact tM_night_L29 hX hQ hN 100000 _ _ _ h
set_option maxHeartbeats 4000000 in
set_option maxRecDepth 100000 in
theorem tM_night {l : Launch} {G : wG} {s : wM} {r0 : Int32} {s1 : wM} (h : fM_night s = some (r0, s1)) : wMet l G yX11_night cX11_night 9 (some .int) 3 [.ref (G.1 161)] s (wQi G r0 s1) := by
  refine wMet_of (own := RX11) (by decide +kernel) rfl (Nat.le_of_ble_eq_true rfl) ?_
  intro X hX hQ hN hl
  show WB G X 0 [(0, .ref (G.1 161))] [] s
  unfold fM_night at h
  refine wb_aload_n 0 hX dX11_night_0 rfl (pq := 1) rfl ?_
  refine wb_iconst (v := iI (0)) hX dX11_night_1 rfl (pq := 2) rfl ?_
  refine wb_putI hX fp_1518 sh_161 rfl dX11_night_2 rfl rfl (pq := 5) rfl ?_
  refine wb_mem (fun s_1 es_1 => ?_)
  have h := nmM_s h s_1 es_1
  refine wb_aload_n 0 hX dX11_night_5 rfl (pq := 6) rfl ?_
  refine wb_bipush (v := iI (40)) hX dX11_night_6 (by decide) (pq := 8) rfl ?_
  obtain ⟨q_3, hc_2, h⟩ := bind_s h
  refine wb_callVi (r0 := q_3.1) (s1 := q_3.2) [.int (iI (40))] hX sh_161 ml_1131 (tM_begins hc_2) (by decide) rfl rfl (Nat.le_of_ble_eq_true rfl) dX11_night_8 (pq := 11) rfl ?_
  refine wb_istore_n (loc' := [(1, .int q_3.1), (0, .ref (G.1 161))]) hX hN dX11_night_11 (by decide) rfl (pq := 12) rfl ?_
  refine wb_aload_n 1 hX dX11_night_12 rfl (pq := 13) rfl ?_
  refine wb_iconst (v := iI (0)) hX dX11_night_13 rfl (pq := 14) rfl ?_
  refine wb_putI hX fp_1543 sh_161 rfl dX11_night_14 rfl rfl (pq := 17) rfl ?_
  refine wb_mem (fun s_4 es_4 => ?_)
  have h := nmM_s h s_4 es_4
  refine wb_iconst (v := iI (1)) hX dX11_night_17 rfl (pq := 18) rfl ?_
  refine wb_istore_n (loc' := [(2, .int (iI (1))), (1, .int q_3.1), (0, .ref (G.1 161))]) hX hN dX11_night_18 (by decide) rfl (pq := 19) rfl ?_
  refine wb_iload_n 1 hX dX11_night_19 rfl (pq := 20) rfl ?_
  refine wb_if_le (tgt := 27) hX dX11_night_20 (by decide) (fun c_5 => ?_) (pq := 23) rfl (fun c_5 => ?_)
  · have h := ite_t c_5 h
    refine wb_iconst (v := iI (0)) hX dX11_night_27 rfl (pq := 28) rfl ?_
    refine wb_sub [2, 1, 0] (loc' := [(0, .ref (G.1 161)), (1, .int q_3.1), (2, .int (iI (1)))]) rfl ?_
    exact tM_night_J28 hX hQ hN h
  · have h := ite_f c_5 h
    refine wb_iconst (v := iI (1)) hX dX11_night_23 rfl (pq := 24) rfl ?_
    refine wb_goto (tgt := 28) hX dX11_night_24 (by decide) ?_
    refine wb_sub [2, 1, 0] (loc' := [(0, .ref (G.1 161)), (1, .int q_3.1), (2, .int (iI (1)))]) rfl ?_
    exact tM_night_J28 hX hQ hN h
set_option maxHeartbeats 4000000 in
set_option maxRecDepth 100000 in
theorem tM_seeps_J68 {G : wG} {X : wX} {v0 : Int32} {s : wM} {r0 : Int32} (hX : wOK G X cX11_seeps RX11 (some .int) 1) (hQ : wRt G X (wQi G r0 s)) (hN : wNl X = 6) (h : fM_seeps_J68 v0 s = some r0) : WB G X 68 [] [.int v0] s := by
  unfold fM_seeps_J68 at h
  exact wb_iretP hX hQ h dX11_seeps_68
set_option maxHeartbeats 4000000 in
set_option maxRecDepth 100000 in
theorem tM_seeps_J45 {G : wG} {X : wX} {x1 : Nat} {x2 : Int32} {x3 : Int32} {x4 : Int32} {v0 : Int32} {s : wM} {r0 : Int32} (hX : wOK G X cX11_seeps RX11 (some .int) 1) (hQ : wRt G X (wQi G r0 s)) (hN : wNl X = 6) (hx1 : wSh[x1]? = some (.inl (.int, 9, 0, 0))) (h : fM_seeps_J45 x1 x2 x3 x4 v0 s = some r0) : WB G X 45 [(1, .ref (G.1 x1)), (2, .int x2), (3, .int x3), (4, .int x4)] [.int v0] s := by
  unfold fM_seeps_J45 at h
  refine wb_istore (loc' := [(5, .int v0), (1, .ref (G.1 x1)), (2, .int x2), (3, .int x3), (4, .int x4)]) hX hN dX11_seeps_45 (by decide) rfl (pq := 47) rfl ?_
  refine wb_iload 0 hX dX11_seeps_47 rfl (pq := 49) rfl ?_
  refine wb_if_eq (tgt := 67) hX dX11_seeps_49 (by decide) (fun c_1 => ?_) (pq := 52) rfl (fun c_1 => ?_)
  · have h := ite_t c_1 h
    refine wb_iconst (v := iI (0)) hX dX11_seeps_67 rfl (pq := 68) rfl ?_
    refine wb_sub [] (loc' := []) rfl ?_
    exact tM_seeps_J68 hX hQ hN h
  · have h := ite_f c_1 h
    refine wb_aload_n 1 hX dX11_seeps_52 rfl (pq := 53) rfl ?_
    refine wb_iload_n 2 hX dX11_seeps_53 rfl (pq := 54) rfl ?_
    obtain ⟨hi_2, h⟩ := chk_some h
    refine wb_iald hX hx1 hi_2 dX11_seeps_54 (pq := 55) rfl ?_
    refine wb_aload_n 1 hX dX11_seeps_55 rfl (pq := 56) rfl ?_
    refine wb_iload_n 3 hX dX11_seeps_56 rfl (pq := 57) rfl ?_
    obtain ⟨hi_3, h⟩ := chk_some h
    refine wb_iald hX hx1 hi_3 dX11_seeps_57 (pq := 58) rfl ?_
    refine wb_isub hX dX11_seeps_58 (pq := 59) rfl ?_
    refine wb_iconst (v := iI (2)) hX dX11_seeps_59 rfl (pq := 60) rfl ?_
    refine wb_iload 4 hX dX11_seeps_60 rfl (pq := 62) rfl ?_
    refine wb_imul hX dX11_seeps_62 (pq := 63) rfl ?_
    obtain ⟨hz_4, h⟩ := chkD_some h
    refine wb_idiv hX dX11_seeps_63 hz_4 (pq := 64) rfl ?_
    refine wb_goto (tgt := 68) hX dX11_seeps_64 (by decide) ?_
    refine wb_sub [] (loc' := []) rfl ?_
    exact tM_seeps_J68 hX hQ hN h
set_option maxHeartbeats 4000000 in
set_option maxRecDepth 100000 in
theorem tM_seeps_J44 {G : wG} {X : wX} {x1 : Nat} {x2 : Int32} {x3 : Int32} {x4 : Int32} {s : wM} {r0 : Int32} (hX : wOK G X cX11_seeps RX11 (some .int) 1) (hQ : wRt G X (wQi G r0 s)) (hN : wNl X = 6) (hx1 : wSh[x1]? = some (.inl (.int, 9, 0, 0))) (h : fM_seeps_J44 x1 x2 x3 x4 s = some r0) : WB G X 44 [(1, .ref (G.1 x1)), (2, .int x2), (3, .int x3), (4, .int x4)] [] s := by
  unfold fM_seeps_J44 at h
  refine wb_iconst (v := iI (0)) hX dX11_seeps_44 rfl (pq := 45) rfl ?_
  exact tM_seeps_J45 hX hQ hN hx1 h
set_option maxHeartbeats 4000000 in
set_option maxRecDepth 100000 in
theorem tM_seeps {l : Launch} {G : wG} {s : wM} {x1 : Nat} {x2 : Int32} {x3 : Int32} {r0 : Int32} (hx1 : wSh[x1]? = some (.inl (.int, 9, 0, 0))) (h : fM_seeps s x1 x2 x3 = some r0) : wMet l G yX11_seeps cX11_seeps 6 (some .int) 1 [.ref (G.1 161), .ref (G.1 x1), .int x2, .int x3] s (wQi G r0 s) := by
  refine wMet_of (own := RX11) (by decide +kernel) rfl (Nat.le_of_ble_eq_true rfl) ?_
  intro X hX hQ hN hl
  show WB G X 0 [(0, .ref (G.1 161)), (1, .ref (G.1 x1)), (2, .int x2), (3, .int x3)] [] s
  unfold fM_seeps at h
  refine wb_aload_n 0 hX dX11_seeps_0 rfl (pq := 1) rfl ?_
  refine wb_getR hX fl_1525 sh_161 rfl dX11_seeps_1 (pq := 4) rfl ?_
  refine wb_bipush (v := iI (9)) hX dX11_seeps_4 (by decide) (pq := 6) rfl ?_
  refine wb_iload_n 2 hX dX11_seeps_6 rfl (pq := 7) rfl ?_
  refine wb_imul hX dX11_seeps_7 (pq := 8) rfl ?_
  refine wb_iload_n 3 hX dX11_seeps_8 rfl (pq := 9) rfl ?_
  refine wb_iadd hX dX11_seeps_9 (pq := 10) rfl ?_
  obtain ⟨hi_1, h⟩ := chk_some h
  refine wb_iald hX sh_166 hi_1 dX11_seeps_10 (pq := 11) rfl ?_
  refine wb_topi (fun y_2 ey_2 => ?_)
  have h := nmI_s h y_2 ey_2
  refine wb_istore (loc' := [(4, .int y_2), (0, .ref (G.1 161)), (1, .ref (G.1 x1)), (2, .int x2), (3, .int x3)]) hX hN dX11_seeps_11 (by decide) rfl (pq := 13) rfl ?_
  refine wb_aload_n 1 hX dX11_seeps_13 rfl (pq := 14) rfl ?_
  refine wb_getR hX fl_1524 sh_161 rfl dX11_seeps_14 (pq := 17) rfl ?_
  refine wb_iload_n 3 hX dX11_seeps_17 rfl (pq := 18) rfl ?_
  obtain ⟨hi_3, h⟩ := chk_some h
  refine wb_iald hX sh_165 hi_3 dX11_seeps_18 (pq := 19) rfl ?_
  refine wb_iload_n 4 hX dX11_seeps_19 rfl (pq := 20) rfl ?_
  obtain ⟨q_5, hc_4, h⟩ := bind_s h
  refine wb_callSi (r0 := q_5) (s1 := s) [.int (s.1 165 x2.toNatClampNeg), .int x3] hX ml_1187 (tM_has hc_4) (by decide) rfl rfl (Nat.le_of_ble_eq_true rfl) dX11_seeps_20 (pq := 23) rfl ?_
  refine wb_if_eq (tgt := 44) hX dX11_seeps_23 (by decide) (fun c_6 => ?_) (pq := 26) rfl (fun c_6 => ?_)
  · have h := ite_t c_6 h
    refine wb_sub [2, 3, 4, 0] (loc' := [(1, .ref (G.1 x1)), (2, .int x2), (3, .int x3), (4, .int y_2)]) rfl ?_
    exact tM_seeps_J44 hX hQ hN hx1 h
  · have h := ite_f c_6 h
    refine wb_iload 0 hX dX11_seeps_26 rfl (pq := 28) rfl ?_
    refine wb_if_le (tgt := 44) hX dX11_seeps_28 (by decide) (fun c_7 => ?_) (pq := 31) rfl (fun c_7 => ?_)
    · have h := ite_t c_7 h
      refine wb_sub [2, 3, 4, 0] (loc' := [(1, .ref (G.1 x1)), (2, .int x2), (3, .int x3), (4, .int y_2)]) rfl ?_
      exact tM_seeps_J44 hX hQ hN hx1 h
    · have h := ite_f c_7 h
      refine wb_aload_n 2 hX dX11_seeps_31 rfl (pq := 32) rfl ?_
      refine wb_iload_n 3 hX dX11_seeps_32 rfl (pq := 33) rfl ?_
      refine wb_iald hX hx1 hi_3 dX11_seeps_33 (pq := 34) rfl ?_
      refine wb_aload_n 2 hX dX11_seeps_34 rfl (pq := 35) rfl ?_
      refine wb_iload_n 4 hX dX11_seeps_35 rfl (pq := 36) rfl ?_
      obtain ⟨hi_8, h⟩ := chk_some h
      refine wb_iald hX hx1 hi_8 dX11_seeps_36 (pq := 37) rfl ?_
      refine wb_icmp_le (tgt := 44) hX dX11_seeps_37 (by decide) (fun c_9 => ?_) (pq := 40) rfl (fun c_9 => ?_)
      · have h := ite_t c_9 h
        refine wb_sub [2, 3, 4, 0] (loc' := [(1, .ref (G.1 x1)), (2, .int x2), (3, .int x3), (4, .int y_2)]) rfl ?_
        exact tM_seeps_J44 hX hQ hN hx1 h
      · have h := ite_f c_9 h
        refine wb_iconst (v := iI (1)) hX dX11_seeps_40 rfl (pq := 41) rfl ?_
        refine wb_goto (tgt := 45) hX dX11_seeps_41 (by decide) ?_
        refine wb_sub [2, 3, 4, 0] (loc' := [(1, .ref (G.1 x1)), (2, .int x2), (3, .int x3), (4, .int y_2)]) rfl ?_
        exact tM_seeps_J45 hX hQ hN hx1 h
set_option maxHeartbeats 4000000 in
set_option maxRecDepth 100000 in
theorem tM_weekGoes_J39 {G : wG} {X : wX} {k3 : Int32 → wM → Option (wM)} {x1 : Nat} {x2 : Int32} {x3 : Int32} {x4 : Int32} {v0 : Int32} {v1 : Int32} {v2 : Int32} {s : wM} {s1 : wM} (hX : wOK G X cX11_weekGoes RX11 none 2) (hQ : wRt G X (wQv G s1)) (hN : wNl X = 8) (hk3 : ∀ (x4 : Int32) (s : wM), k3 x4 s = some s1 → WB G X 3 [(0, .ref (G.1 161)), (1, .ref (G.1 x1)), (2, .int x2), (3, .int x3), (4, .int x4)] [] s) (hx1 : wSh[x1]? = some (.inl (.int, 9, 0, 0))) (h : fM_weekGoes_J39 k3 x1 x2 x3 x4 v0 v1 v2 s = some s1) : WB G X 39 [(0, .ref (G.1 161)), (1, .ref (G.1 x1)), (2, .int x2), (3, .int x3), (4, .int x4)] [.int v0, .int v1, .int v2, .ref (G.1 178)] s := by
  unfold fM_weekGoes_J39 at h
  refine wb_iadd hX dX11_weekGoes_39 (pq := 40) rfl ?_
  obtain ⟨hi_1, h⟩ := chk_some h
  refine wb_iast hX sh_178 hi_1 dX11_weekGoes_40 (pq := 41) rfl ?_
  refine wb_mem (fun s_2 es_2 => ?_)
  have h := nmM_s h s_2 es_2
  refine wb_iinc (v := (x4 + iI (1))) (loc' := [(4, .int (x4 + iI (1))), (0, .ref (G.1 161)), (1, .ref (G.1 x1)), (2, .int x2), (3, .int x3)]) 4 hX hN dX11_weekGoes_41 rfl rfl (by decide) rfl (pq := 44) rfl ?_
  refine wb_goto (tgt := 3) hX dX11_weekGoes_44 (by decide) ?_
  refine wb_sub [1, 2, 3, 4, 0] (loc' := [(0, .ref (G.1 161)), (1, .ref (G.1 x1)), (2, .int x2), (3, .int x3), (4, .int (x4 + iI (1)))]) rfl ?_
  exact hk3 _ _ h
set_option maxHeartbeats 4000000 in
set_option maxRecDepth 100000 in
theorem tM_weekGoes_J96 {G : wG} {X : wX} {k50 : Int32 → wM → Option (wM)} {k65 : Int32 → Int32 → Option (wM)} {x1 : Nat} {x4 : Int32} {x6 : Int32} {v0 : Int32} {v1 : Int32} {s : wM} {s1 : wM} (hX : wOK G X cX11_weekGoes RX11 none 2) (hQ : wRt G X (wQv G s1)) (hN : wNl X = 8) (hk50 : ∀ (x4 : Int32) (s : wM), k50 x4 s = some s1 → WB G X 50 [(0, .ref (G.1 161)), (1, .ref (G.1 x1)), (4, .int x4)] [] s) (hk65 : ∀ (x5 : Int32) (x6 : Int32), k65 x5 x6 = some s1 → WB G X 65 [(0, .ref (G.1 161)), (1, .ref (G.1 x1)), (4, .int x4), (5, .int x5), (6, .int x6)] [] s) (hx1 : wSh[x1]? = some (.inl (.int, 9, 0, 0))) (h : fM_weekGoes_J96 k50 k65 x1 x4 x6 v0 v1 s = some s1) : WB G X 96 [(0, .ref (G.1 161)), (1, .ref (G.1 x1)), (4, .int x4), (6, .int x6)] [.int v0, .int v1] s := by
  unfold fM_weekGoes_J96 at h
  refine wb_iadd hX dX11_weekGoes_96 (pq := 97) rfl ?_
  refine wb_istore (loc' := [(5, .int (v1 + v0)), (0, .ref (G.1 161)), (1, .ref (G.1 x1)), (4, .int x4), (6, .int x6)]) hX hN dX11_weekGoes_97 (by decide) rfl (pq := 99) rfl ?_
  refine wb_iinc (v := (x6 + iI (1))) (loc' := [(6, .int (x6 + iI (1))), (5, .int (v1 + v0)), (0, .ref (G.1 161)), (1, .ref (G.1 x1)), (4, .int x4)]) 4 hX hN dX11_weekGoes_99 rfl rfl (by decide) rfl (pq := 102) rfl ?_
  refine wb_goto (tgt := 65) hX dX11_weekGoes_102 (by decide) ?_
  refine wb_sub [2, 3, 4, 1, 0] (loc' := [(0, .ref (G.1 161)), (1, .ref (G.1 x1)), (4, .int x4), (5, .int (v1 + v0)), (6, .int (x6 + iI (1)))]) rfl ?_
  exact hk65 _ _ h
set_option maxHeartbeats 4000000 in
set_option maxRecDepth 100000 in
theorem tM_weekGoes_J146 {G : wG} {X : wX} {k50 : Int32 → wM → Option (wM)} {k108 : Int32 → wM → Option (wM)} {x1 : Nat} {x4 : Int32} {x5 : Int32} {x6 : Int32} {v0 : Int32} {s : wM} {s1 : wM} (hX : wOK G X cX11_weekGoes RX11 none 2) (hQ : wRt G X (wQv G s1)) (hN : wNl X = 8) (hk50 : ∀ (x4 : Int32) (s : wM), k50 x4 s = some s1 → WB G X 50 [(0, .ref (G.1 161)), (1, .ref (G.1 x1)), (4, .int x4)] [] s) (hk108 : ∀ (x6 : Int32) (s : wM), k108 x6 s = some s1 → WB G X 108 [(0, .ref (G.1 161)), (1, .ref (G.1 x1)), (4, .int x4), (5, .int x5), (6, .int x6)] [] s) (hx1 : wSh[x1]? = some (.inl (.int, 9, 0, 0))) (h : fM_weekGoes_J146 k50 k108 x1 x4 x5 x6 v0 s = some s1) : WB G X 146 [(0, .ref (G.1 161)), (1, .ref (G.1 x1)), (4, .int x4), (5, .int x5), (6, .int x6)] [.int v0] s := by
  unfold fM_weekGoes_J146 at h
  refine wb_istore (loc' := [(7, .int v0), (0, .ref (G.1 161)), (1, .ref (G.1 x1)), (4, .int x4), (5, .int x5), (6, .int x6)]) hX hN dX11_weekGoes_146 (by decide) rfl (pq := 148) rfl ?_
  refine wb_aload_n 1 hX dX11_weekGoes_148 rfl (pq := 149) rfl ?_
  refine wb_getR hX fl_1544 sh_161 rfl dX11_weekGoes_149 (pq := 152) rfl ?_
  refine wb_iload 3 hX dX11_weekGoes_152 rfl (pq := 154) rfl ?_
  refine wb_dup2 hX dX11_weekGoes_154 rfl rfl (pq := 155) rfl ?_
  obtain ⟨hi_1, h⟩ := chk_some h
  refine wb_iald hX sh_178 hi_1 dX11_weekGoes_155 (pq := 156) rfl ?_
  refine wb_iload 0 hX dX11_weekGoes_156 rfl (pq := 158) rfl ?_
  refine wb_isub hX dX11_weekGoes_158 (pq := 159) rfl ?_
  refine wb_iast hX sh_178 hi_1 dX11_weekGoes_159 (pq := 160) rfl ?_
  refine wb_mem (fun s_2 es_2 => ?_)
  have h := nmM_s h s_2 es_2
  refine wb_aload_n 1 hX dX11_weekGoes_160 rfl (pq := 161) rfl ?_
  refine wb_getR hX fl_1544 sh_161 rfl dX11_weekGoes_161 (pq := 164) rfl ?_
  refine wb_iload 5 hX dX11_weekGoes_164 rfl (pq := 166) rfl ?_
  refine wb_dup2 hX dX11_weekGoes_166 rfl rfl (pq := 167) rfl ?_
  obtain ⟨hi_3, h⟩ := chk_some h
  refine wb_iald hX sh_178 hi_3 dX11_weekGoes_167 (pq := 168) rfl ?_
  refine wb_iload 0 hX dX11_weekGoes_168 rfl (pq := 170) rfl ?_
  refine wb_iadd hX dX11_weekGoes_170 (pq := 171) rfl ?_
  refine wb_iast hX sh_178 hi_3 dX11_weekGoes_171 (pq := 172) rfl ?_
  refine wb_mem (fun s_4 es_4 => ?_)
  have h := nmM_s h s_4 es_4
  refine wb_iinc (v := (x6 + iI (1))) (loc' := [(6, .int (x6 + iI (1))), (7, .int v0), (0, .ref (G.1 161)), (1, .ref (G.1 x1)), (4, .int x4), (5, .int x5)]) 5 hX hN dX11_weekGoes_172 rfl rfl (by decide) rfl (pq := 175) rfl ?_
  refine wb_goto (tgt := 108) hX dX11_weekGoes_175 (by decide) ?_
  refine wb_sub [2, 3, 4, 5, 0] (loc' := [(0, .ref (G.1 161)), (1, .ref (G.1 x1)), (4, .int x4), (5, .int x5), (6, .int (x6 + iI (1)))]) rfl ?_
  exact hk108 _ _ h
set_option maxHeartbeats 4000000 in
set_option maxRecDepth 100000 in
theorem tM_weekGoes_J178 {G : wG} {X : wX} {k50 : Int32 → wM → Option (wM)} {x1 : Nat} {x4 : Int32} {s : wM} {s1 : wM} (hX : wOK G X cX11_weekGoes RX11 none 2) (hQ : wRt G X (wQv G s1)) (hN : wNl X = 8) (hk50 : ∀ (x4 : Int32) (s : wM), k50 x4 s = some s1 → WB G X 50 [(0, .ref (G.1 161)), (1, .ref (G.1 x1)), (4, .int x4)] [] s) (hx1 : wSh[x1]? = some (.inl (.int, 9, 0, 0))) (h : fM_weekGoes_J178 k50 x1 x4 s = some s1) : WB G X 178 [(0, .ref (G.1 161)), (1, .ref (G.1 x1)), (4, .int x4)] [] s := by
  unfold fM_weekGoes_J178 at h
  refine wb_iinc (v := (x4 + iI (1))) (loc' := [(4, .int (x4 + iI (1))), (0, .ref (G.1 161)), (1, .ref (G.1 x1))]) 2 hX hN dX11_weekGoes_178 rfl rfl (by decide) rfl (pq := 181) rfl ?_
  refine wb_goto (tgt := 50) hX dX11_weekGoes_181 (by decide) ?_
  refine wb_sub [1, 2, 0] (loc' := [(0, .ref (G.1 161)), (1, .ref (G.1 x1)), (4, .int (x4 + iI (1)))]) rfl ?_
  exact hk50 _ _ h
set_option maxHeartbeats 4000000 in
set_option maxRecDepth 100000 in
theorem tM_weekGoes_L108 {G : wG} {X : wX} {k50 : Int32 → wM → Option (wM)} {x1 : Nat} {x4 : Int32} {x5 : Int32} {s1 : wM} (hX : wOK G X cX11_weekGoes RX11 none 2) (hQ : wRt G X (wQv G s1)) (hN : wNl X = 8) (hk50 : ∀ (x4 : Int32) (s : wM), k50 x4 s = some s1 → WB G X 50 [(0, .ref (G.1 161)), (1, .ref (G.1 x1)), (4, .int x4)] [] s) (hx1 : wSh[x1]? = some (.inl (.int, 9, 0, 0))) : ∀ (n : Nat) (x6 : Int32) (s : wM), wh2 (fM_weekGoes_L108 k50 x1 x4 x5) n x6 s = some s1 → WB G X 108 [(0, .ref (G.1 161)), (1, .ref (G.1 x1)), (4, .int x4), (5, .int x5), (6, .int x6)] [] s := by
  intro n
  induction n with
  | zero => intro x6 s h; cases h
  | succ n hk108 =>
    intro x6 s h
    have h : fM_weekGoes_L108 k50 x1 x4 x5 x6 s (wh2 (fM_weekGoes_L108 k50 x1 x4 x5) n) = some s1 := h
    unfold fM_weekGoes_L108 at h
    refine wb_iload 4 hX dX11_weekGoes_108 rfl (pq := 110) rfl ?_
    refine wb_aload_n 0 hX dX11_weekGoes_110 rfl (pq := 111) rfl ?_
    refine wb_getI hX fl_1521 sh_161 rfl dX11_weekGoes_111 (pq := 114) rfl ?_
    refine wb_icmp_ge (tgt := 178) hX dX11_weekGoes_114 (by decide) (fun c_1 => ?_) (pq := 117) rfl (fun c_1 => ?_)
    · have h := ite_t c_1 h
      refine wb_sub [0, 1, 2] (loc' := [(0, .ref (G.1 161)), (1, .ref (G.1 x1)), (4, .int x4)]) rfl ?_
      exact tM_weekGoes_J178 hX hQ hN hk50 hx1 h
    · have h := ite_f c_1 h
      refine wb_iload 3 hX dX11_weekGoes_117 rfl (pq := 119) rfl ?_
      refine wb_aload_n 1 hX dX11_weekGoes_119 rfl (pq := 120) rfl ?_
      refine wb_iload 2 hX dX11_weekGoes_120 rfl (pq := 122) rfl ?_
      obtain ⟨hi_2, h⟩ := chk_some h
      refine wb_iald hX hx1 hi_2 dX11_weekGoes_122 (pq := 123) rfl ?_
      refine wb_icmp_gt (tgt := 178) hX dX11_weekGoes_123 (by decide) (fun c_3 => ?_) (pq := 126) rfl (fun c_3 => ?_)
      · have h := ite_t c_3 h
        refine wb_sub [0, 1, 2] (loc' := [(0, .ref (G.1 161)), (1, .ref (G.1 x1)), (4, .int x4)]) rfl ?_
        exact tM_weekGoes_J178 hX hQ hN hk50 hx1 h
      · have h := ite_f c_3 h
        refine wb_iload 4 hX dX11_weekGoes_126 rfl (pq := 128) rfl ?_
        refine wb_iload 2 hX dX11_weekGoes_128 rfl (pq := 130) rfl ?_
        refine wb_icmp_ne (tgt := 137) hX dX11_weekGoes_130 (by decide) (pq := 133) rfl (fun c_4 => ?_) (fun c_4 => ?_)
        · have h := ite_t c_4 h
          refine wb_iconst (v := iI (0)) hX dX11_weekGoes_133 rfl (pq := 134) rfl ?_
          refine wb_goto (tgt := 146) hX dX11_weekGoes_134 (by decide) ?_
          exact tM_weekGoes_J146 hX hQ hN hk50 hk108 hx1 h
        · have h := ite_f c_4 h
          refine wb_aload_n 0 hX dX11_weekGoes_137 rfl (pq := 138) rfl ?_
          refine wb_aload_n 1 hX dX11_weekGoes_138 rfl (pq := 139) rfl ?_
          refine wb_iload 2 hX dX11_weekGoes_139 rfl (pq := 141) rfl ?_
          refine wb_iload 4 hX dX11_weekGoes_141 rfl (pq := 143) rfl ?_
          obtain ⟨q_6, hc_5, h⟩ := bind_s h
          refine wb_callVi (r0 := q_6) (s1 := s) [.ref (G.1 x1), .int x4, .int x6] hX sh_161 ml_1284 (tM_seeps hx1 hc_5) (by decide) rfl rfl (Nat.le_of_ble_eq_true rfl) dX11_weekGoes_143 (pq := 146) rfl ?_
          exact tM_weekGoes_J146 hX hQ hN hk50 hk108 hx1 h
set_option maxHeartbeats 4000000 in
set_option maxRecDepth 100000 in
theorem tM_weekGoes_L65 {G : wG} {X : wX} {k50 : Int32 → wM → Option (wM)} {x1 : Nat} {x4 : Int32} {s : wM} {s1 : wM} (hX : wOK G X cX11_weekGoes RX11 none 2) (hQ : wRt G X (wQv G s1)) (hN : wNl X = 8) (hk50 : ∀ (x4 : Int32) (s : wM), k50 x4 s = some s1 → WB G X 50 [(0, .ref (G.1 161)), (1, .ref (G.1 x1)), (4, .int x4)] [] s) (hx1 : wSh[x1]? = some (.inl (.int, 9, 0, 0))) : ∀ (n : Nat) (x5 : Int32) (x6 : Int32), wh2 (fM_weekGoes_L65 k50 x1 x4 s) n x5 x6 = some s1 → WB G X 65 [(0, .ref (G.1 161)), (1, .ref (G.1 x1)), (4, .int x4), (5, .int x5), (6, .int x6)] [] s := by
  intro n
  induction n with
  | zero => intro x5 x6 h; cases h
  | succ n hk65 =>
    intro x5 x6 h
    have h : fM_weekGoes_L65 k50 x1 x4 s x5 x6 (wh2 (fM_weekGoes_L65 k50 x1 x4 s) n) = some s1 := h
    unfold fM_weekGoes_L65 at h
    refine wb_iload 4 hX dX11_weekGoes_65 rfl (pq := 67) rfl ?_
    refine wb_aload_n 0 hX dX11_weekGoes_67 rfl (pq := 68) rfl ?_
    refine wb_getI hX fl_1521 sh_161 rfl dX11_weekGoes_68 (pq := 71) rfl ?_
    refine wb_icmp_ge (tgt := 105) hX dX11_weekGoes_71 (by decide) (fun c_1 => ?_) (pq := 74) rfl (fun c_1 => ?_)
    · have h := ite_t c_1 h
      refine wb_iconst (v := iI (0)) hX dX11_weekGoes_105 rfl (pq := 106) rfl ?_
      refine wb_istore (loc' := [(6, .int (iI (0))), (0, .ref (G.1 161)), (1, .ref (G.1 x1)), (4, .int x4), (5, .int x5)]) hX hN dX11_weekGoes_106 (by decide) rfl (pq := 108) rfl ?_
      refine wb_sub [1, 2, 3, 4, 0] (loc' := [(0, .ref (G.1 161)), (1, .ref (G.1 x1)), (4, .int x4), (5, .int x5), (6, .int (iI (0)))]) rfl ?_
      exact tM_weekGoes_L108 hX hQ hN hk50 hx1 100000 _ _ h
    · have h := ite_f c_1 h
      refine wb_iload 3 hX dX11_weekGoes_74 rfl (pq := 76) rfl ?_
      refine wb_iload 4 hX dX11_weekGoes_76 rfl (pq := 78) rfl ?_
      refine wb_iload 2 hX dX11_weekGoes_78 rfl (pq := 80) rfl ?_
      refine wb_icmp_ne (tgt := 87) hX dX11_weekGoes_80 (by decide) (pq := 83) rfl (fun c_2 => ?_) (fun c_2 => ?_)
      · have h := ite_t c_2 h
        refine wb_iconst (v := iI (0)) hX dX11_weekGoes_83 rfl (pq := 84) rfl ?_
        refine wb_goto (tgt := 96) hX dX11_weekGoes_84 (by decide) ?_
        refine wb_sub [0, 1, 2, 4] (loc' := [(0, .ref (G.1 161)), (1, .ref (G.1 x1)), (4, .int x4), (6, .int x6)]) rfl ?_
        exact tM_weekGoes_J96 hX hQ hN hk50 hk65 hx1 h
      · have h := ite_f c_2 h
        refine wb_aload_n 0 hX dX11_weekGoes_87 rfl (pq := 88) rfl ?_
        refine wb_aload_n 1 hX dX11_weekGoes_88 rfl (pq := 89) rfl ?_
        refine wb_iload 2 hX dX11_weekGoes_89 rfl (pq := 91) rfl ?_
        refine wb_iload 4 hX dX11_weekGoes_91 rfl (pq := 93) rfl ?_
        obtain ⟨q_4, hc_3, h⟩ := bind_s h
        refine wb_callVi (r0 := q_4) (s1 := s) [.ref (G.1 x1), .int x4, .int x6] hX sh_161 ml_1284 (tM_seeps hx1 hc_3) (by decide) rfl rfl (Nat.le_of_ble_eq_true rfl) dX11_weekGoes_93 (pq := 96) rfl ?_
        refine wb_sub [0, 1, 2, 4] (loc' := [(0, .ref (G.1 161)), (1, .ref (G.1 x1)), (4, .int x4), (6, .int x6)]) rfl ?_
        exact tM_weekGoes_J96 hX hQ hN hk50 hk65 hx1 h
set_option maxHeartbeats 4000000 in
set_option maxRecDepth 100000 in
theorem tM_weekGoes_L192 {G : wG} {X : wX} {x1 : Nat} {s1 : wM} (hX : wOK G X cX11_weekGoes RX11 none 2) (hQ : wRt G X (wQv G s1)) (hN : wNl X = 8) (hx1 : wSh[x1]? = some (.inl (.int, 9, 0, 0))) : ∀ (n : Nat) (x4 : Int32) (s : wM), wh2 (fM_weekGoes_L192 x1) n x4 s = some s1 → WB G X 192 [(0, .ref (G.1 161)), (1, .ref (G.1 x1)), (4, .int x4)] [] s := by
  intro n
  induction n with
  | zero => intro x4 s h; cases h
  | succ n hk192 =>
    intro x4 s h
    have h : fM_weekGoes_L192 x1 x4 s (wh2 (fM_weekGoes_L192 x1) n) = some s1 := h
    unfold fM_weekGoes_L192 at h
    refine wb_iload 2 hX dX11_weekGoes_192 rfl (pq := 194) rfl ?_
    refine wb_aload_n 0 hX dX11_weekGoes_194 rfl (pq := 195) rfl ?_
    refine wb_getI hX fl_1521 sh_161 rfl dX11_weekGoes_195 (pq := 198) rfl ?_
    refine wb_icmp_ge (tgt := 254) hX dX11_weekGoes_198 (by decide) (fun c_1 => ?_) (pq := 201) rfl (fun c_1 => ?_)
    · have h := ite_t c_1 h
      exact wb_vret hX hQ h dX11_weekGoes_254
    · have h := ite_f c_1 h
      refine wb_aload_n 1 hX dX11_weekGoes_201 rfl (pq := 202) rfl ?_
      refine wb_iload 2 hX dX11_weekGoes_202 rfl (pq := 204) rfl ?_
      obtain ⟨hi_2, h⟩ := chk_some h
      refine wb_iald hX hx1 hi_2 dX11_weekGoes_204 (pq := 205) rfl ?_
      refine wb_aload_n 0 hX dX11_weekGoes_205 rfl (pq := 206) rfl ?_
      refine wb_getR hX fl_1544 sh_161 rfl dX11_weekGoes_206 (pq := 209) rfl ?_
      refine wb_iload 2 hX dX11_weekGoes_209 rfl (pq := 211) rfl ?_
      refine wb_iald hX sh_178 hi_2 dX11_weekGoes_211 (pq := 212) rfl ?_
      refine wb_iadd hX dX11_weekGoes_212 (pq := 213) rfl ?_
      refine wb_topi (fun y_3 ey_3 => ?_)
      have h := nmI_s h y_3 ey_3
      refine wb_istore (loc' := [(5, .int y_3), (0, .ref (G.1 161)), (1, .ref (G.1 x1)), (4, .int x4)]) hX hN dX11_weekGoes_213 (by decide) rfl (pq := 215) rfl ?_
      refine wb_aload_n 1 hX dX11_weekGoes_215 rfl (pq := 216) rfl ?_
      refine wb_dup hX dX11_weekGoes_216 rfl (pq := 217) rfl ?_
      refine wb_getI hX fl_1545 sh_161 rfl dX11_weekGoes_217 (pq := 220) rfl ?_
      refine wb_iconst (v := iI (0)) hX dX11_weekGoes_220 rfl (pq := 221) rfl ?_
      refine wb_iload 0 hX dX11_weekGoes_221 rfl (pq := 223) rfl ?_
      refine wb_bipush (v := iI (99)) hX dX11_weekGoes_223 (by decide) (pq := 225) rfl ?_
      refine wb_isub hX dX11_weekGoes_225 (pq := 226) rfl ?_
      refine wb_mmax hX k_1209 k_491 k_14 k_492 (Nat.le_of_ble_eq_true rfl) dX11_weekGoes_226 (pq := 229) rfl ?_
      refine wb_iadd hX dX11_weekGoes_229 (pq := 230) rfl ?_
      refine wb_putI hX fp_1545 sh_161 rfl dX11_weekGoes_230 rfl rfl (pq := 233) rfl ?_
      refine wb_mem (fun s_4 es_4 => ?_)
      have h := nmM_s h s_4 es_4
      refine wb_aload_n 2 hX dX11_weekGoes_233 rfl (pq := 234) rfl ?_
      refine wb_iload 3 hX dX11_weekGoes_234 rfl (pq := 236) rfl ?_
      refine wb_iconst (v := iI (0)) hX dX11_weekGoes_236 rfl (pq := 237) rfl ?_
      refine wb_bipush (v := iI (99)) hX dX11_weekGoes_237 (by decide) (pq := 239) rfl ?_
      refine wb_iload 0 hX dX11_weekGoes_239 rfl (pq := 241) rfl ?_
      refine wb_mmin hX k_1136 k_394 k_14 k_395 (Nat.le_of_ble_eq_true rfl) dX11_weekGoes_241 (pq := 244) rfl ?_
      refine wb_mmax hX k_1209 k_491 k_14 k_492 (Nat.le_of_ble_eq_true rfl) dX11_weekGoes_244 (pq := 247) rfl ?_
      refine wb_iast hX hx1 hi_2 dX11_weekGoes_247 (pq := 248) rfl ?_
      refine wb_mem (fun s_5 es_5 => ?_)
      have h := nmM_s h s_5 es_5
      refine wb_iinc (v := (x4 + iI (1))) (loc' := [(4, .int (x4 + iI (1))), (5, .int y_3), (0, .ref (G.1 161)), (1, .ref (G.1 x1))]) 3 hX hN dX11_weekGoes_248 rfl rfl (by decide) rfl (pq := 251) rfl ?_
      refine wb_goto (tgt := 192) hX dX11_weekGoes_251 (by decide) ?_
      refine wb_sub [2, 3, 0] (loc' := [(0, .ref (G.1 161)), (1, .ref (G.1 x1)), (4, .int (x4 + iI (1)))]) rfl ?_
      exact hk192 _ _ h
set_option maxHeartbeats 4000000 in
set_option maxRecDepth 100000 in
theorem tM_weekGoes_L50 {G : wG} {X : wX} {x1 : Nat} {s1 : wM} (hX : wOK G X cX11_weekGoes RX11 none 2) (hQ : wRt G X (wQv G s1)) (hN : wNl X = 8) (hx1 : wSh[x1]? = some (.inl (.int, 9, 0, 0))) : ∀ (n : Nat) (x4 : Int32) (s : wM), wh2 (fM_weekGoes_L50 x1) n x4 s = some s1 → WB G X 50 [(0, .ref (G.1 161)), (1, .ref (G.1 x1)), (4, .int x4)] [] s := by
  intro n
  induction n with
  | zero => intro x4 s h; cases h
  | succ n hk50 =>
    intro x4 s h
    have h : fM_weekGoes_L50 x1 x4 s (wh2 (fM_weekGoes_L50 x1) n) = some s1 := h
    unfold fM_weekGoes_L50 at h
    refine wb_iload 2 hX dX11_weekGoes_50 rfl (pq := 52) rfl ?_
    refine wb_aload_n 0 hX dX11_weekGoes_52 rfl (pq := 53) rfl ?_
    refine wb_getI hX fl_1521 sh_161 rfl dX11_weekGoes_53 (pq := 56) rfl ?_
    refine wb_icmp_ge (tgt := 184) hX dX11_weekGoes_56 (by decide) (fun c_1 => ?_) (pq := 59) rfl (fun c_1 => ?_)
    · have h := ite_t c_1 h
      refine wb_aload_n 0 hX dX11_weekGoes_184 rfl (pq := 185) rfl ?_
      refine wb_iconst (v := iI (0)) hX dX11_weekGoes_185 rfl (pq := 186) rfl ?_
      refine wb_putI hX fp_1545 sh_161 rfl dX11_weekGoes_186 rfl rfl (pq := 189) rfl ?_
      refine wb_mem (fun s_2 es_2 => ?_)
      have h := nmM_s h s_2 es_2
      refine wb_iconst (v := iI (0)) hX dX11_weekGoes_189 rfl (pq := 190) rfl ?_
      refine wb_istore (loc' := [(4, .int (iI (0))), (0, .ref (G.1 161)), (1, .ref (G.1 x1))]) hX hN dX11_weekGoes_190 (by decide) rfl (pq := 192) rfl ?_
      refine wb_sub [1, 2, 0] (loc' := [(0, .ref (G.1 161)), (1, .ref (G.1 x1)), (4, .int (iI (0)))]) rfl ?_
      exact tM_weekGoes_L192 hX hQ hN hx1 100000 _ _ h
    · have h := ite_f c_1 h
      refine wb_iconst (v := iI (0)) hX dX11_weekGoes_59 rfl (pq := 60) rfl ?_
      refine wb_istore (loc' := [(5, .int (iI (0))), (0, .ref (G.1 161)), (1, .ref (G.1 x1)), (4, .int x4)]) hX hN dX11_weekGoes_60 (by decide) rfl (pq := 62) rfl ?_
      refine wb_iconst (v := iI (0)) hX dX11_weekGoes_62 rfl (pq := 63) rfl ?_
      refine wb_istore (loc' := [(6, .int (iI (0))), (5, .int (iI (0))), (0, .ref (G.1 161)), (1, .ref (G.1 x1)), (4, .int x4)]) hX hN dX11_weekGoes_63 (by decide) rfl (pq := 65) rfl ?_
      refine wb_sub [2, 3, 4, 1, 0] (loc' := [(0, .ref (G.1 161)), (1, .ref (G.1 x1)), (4, .int x4), (5, .int (iI (0))), (6, .int (iI (0)))]) rfl ?_
      exact tM_weekGoes_L65 hX hQ hN hk50 hx1 100000 _ _ h
set_option maxHeartbeats 4000000 in
set_option maxRecDepth 100000 in
theorem tM_weekGoes_L3 {G : wG} {X : wX} {x1 : Nat} {x2 : Int32} {x3 : Int32} {s1 : wM} (hX : wOK G X cX11_weekGoes RX11 none 2) (hQ : wRt G X (wQv G s1)) (hN : wNl X = 8) (hx1 : wSh[x1]? = some (.inl (.int, 9, 0, 0))) : ∀ (n : Nat) (x4 : Int32) (s : wM), wh2 (fM_weekGoes_L3 x1 x2 x3) n x4 s = some s1 → WB G X 3 [(0, .ref (G.1 161)), (1, .ref (G.1 x1)), (2, .int x2), (3, .int x3), (4, .int x4)] [] s := by
  intro n
  induction n with
  | zero => intro x4 s h; cases h
  | succ n hk3 =>
    intro x4 s h
    have h : fM_weekGoes_L3 x1 x2 x3 x4 s (wh2 (fM_weekGoes_L3 x1 x2 x3) n) = some s1 := h
    unfold fM_weekGoes_L3 at h
    refine wb_iload 4 hX dX11_weekGoes_3 rfl (pq := 5) rfl ?_
    refine wb_aload_n 0 hX dX11_weekGoes_5 rfl (pq := 6) rfl ?_
    refine wb_getI hX fl_1521 sh_161 rfl dX11_weekGoes_6 (pq := 9) rfl ?_
    refine wb_icmp_ge (tgt := 47) hX dX11_weekGoes_9 (by decide) (fun c_1 => ?_) (pq := 12) rfl (fun c_1 => ?_)
    · have h := ite_t c_1 h
      refine wb_iconst (v := iI (0)) hX dX11_weekGoes_47 rfl (pq := 48) rfl ?_
      refine wb_istore (loc' := [(4, .int (iI (0))), (0, .ref (G.1 161)), (1, .ref (G.1 x1)), (2, .int x2), (3, .int x3)]) hX hN dX11_weekGoes_48 (by decide) rfl (pq := 50) rfl ?_
      refine wb_sub [1, 2, 0] (loc' := [(0, .ref (G.1 161)), (1, .ref (G.1 x1)), (4, .int (iI (0)))]) rfl ?_
      exact tM_weekGoes_L50 hX hQ hN hx1 100000 _ _ h
    · have h := ite_f c_1 h
      refine wb_aload_n 0 hX dX11_weekGoes_12 rfl (pq := 13) rfl ?_
      refine wb_getR hX fl_1544 sh_161 rfl dX11_weekGoes_13 (pq := 16) rfl ?_
      refine wb_iload 4 hX dX11_weekGoes_16 rfl (pq := 18) rfl ?_
      refine wb_aload_n 0 hX dX11_weekGoes_18 rfl (pq := 19) rfl ?_
      refine wb_getR hX fl_1523 sh_161 rfl dX11_weekGoes_19 (pq := 22) rfl ?_
      refine wb_iload 4 hX dX11_weekGoes_22 rfl (pq := 24) rfl ?_
      obtain ⟨hi_2, h⟩ := chk_some h
      refine wb_iald hX sh_164 hi_2 dX11_weekGoes_24 (pq := 25) rfl ?_
      refine wb_iload_n 3 hX dX11_weekGoes_25 rfl (pq := 26) rfl ?_
      refine wb_iload 4 hX dX11_weekGoes_26 rfl (pq := 28) rfl ?_
      obtain ⟨q_4, hc_3, h⟩ := bind_s h
      refine wb_callSi (r0 := q_4) (s1 := s) [.int x3, .int x4] hX ml_1187 (tM_has hc_3) (by decide) rfl rfl (Nat.le_of_ble_eq_true rfl) dX11_weekGoes_28 (pq := 31) rfl ?_
      refine wb_if_eq (tgt := 38) hX dX11_weekGoes_31 (by decide) (fun c_5 => ?_) (pq := 34) rfl (fun c_5 => ?_)
      · have h := ite_t c_5 h
        refine wb_iconst (v := iI (0)) hX dX11_weekGoes_38 rfl (pq := 39) rfl ?_
        exact tM_weekGoes_J39 hX hQ hN hk3 hx1 h
      · have h := ite_f c_5 h
        refine wb_iload_n 2 hX dX11_weekGoes_34 rfl (pq := 35) rfl ?_
        refine wb_goto (tgt := 39) hX dX11_weekGoes_35 (by decide) ?_
        exact tM_weekGoes_J39 hX hQ hN hk3 hx1 h
set_option maxHeartbeats 4000000 in
set_option maxRecDepth 100000 in
theorem tM_weekGoes {l : Launch} {G : wG} {s : wM} {x1 : Nat} {x2 : Int32} {x3 : Int32} {s1 : wM} (hx1 : wSh[x1]? = some (.inl (.int, 9, 0, 0))) (h : fM_weekGoes s x1 x2 x3 = some s1) : wMet l G yX11_weekGoes cX11_weekGoes 8 none 2 [.ref (G.1 161), .ref (G.1 x1), .int x2, .int x3] s (wQv G s1) := by
  refine wMet_of (own := RX11) (by decide +kernel) rfl (Nat.le_of_ble_eq_true rfl) ?_
  intro X hX hQ hN hl
  show WB G X 0 [(0, .ref (G.1 161)), (1, .ref (G.1 x1)), (2, .int x2), (3, .int x3)] [] s
  unfold fM_weekGoes at h
  refine wb_iconst (v := iI (0)) hX dX11_weekGoes_0 rfl (pq := 1) rfl ?_
  refine wb_istore (loc' := [(4, .int (iI (0))), (0, .ref (G.1 161)), (1, .ref (G.1 x1)), (2, .int x2), (3, .int x3)]) hX hN dX11_weekGoes_1 (by decide) rfl (pq := 3) rfl ?_
  refine wb_sub [1, 2, 3, 4, 0] (loc' := [(0, .ref (G.1 161)), (1, .ref (G.1 x1)), (2, .int x2), (3, .int x3), (4, .int (iI (0)))]) rfl ?_
  exact tM_weekGoes_L3 hX hQ hN hx1 100000 _ _ h
set_option maxHeartbeats 4000000 in
set_option maxRecDepth 100000 in
theorem tM_weekPays_L25 {G : wG} {X : wX} {r0 : Int32} {s1 : wM} (hX : wOK G X cX11_weekPays RX11 (some .int) 3) (hQ : wRt G X (wQi G r0 s1)) (hN : wNl X = 6) : ∀ (n : Nat) (x3 : Int32) (x4 : Int32) (s : wM), wh3 (fM_weekPays_L25) n x3 x4 s = some (r0, s1) → WB G X 25 [(0, .ref (G.1 161)), (3, .int x3), (4, .int x4)] [] s := by
  intro n
  induction n with
  | zero => intro x3 x4 s h; cases h
  | succ n hk25 =>
    intro x3 x4 s h
    have h : fM_weekPays_L25 x3 x4 s (wh3 (fM_weekPays_L25) n) = some (r0, s1) := h
    unfold fM_weekPays_L25 at h
    refine wb_iload 2 hX dX11_weekPays_25 rfl (pq := 27) rfl ?_
    refine wb_aload_n 0 hX dX11_weekPays_27 rfl (pq := 28) rfl ?_
    refine wb_getI hX fl_1521 sh_161 rfl dX11_weekPays_28 (pq := 31) rfl ?_
    refine wb_icmp_ge (tgt := 79) hX dX11_weekPays_31 (by decide) (fun c_1 => ?_) (pq := 34) rfl (fun c_1 => ?_)
    · have h := ite_t c_1 h
      refine wb_iload_n 1 hX dX11_weekPays_79 rfl (pq := 80) rfl ?_
      exact wb_iret hX hQ h dX11_weekPays_80
    · have h := ite_f c_1 h
      refine wb_aload_n 0 hX dX11_weekPays_34 rfl (pq := 35) rfl ?_
      refine wb_getR hX fl_1527 sh_161 rfl dX11_weekPays_35 (pq := 38) rfl ?_
      refine wb_iconst (v := iI (1)) hX dX11_weekPays_38 rfl (pq := 39) rfl ?_
      refine wb_iald hX sh_168 (by unfold vp_in; decide) dX11_weekPays_39 (pq := 40) rfl ?_
      refine wb_aload_n 0 hX dX11_weekPays_40 rfl (pq := 41) rfl ?_
      refine wb_aload_n 0 hX dX11_weekPays_41 rfl (pq := 42) rfl ?_
      refine wb_getR hX fl_1522 sh_161 rfl dX11_weekPays_42 (pq := 45) rfl ?_
      refine wb_iload 2 hX dX11_weekPays_45 rfl (pq := 47) rfl ?_
      obtain ⟨q_3, hc_2, h⟩ := bind_s h
      refine wb_callVi (r0 := q_3) (s1 := s) [.ref (G.1 163), .int x4] hX sh_161 ml_1179 (tM_evenWith sh_163 hc_2) (by decide) rfl rfl (Nat.le_of_ble_eq_true rfl) dX11_weekPays_47 (pq := 50) rfl ?_
      obtain ⟨q_5, hc_4, h⟩ := bind_s h
      refine wb_callSi (r0 := q_5) (s1 := s) [.int q_3] hX ml_1288 (tJ_bitCount hc_4) (by decide) rfl rfl (Nat.le_of_ble_eq_true rfl) dX11_weekPays_50 (pq := 53) rfl ?_
      refine wb_imul hX dX11_weekPays_53 (pq := 54) rfl ?_
      refine wb_istore (loc' := [(5, .int ((s.1 168 (iI (1)).toNatClampNeg) * q_5)), (0, .ref (G.1 161)), (3, .int x3), (4, .int x4)]) hX hN dX11_weekPays_54 (by decide) rfl (pq := 56) rfl ?_
      refine wb_aload_n 1 hX dX11_weekPays_56 rfl (pq := 57) rfl ?_
      refine wb_getR hX fl_1526 sh_161 rfl dX11_weekPays_57 (pq := 60) rfl ?_
      refine wb_iload 3 hX dX11_weekPays_60 rfl (pq := 62) rfl ?_
      refine wb_dup2 hX dX11_weekPays_62 rfl rfl (pq := 63) rfl ?_
      obtain ⟨hi_6, h⟩ := chk_some h
      refine wb_iald hX sh_167 hi_6 dX11_weekPays_63 (pq := 64) rfl ?_
      refine wb_iload 0 hX dX11_weekPays_64 rfl (pq := 66) rfl ?_
      refine wb_iadd hX dX11_weekPays_66 (pq := 67) rfl ?_
      refine wb_iast hX sh_167 hi_6 dX11_weekPays_67 (pq := 68) rfl ?_
      refine wb_mem (fun s_7 es_7 => ?_)
      have h := nmM_s h s_7 es_7
      refine wb_iload_n 2 hX dX11_weekPays_68 rfl (pq := 69) rfl ?_
      refine wb_iload 0 hX dX11_weekPays_69 rfl (pq := 71) rfl ?_
      refine wb_iadd hX dX11_weekPays_71 (pq := 72) rfl ?_
      refine wb_topi (fun y_8 ey_8 => ?_)
      have h := nmI_s h y_8 ey_8
      refine wb_istore_n (loc' := [(3, .int y_8), (5, .int ((s.1 168 (iI (1)).toNatClampNeg) * q_5)), (0, .ref (G.1 161)), (4, .int x4)]) hX hN dX11_weekPays_72 (by decide) rfl (pq := 73) rfl ?_
      refine wb_iinc (v := (x4 + iI (1))) (loc' := [(4, .int (x4 + iI (1))), (3, .int y_8), (5, .int ((s.1 168 (iI (1)).toNatClampNeg) * q_5)), (0, .ref (G.1 161))]) 3 hX hN dX11_weekPays_73 rfl rfl (by decide) rfl (pq := 76) rfl ?_
      refine wb_goto (tgt := 25) hX dX11_weekPays_76 (by decide) ?_
      refine wb_sub [3, 1, 0] (loc' := [(0, .ref (G.1 161)), (3, .int y_8), (4, .int (x4 + iI (1)))]) rfl ?_
      exact hk25 _ _ _ h
set_option maxHeartbeats 4000000 in
set_option maxRecDepth 100000 in
theorem tM_weekPays {l : Launch} {G : wG} {s : wM} {x1 : Int32} {x2 : Int32} {r0 : Int32} {s1 : wM} (h : fM_weekPays s x1 x2 = some (r0, s1)) : wMet l G yX11_weekPays cX11_weekPays 6 (some .int) 3 [.ref (G.1 161), .int x1, .int x2] s (wQi G r0 s1) := by
  refine wMet_of (own := RX11) (by decide +kernel) rfl (Nat.le_of_ble_eq_true rfl) ?_
  intro X hX hQ hN hl
  show WB G X 0 [(0, .ref (G.1 161)), (1, .int x1), (2, .int x2)] [] s
  unfold fM_weekPays at h
  refine wb_aload_n 0 hX dX11_weekPays_0 rfl (pq := 1) rfl ?_
  refine wb_aload_n 0 hX dX11_weekPays_1 rfl (pq := 2) rfl ?_
  refine wb_getR hX fl_1522 sh_161 rfl dX11_weekPays_2 (pq := 5) rfl ?_
  refine wb_iload_n 1 hX dX11_weekPays_5 rfl (pq := 6) rfl ?_
  refine wb_iload_n 2 hX dX11_weekPays_6 rfl (pq := 7) rfl ?_
  obtain ⟨q_2, hc_1, h⟩ := bind_s h
  refine wb_callVv (s1 := q_2) [.ref (G.1 163), .int x1, .int x2] hX sh_161 ml_1280 (tM_weekGoes sh_163 hc_1) (by decide) rfl rfl (Nat.le_of_ble_eq_true rfl) dX11_weekPays_7 (pq := 10) rfl ?_
  refine wb_aload_n 0 hX dX11_weekPays_10 rfl (pq := 11) rfl ?_
  refine wb_dup hX dX11_weekPays_11 rfl (pq := 12) rfl ?_
  refine wb_getI hX fl_1528 sh_161 rfl dX11_weekPays_12 (pq := 15) rfl ?_
  refine wb_iconst (v := iI (1)) hX dX11_weekPays_15 rfl (pq := 16) rfl ?_
  refine wb_iadd hX dX11_weekPays_16 (pq := 17) rfl ?_
  refine wb_putI hX fp_1528 sh_161 rfl dX11_weekPays_17 rfl rfl (pq := 20) rfl ?_
  refine wb_mem (fun s_3 es_3 => ?_)
  have h := nmM_s h s_3 es_3
  refine wb_iconst (v := iI (0)) hX dX11_weekPays_20 rfl (pq := 21) rfl ?_
  refine wb_istore_n (loc' := [(3, .int (iI (0))), (0, .ref (G.1 161)), (1, .int x1), (2, .int x2)]) hX hN dX11_weekPays_21 (by decide) rfl (pq := 22) rfl ?_
  refine wb_iconst (v := iI (0)) hX dX11_weekPays_22 rfl (pq := 23) rfl ?_
  refine wb_istore (loc' := [(4, .int (iI (0))), (3, .int (iI (0))), (0, .ref (G.1 161)), (1, .int x1), (2, .int x2)]) hX hN dX11_weekPays_23 (by decide) rfl (pq := 25) rfl ?_
  refine wb_sub [2, 1, 0] (loc' := [(0, .ref (G.1 161)), (3, .int (iI (0))), (4, .int (iI (0)))]) rfl ?_
  exact tM_weekPays_L25 hX hQ hN 100000 _ _ _ h
set_option maxHeartbeats 4000000 in
set_option maxRecDepth 100000 in
theorem tM_week_J27 {G : wG} {X : wX} {s : wM} {r0 : Int32} {s1 : wM} (hX : wOK G X cX11_week RX11 (some .int) 4) (hQ : wRt G X (wQi G r0 s1)) (hN : wNl X = 4) (h : fM_week_J27 s = some (r0, s1)) : WB G X 27 [] [] s := by
  unfold fM_week_J27 at h
  refine wb_iconst (v := iI (-1)) hX dX11_week_27 rfl (pq := 28) rfl ?_
  exact wb_iret hX hQ h dX11_week_28
set_option maxHeartbeats 4000000 in
set_option maxRecDepth 100000 in
theorem tM_week {l : Launch} {G : wG} {s : wM} {x1 : Int32} {x2 : Int32} {r0 : Int32} {s1 : wM} (h : fM_week s x1 x2 = some (r0, s1)) : wMet l G yX11_week cX11_week 4 (some .int) 4 [.ref (G.1 161), .int x1, .int x2] s (wQi G r0 s1) := by
  refine wMet_of (own := RX11) (by decide +kernel) rfl (Nat.le_of_ble_eq_true rfl) ?_
  intro X hX hQ hN hl
  show WB G X 0 [(0, .ref (G.1 161)), (1, .int x1), (2, .int x2)] [] s
  unfold fM_week at h
  refine wb_aload_n 0 hX dX11_week_0 rfl (pq := 1) rfl ?_
  refine wb_iconst (v := iI (0)) hX dX11_week_1 rfl (pq := 2) rfl ?_
  refine wb_putI hX fp_1518 sh_161 rfl dX11_week_2 rfl rfl (pq := 5) rfl ?_
  refine wb_mem (fun s_1 es_1 => ?_)
  have h := nmM_s h s_1 es_1
  refine wb_iload_n 1 hX dX11_week_5 rfl (pq := 6) rfl ?_
  refine wb_i2l hX dX11_week_6 (pq := 7) rfl ?_
  refine wb_ldc2 (v := (-9 : Int64)) hX k_1271 dX11_week_7 (pq := 10) rfl ?_
  refine wb_ldc2 (v := (9 : Int64)) hX k_1204 dX11_week_10 (pq := 13) rfl ?_
  obtain ⟨q_3, hc_2, h⟩ := bind_s h
  refine wb_callSi (r0 := q_3) (s1 := s_1) [.long x1.toInt64, .long (-9 : Int64), .long (9 : Int64)] hX ml_1124 (tM_in hc_2) (by decide) rfl rfl (Nat.le_of_ble_eq_true rfl) dX11_week_13 (pq := 16) rfl ?_
  refine wb_if_eq (tgt := 27) hX dX11_week_16 (by decide) (fun c_4 => ?_) (pq := 19) rfl (fun c_4 => ?_)
  · have h := ite_t c_4 h
    refine wb_sub [] (loc' := []) rfl ?_
    exact tM_week_J27 hX hQ hN h
  · have h := ite_f c_4 h
    refine wb_aload_n 0 hX dX11_week_19 rfl (pq := 20) rfl ?_
    refine wb_iload_n 2 hX dX11_week_20 rfl (pq := 21) rfl ?_
    obtain ⟨q_6, hc_5, h⟩ := bind_s h
    refine wb_callVi (r0 := q_6) (s1 := s_1) [.int x2] hX sh_161 ml_1272 (tM_areBits hc_5) (by decide) rfl rfl (Nat.le_of_ble_eq_true rfl) dX11_week_21 (pq := 24) rfl ?_
    refine wb_if_ne (tgt := 29) hX dX11_week_24 (by decide) (pq := 27) rfl (fun c_7 => ?_) (fun c_7 => ?_)
    · have h := ite_t c_7 h
      refine wb_sub [] (loc' := []) rfl ?_
      exact tM_week_J27 hX hQ hN h
    · have h := ite_f c_7 h
      refine wb_aload_n 0 hX dX11_week_29 rfl (pq := 30) rfl ?_
      obtain ⟨q_9, hc_8, h⟩ := bind_s h
      refine wb_callVv (s1 := q_9) [] hX sh_161 ml_1237 (tM_putsBy hc_8) (by decide) rfl rfl (Nat.le_of_ble_eq_true rfl) dX11_week_30 (pq := 33) rfl ?_
      refine wb_aload_n 0 hX dX11_week_33 rfl (pq := 34) rfl ?_
      refine wb_iload_n 1 hX dX11_week_34 rfl (pq := 35) rfl ?_
      refine wb_iload_n 2 hX dX11_week_35 rfl (pq := 36) rfl ?_
      obtain ⟨q_11, hc_10, h⟩ := bind_s h
      refine wb_callVi (r0 := q_11.1) (s1 := q_11.2) [.int x1, .int x2] hX sh_161 ml_1276 (tM_weekPays hc_10) (by decide) rfl rfl (Nat.le_of_ble_eq_true rfl) dX11_week_36 (pq := 39) rfl ?_
      refine wb_istore_n (loc' := [(3, .int q_11.1), (0, .ref (G.1 161)), (1, .int x1), (2, .int x2)]) hX hN dX11_week_39 (by decide) rfl (pq := 40) rfl ?_
      refine wb_aload_n 1 hX dX11_week_40 rfl (pq := 41) rfl ?_
      obtain ⟨q_13, hc_12, h⟩ := bind_s h
      refine wb_callVv (s1 := q_13) [] hX sh_161 ml_1249 (tM_adds hc_12) (by decide) rfl rfl (Nat.le_of_ble_eq_true rfl) dX11_week_41 (pq := 44) rfl ?_
      refine wb_aload_n 1 hX dX11_week_44 rfl (pq := 45) rfl ?_
      refine wb_iconst (v := iI (0)) hX dX11_week_45 rfl (pq := 46) rfl ?_
      refine wb_putI hX fp_1519 sh_161 rfl dX11_week_46 rfl rfl (pq := 49) rfl ?_
      refine wb_mem (fun s_14 es_14 => ?_)
      have h := nmM_s h s_14 es_14
      refine wb_aload_n 1 hX dX11_week_49 rfl (pq := 50) rfl ?_
      refine wb_iload_n 0 hX dX11_week_50 rfl (pq := 51) rfl ?_
      obtain ⟨q_16, hc_15, h⟩ := bind_s h
      refine wb_callVv (s1 := q_16) [.int q_11.1] hX sh_161 ml_1263 (tM_enters hc_15) (by decide) rfl rfl (Nat.le_of_ble_eq_true rfl) dX11_week_51 (pq := 54) rfl ?_
      refine wb_aload_n 1 hX dX11_week_54 rfl (pq := 55) rfl ?_
      refine wb_aload_n 1 hX dX11_week_55 rfl (pq := 56) rfl ?_
      refine wb_getI hX fl_1545 sh_161 rfl dX11_week_56 (pq := 59) rfl ?_
      obtain ⟨q_18, hc_17, h⟩ := bind_s h
      refine wb_callVv (s1 := q_18) [.int (q_16.1 161 27)] hX sh_161 ml_1263 (tM_enters hc_17) (by decide) rfl rfl (Nat.le_of_ble_eq_true rfl) dX11_week_59 (pq := 62) rfl ?_
      refine wb_aload_n 1 hX dX11_week_62 rfl (pq := 63) rfl ?_
      refine wb_aload_n 1 hX dX11_week_63 rfl (pq := 64) rfl ?_
      refine wb_getR hX fl_1522 sh_161 rfl dX11_week_64 (pq := 67) rfl ?_
      obtain ⟨q_20, hc_19, h⟩ := bind_s h
      refine wb_callVi (r0 := q_20) (s1 := q_18) [.ref (G.1 163)] hX sh_161 ml_1289 (tM_evenPairs sh_163 hc_19) (by decide) rfl rfl (Nat.le_of_ble_eq_true rfl) dX11_week_67 (pq := 70) rfl ?_
      exact wb_iret hX hQ h dX11_week_70
set_option maxHeartbeats 4000000 in
set_option maxRecDepth 100000 in
theorem tM_weeks_J62 {G : wG} {X : wX} {k30 : Int32 → Int32 → Int32 → wM → Option (Int32 × wM)} {x1 : Int32} {x2 : Int32} {x4 : Int32} {v0 : Int32} {v1 : Int32} {s : wM} {r0 : Int32} {s1 : wM} (hX : wOK G X cX11_weeks RX11 (some .int) 4) (hQ : wRt G X (wQi G r0 s1)) (hN : wNl X = 5) (hk30 : ∀ (x2 : Int32) (x3 : Int32) (x4 : Int32) (s : wM), k30 x2 x3 x4 s = some (r0, s1) → WB G X 30 [(0, .ref (G.1 161)), (1, .int x1), (2, .int x2), (3, .int x3), (4, .int x4)] [] s) (h : fM_weeks_J62 k30 x1 x2 x4 v0 v1 s = some (r0, s1)) : WB G X 62 [(0, .ref (G.1 161)), (1, .int x1), (2, .int x2), (4, .int x4)] [.int v0, .int v1] s := by
  unfold fM_weeks_J62 at h
  obtain ⟨q_2, hc_1, h⟩ := bind_s h
  refine wb_callSi (r0 := q_2) (s1 := s) [.int v0] hX ml_1151 (tM_flag hc_1) (by decide) rfl rfl (Nat.le_of_ble_eq_true rfl) dX11_weeks_62 (pq := 65) rfl ?_
  refine wb_iadd hX dX11_weeks_65 (pq := 66) rfl ?_
  refine wb_istore_n (loc' := [(3, .int (v1 + q_2)), (0, .ref (G.1 161)), (1, .int x1), (2, .int x2), (4, .int x4)]) hX hN dX11_weeks_66 (by decide) rfl (pq := 67) rfl ?_
  refine wb_iinc (v := (x4 + iI (1))) (loc' := [(4, .int (x4 + iI (1))), (3, .int (v1 + q_2)), (0, .ref (G.1 161)), (1, .int x1), (2, .int x2)]) 4 hX hN dX11_weeks_67 rfl rfl (by decide) rfl (pq := 70) rfl ?_
  refine wb_goto (tgt := 30) hX dX11_weeks_70 (by decide) ?_
  refine wb_sub [2, 3, 4, 1, 0] (loc' := [(0, .ref (G.1 161)), (1, .int x1), (2, .int x2), (3, .int (v1 + q_2)), (4, .int (x4 + iI (1)))]) rfl ?_
  exact hk30 _ _ _ _ h
set_option maxHeartbeats 4000000 in
set_option maxRecDepth 100000 in
theorem tM_weeks_J81 {G : wG} {X : wX} {x2 : Int32} {x3 : Int32} {s : wM} {r0 : Int32} {s1 : wM} (hX : wOK G X cX11_weeks RX11 (some .int) 4) (hQ : wRt G X (wQi G r0 s1)) (hN : wNl X = 5) (h : fM_weeks_J81 x2 x3 s = some (r0, s1)) : WB G X 81 [(0, .ref (G.1 161)), (2, .int x2), (3, .int x3)] [] s := by
  unfold fM_weeks_J81 at h
  refine wb_aload_n 0 hX dX11_weeks_81 rfl (pq := 82) rfl ?_
  refine wb_iconst (v := iI (0)) hX dX11_weeks_82 rfl (pq := 83) rfl ?_
  refine wb_putI hX fp_1519 sh_161 rfl dX11_weeks_83 rfl rfl (pq := 86) rfl ?_
  refine wb_mem (fun s_1 es_1 => ?_)
  have h := nmM_s h s_1 es_1
  refine wb_aload_n 0 hX dX11_weeks_86 rfl (pq := 87) rfl ?_
  refine wb_iload_n 2 hX dX11_weeks_87 rfl (pq := 88) rfl ?_
  obtain ⟨q_3, hc_2, h⟩ := bind_s h
  refine wb_callVv (s1 := q_3) [.int x3] hX sh_161 ml_1263 (tM_enters hc_2) (by decide) rfl rfl (Nat.le_of_ble_eq_true rfl) dX11_weeks_88 (pq := 91) rfl ?_
  refine wb_iload_n 1 hX dX11_weeks_91 rfl (pq := 92) rfl ?_
  exact wb_iret hX hQ h dX11_weeks_92
set_option maxHeartbeats 4000000 in
set_option maxRecDepth 100000 in
theorem tM_weeks_L30 {G : wG} {X : wX} {x1 : Int32} {r0 : Int32} {s1 : wM} (hX : wOK G X cX11_weeks RX11 (some .int) 4) (hQ : wRt G X (wQi G r0 s1)) (hN : wNl X = 5) : ∀ (n : Nat) (x2 : Int32) (x3 : Int32) (x4 : Int32) (s : wM), wh4 (fM_weeks_L30 x1) n x2 x3 x4 s = some (r0, s1) → WB G X 30 [(0, .ref (G.1 161)), (1, .int x1), (2, .int x2), (3, .int x3), (4, .int x4)] [] s := by
  intro n
  induction n with
  | zero => intro x2 x3 x4 s h; cases h
  | succ n hk30 =>
    intro x2 x3 x4 s h
    have h : fM_weeks_L30 x1 x2 x3 x4 s (wh4 (fM_weeks_L30 x1) n) = some (r0, s1) := h
    unfold fM_weeks_L30 at h
    refine wb_iload 4 hX dX11_weeks_30 rfl (pq := 32) rfl ?_
    refine wb_iload_n 1 hX dX11_weeks_32 rfl (pq := 33) rfl ?_
    refine wb_icmp_ge (tgt := 73) hX dX11_weeks_33 (by decide) (fun c_1 => ?_) (pq := 36) rfl (fun c_1 => ?_)
    · have h := ite_t c_1 h
      refine wb_iload_n 1 hX dX11_weeks_73 rfl (pq := 74) rfl ?_
      refine wb_if_le (tgt := 81) hX dX11_weeks_74 (by decide) (fun c_2 => ?_) (pq := 77) rfl (fun c_2 => ?_)
      · have h := ite_t c_2 h
        refine wb_sub [0, 2, 3] (loc' := [(0, .ref (G.1 161)), (2, .int x2), (3, .int x3)]) rfl ?_
        exact tM_weeks_J81 hX hQ hN h
      · have h := ite_f c_2 h
        refine wb_aload_n 0 hX dX11_weeks_77 rfl (pq := 78) rfl ?_
        obtain ⟨q_4, hc_3, h⟩ := bind_s h
        refine wb_callVv (s1 := q_4) [] hX sh_161 ml_1249 (tM_adds hc_3) (by decide) rfl rfl (Nat.le_of_ble_eq_true rfl) dX11_weeks_78 (pq := 81) rfl ?_
        refine wb_sub [0, 2, 3] (loc' := [(0, .ref (G.1 161)), (2, .int x2), (3, .int x3)]) rfl ?_
        exact tM_weeks_J81 hX hQ hN h
    · have h := ite_f c_1 h
      refine wb_iload_n 2 hX dX11_weeks_36 rfl (pq := 37) rfl ?_
      refine wb_aload_n 0 hX dX11_weeks_37 rfl (pq := 38) rfl ?_
      refine wb_iconst (v := iI (0)) hX dX11_weeks_38 rfl (pq := 39) rfl ?_
      refine wb_iconst (v := iI (0)) hX dX11_weeks_39 rfl (pq := 40) rfl ?_
      obtain ⟨q_6, hc_5, h⟩ := bind_s h
      refine wb_callVi (r0 := q_6.1) (s1 := q_6.2) [.int (iI (0)), .int (iI (0))] hX sh_161 ml_1276 (tM_weekPays hc_5) (by decide) rfl rfl (Nat.le_of_ble_eq_true rfl) dX11_weeks_40 (pq := 43) rfl ?_
      refine wb_iadd hX dX11_weeks_43 (pq := 44) rfl ?_
      refine wb_istore_n (loc' := [(2, .int (x2 + q_6.1)), (0, .ref (G.1 161)), (1, .int x1), (3, .int x3), (4, .int x4)]) hX hN dX11_weeks_44 (by decide) rfl (pq := 45) rfl ?_
      refine wb_iload_n 3 hX dX11_weeks_45 rfl (pq := 46) rfl ?_
      refine wb_aload_n 1 hX dX11_weeks_46 rfl (pq := 47) rfl ?_
      refine wb_aload_n 1 hX dX11_weeks_47 rfl (pq := 48) rfl ?_
      refine wb_getR hX fl_1522 sh_161 rfl dX11_weeks_48 (pq := 51) rfl ?_
      obtain ⟨q_8, hc_7, h⟩ := bind_s h
      refine wb_callVi (r0 := q_8) (s1 := q_6.2) [.ref (G.1 163)] hX sh_161 ml_1289 (tM_evenPairs sh_163 hc_7) (by decide) rfl rfl (Nat.le_of_ble_eq_true rfl) dX11_weeks_51 (pq := 54) rfl ?_
      refine wb_if_ne (tgt := 61) hX dX11_weeks_54 (by decide) (pq := 57) rfl (fun c_9 => ?_) (fun c_9 => ?_)
      · have h := ite_t c_9 h
        refine wb_iconst (v := iI (1)) hX dX11_weeks_57 rfl (pq := 58) rfl ?_
        refine wb_goto (tgt := 62) hX dX11_weeks_58 (by decide) ?_
        refine wb_sub [1, 2, 0, 4] (loc' := [(0, .ref (G.1 161)), (1, .int x1), (2, .int (x2 + q_6.1)), (4, .int x4)]) rfl ?_
        exact tM_weeks_J62 hX hQ hN hk30 h
      · have h := ite_f c_9 h
        refine wb_iconst (v := iI (0)) hX dX11_weeks_61 rfl (pq := 62) rfl ?_
        refine wb_sub [1, 2, 0, 4] (loc' := [(0, .ref (G.1 161)), (1, .int x1), (2, .int (x2 + q_6.1)), (4, .int x4)]) rfl ?_
        exact tM_weeks_J62 hX hQ hN hk30 h
set_option maxHeartbeats 4000000 in
set_option maxRecDepth 100000 in
theorem tM_weeks {l : Launch} {G : wG} {s : wM} {x1 : Int32} {r0 : Int32} {s1 : wM} (h : fM_weeks s x1 = some (r0, s1)) : wMet l G yX11_weeks cX11_weeks 5 (some .int) 4 [.ref (G.1 161), .int x1] s (wQi G r0 s1) := by
  refine wMet_of (own := RX11) (by decide +kernel) rfl (Nat.le_of_ble_eq_true rfl) ?_
  intro X hX hQ hN hl
  show WB G X 0 [(0, .ref (G.1 161)), (1, .int x1)] [] s
  unfold fM_weeks at h
  refine wb_aload_n 0 hX dX11_weeks_0 rfl (pq := 1) rfl ?_
  refine wb_iconst (v := iI (0)) hX dX11_weeks_1 rfl (pq := 2) rfl ?_
  refine wb_putI hX fp_1518 sh_161 rfl dX11_weeks_2 rfl rfl (pq := 5) rfl ?_
  refine wb_mem (fun s_1 es_1 => ?_)
  have h := nmM_s h s_1 es_1
  refine wb_iload_n 1 hX dX11_weeks_5 rfl (pq := 6) rfl ?_
  refine wb_i2l hX dX11_weeks_6 (pq := 7) rfl ?_
  refine wb_lconst (v := (0 : Int64)) hX dX11_weeks_7 rfl (pq := 8) rfl ?_
  refine wb_ldc2 (v := (50 : Int64)) hX k_1297 dX11_weeks_8 (pq := 11) rfl ?_
  obtain ⟨q_3, hc_2, h⟩ := bind_s h
  refine wb_callSi (r0 := q_3) (s1 := s_1) [.long x1.toInt64, .long (0 : Int64), .long (50 : Int64)] hX ml_1124 (tM_in hc_2) (by decide) rfl rfl (Nat.le_of_ble_eq_true rfl) dX11_weeks_11 (pq := 14) rfl ?_
  refine wb_if_ne (tgt := 19) hX dX11_weeks_14 (by decide) (pq := 17) rfl (fun c_4 => ?_) (fun c_4 => ?_)
  · have h := ite_t c_4 h
    refine wb_iconst (v := iI (-1)) hX dX11_weeks_17 rfl (pq := 18) rfl ?_
    exact wb_iret hX hQ h dX11_weeks_18
  · have h := ite_f c_4 h
    refine wb_aload_n 0 hX dX11_weeks_19 rfl (pq := 20) rfl ?_
    obtain ⟨q_6, hc_5, h⟩ := bind_s h
    refine wb_callVv (s1 := q_6) [] hX sh_161 ml_1237 (tM_putsBy hc_5) (by decide) rfl rfl (Nat.le_of_ble_eq_true rfl) dX11_weeks_20 (pq := 23) rfl ?_
    refine wb_iconst (v := iI (0)) hX dX11_weeks_23 rfl (pq := 24) rfl ?_
    refine wb_istore_n (loc' := [(2, .int (iI (0))), (0, .ref (G.1 161)), (1, .int x1)]) hX hN dX11_weeks_24 (by decide) rfl (pq := 25) rfl ?_
    refine wb_iconst (v := iI (0)) hX dX11_weeks_25 rfl (pq := 26) rfl ?_
    refine wb_istore_n (loc' := [(3, .int (iI (0))), (2, .int (iI (0))), (0, .ref (G.1 161)), (1, .int x1)]) hX hN dX11_weeks_26 (by decide) rfl (pq := 27) rfl ?_
    refine wb_iconst (v := iI (0)) hX dX11_weeks_27 rfl (pq := 28) rfl ?_
    refine wb_istore (loc' := [(4, .int (iI (0))), (3, .int (iI (0))), (2, .int (iI (0))), (0, .ref (G.1 161)), (1, .int x1)]) hX hN dX11_weeks_28 (by decide) rfl (pq := 30) rfl ?_
    refine wb_sub [3, 4, 2, 1, 0] (loc' := [(0, .ref (G.1 161)), (1, .int x1), (2, .int (iI (0))), (3, .int (iI (0))), (4, .int (iI (0)))]) rfl ?_
    exact tM_weeks_L30 hX hQ hN 100000 _ _ _ _ h
set_option maxHeartbeats 4000000 in
set_option maxRecDepth 100000 in
theorem tM_even_J74 {G : wG} {X : wX} {k14 : Int32 → Int32 → wM → Option (Int32 × wM)} {k26 : Int32 → Int32 → wM → Option (Int32 × wM)} {x1 : Int32} {x2 : Int32} {x3 : Int32} {s : wM} {r0 : Int32} {s1 : wM} (hX : wOK G X cX11_even RX11 (some .int) 4) (hQ : wRt G X (wQi G r0 s1)) (hN : wNl X = 4) (hk14 : ∀ (x1 : Int32) (x2 : Int32) (s : wM), k14 x1 x2 s = some (r0, s1) → WB G X 14 [(0, .ref (G.1 161)), (1, .int x1), (2, .int x2)] [] s) (hk26 : ∀ (x1 : Int32) (x3 : Int32) (s : wM), k26 x1 x3 s = some (r0, s1) → WB G X 26 [(0, .ref (G.1 161)), (1, .int x1), (2, .int x2), (3, .int x3)] [] s) (h : fM_even_J74 k14 k26 x1 x2 x3 s = some (r0, s1)) : WB G X 74 [(0, .ref (G.1 161)), (1, .int x1), (2, .int x2), (3, .int x3)] [] s := by
  unfold fM_even_J74 at h
  refine wb_iinc (v := (x3 + iI (1))) (loc' := [(3, .int (x3 + iI (1))), (0, .ref (G.1 161)), (1, .int x1), (2, .int x2)]) 3 hX hN dX11_even_74 rfl rfl (by decide) rfl (pq := 77) rfl ?_
  refine wb_goto (tgt := 26) hX dX11_even_77 (by decide) ?_
  refine wb_sub [1, 2, 3, 0] (loc' := [(0, .ref (G.1 161)), (1, .int x1), (2, .int x2), (3, .int (x3 + iI (1)))]) rfl ?_
  exact hk26 _ _ _ h
set_option maxHeartbeats 4000000 in
set_option maxRecDepth 100000 in
theorem tM_even_J64 {G : wG} {X : wX} {k14 : Int32 → Int32 → wM → Option (Int32 × wM)} {k26 : Int32 → Int32 → wM → Option (Int32 × wM)} {x1 : Int32} {x2 : Int32} {x3 : Int32} {s : wM} {r0 : Int32} {s1 : wM} (hX : wOK G X cX11_even RX11 (some .int) 4) (hQ : wRt G X (wQi G r0 s1)) (hN : wNl X = 4) (hk14 : ∀ (x1 : Int32) (x2 : Int32) (s : wM), k14 x1 x2 s = some (r0, s1) → WB G X 14 [(0, .ref (G.1 161)), (1, .int x1), (2, .int x2)] [] s) (hk26 : ∀ (x1 : Int32) (x3 : Int32) (s : wM), k26 x1 x3 s = some (r0, s1) → WB G X 26 [(0, .ref (G.1 161)), (1, .int x1), (2, .int x2), (3, .int x3)] [] s) (h : fM_even_J64 k14 k26 x1 x2 x3 s = some (r0, s1)) : WB G X 64 [(0, .ref (G.1 161)), (1, .int x1), (2, .int x2), (3, .int x3)] [] s := by
  unfold fM_even_J64 at h
  refine wb_iload_n 1 hX dX11_even_64 rfl (pq := 65) rfl ?_
  refine wb_iconst (v := iI (1)) hX dX11_even_65 rfl (pq := 66) rfl ?_
  refine wb_iload_n 2 hX dX11_even_66 rfl (pq := 67) rfl ?_
  refine wb_ishl hX dX11_even_67 (pq := 68) rfl ?_
  refine wb_iconst (v := iI (1)) hX dX11_even_68 rfl (pq := 69) rfl ?_
  refine wb_iload_n 3 hX dX11_even_69 rfl (pq := 70) rfl ?_
  refine wb_ishl hX dX11_even_70 (pq := 71) rfl ?_
  refine wb_ior hX dX11_even_71 (pq := 72) rfl ?_
  refine wb_ior hX dX11_even_72 (pq := 73) rfl ?_
  refine wb_topi (fun y_1 ey_1 => ?_)
  have h := nmI_s h y_1 ey_1
  refine wb_istore_n (loc' := [(1, .int y_1), (0, .ref (G.1 161)), (2, .int x2), (3, .int x3)]) hX hN dX11_even_73 (by decide) rfl (pq := 74) rfl ?_
  refine wb_sub [1, 0, 2, 3] (loc' := [(0, .ref (G.1 161)), (1, .int y_1), (2, .int x2), (3, .int x3)]) rfl ?_
  exact tM_even_J74 hX hQ hN hk14 hk26 h
set_option maxHeartbeats 4000000 in
set_option maxRecDepth 100000 in
theorem tM_even_L26 {G : wG} {X : wX} {k14 : Int32 → Int32 → wM → Option (Int32 × wM)} {x2 : Int32} {r0 : Int32} {s1 : wM} (hX : wOK G X cX11_even RX11 (some .int) 4) (hQ : wRt G X (wQi G r0 s1)) (hN : wNl X = 4) (hk14 : ∀ (x1 : Int32) (x2 : Int32) (s : wM), k14 x1 x2 s = some (r0, s1) → WB G X 14 [(0, .ref (G.1 161)), (1, .int x1), (2, .int x2)] [] s) : ∀ (n : Nat) (x1 : Int32) (x3 : Int32) (s : wM), wh3 (fM_even_L26 k14 x2) n x1 x3 s = some (r0, s1) → WB G X 26 [(0, .ref (G.1 161)), (1, .int x1), (2, .int x2), (3, .int x3)] [] s := by
  intro n
  induction n with
  | zero => intro x1 x3 s h; cases h
  | succ n hk26 =>
    intro x1 x3 s h
    have h : fM_even_L26 k14 x2 x1 x3 s (wh3 (fM_even_L26 k14 x2) n) = some (r0, s1) := h
    unfold fM_even_L26 at h
    refine wb_iload_n 3 hX dX11_even_26 rfl (pq := 27) rfl ?_
    refine wb_aload_n 0 hX dX11_even_27 rfl (pq := 28) rfl ?_
    refine wb_getI hX fl_1521 sh_161 rfl dX11_even_28 (pq := 31) rfl ?_
    refine wb_icmp_ge (tgt := 80) hX dX11_even_31 (by decide) (fun c_1 => ?_) (pq := 34) rfl (fun c_1 => ?_)
    · have h := ite_t c_1 h
      refine wb_iinc (v := (x2 + iI (1))) (loc' := [(2, .int (x2 + iI (1))), (0, .ref (G.1 161)), (1, .int x1), (3, .int x3)]) 2 hX hN dX11_even_80 rfl rfl (by decide) rfl (pq := 83) rfl ?_
      refine wb_goto (tgt := 14) hX dX11_even_83 (by decide) ?_
      refine wb_sub [1, 2, 0] (loc' := [(0, .ref (G.1 161)), (1, .int x1), (2, .int (x2 + iI (1)))]) rfl ?_
      exact hk14 _ _ _ h
    · have h := ite_f c_1 h
      refine wb_aload_n 0 hX dX11_even_34 rfl (pq := 35) rfl ?_
      refine wb_aload_n 0 hX dX11_even_35 rfl (pq := 36) rfl ?_
      refine wb_getR hX fl_1522 sh_161 rfl dX11_even_36 (pq := 39) rfl ?_
      refine wb_iload_n 2 hX dX11_even_39 rfl (pq := 40) rfl ?_
      refine wb_iload_n 3 hX dX11_even_40 rfl (pq := 41) rfl ?_
      obtain ⟨q_3, hc_2, h⟩ := bind_s h
      refine wb_callVi (r0 := q_3) (s1 := s) [.ref (G.1 163), .int x2, .int x3] hX sh_161 ml_1183 (tM_isEven sh_163 hc_2) (by decide) rfl rfl (Nat.le_of_ble_eq_true rfl) dX11_even_41 (pq := 44) rfl ?_
      refine wb_if_ne (tgt := 50) hX dX11_even_44 (by decide) (pq := 47) rfl (fun c_4 => ?_) (fun c_4 => ?_)
      · have h := ite_t c_4 h
        refine wb_goto (tgt := 74) hX dX11_even_47 (by decide) ?_
        exact tM_even_J74 hX hQ hN hk14 hk26 h
      · have h := ite_f c_4 h
        refine wb_iload_n 1 hX dX11_even_50 rfl (pq := 51) rfl ?_
        refine wb_if_ne (tgt := 64) hX dX11_even_51 (by decide) (pq := 54) rfl (fun c_5 => ?_) (fun c_5 => ?_)
        · have h := ite_t c_5 h
          refine wb_aload_n 0 hX dX11_even_54 rfl (pq := 55) rfl ?_
          refine wb_iload_n 2 hX dX11_even_55 rfl (pq := 56) rfl ?_
          obtain ⟨q_7, hc_6, h⟩ := bind_s h
          refine wb_callVv (s1 := q_7) [.int x2] hX sh_161 ml_1263 (tM_enters hc_6) (by decide) rfl rfl (Nat.le_of_ble_eq_true rfl) dX11_even_56 (pq := 59) rfl ?_
          refine wb_aload_n 0 hX dX11_even_59 rfl (pq := 60) rfl ?_
          refine wb_iload_n 3 hX dX11_even_60 rfl (pq := 61) rfl ?_
          obtain ⟨q_9, hc_8, h⟩ := bind_s h
          refine wb_callVv (s1 := q_9) [.int x3] hX sh_161 ml_1263 (tM_enters hc_8) (by decide) rfl rfl (Nat.le_of_ble_eq_true rfl) dX11_even_61 (pq := 64) rfl ?_
          exact tM_even_J64 hX hQ hN hk14 hk26 h
        · have h := ite_f c_5 h
          exact tM_even_J64 hX hQ hN hk14 hk26 h
set_option maxHeartbeats 4000000 in
set_option maxRecDepth 100000 in
theorem tM_even_L14 {G : wG} {X : wX} {r0 : Int32} {s1 : wM} (hX : wOK G X cX11_even RX11 (some .int) 4) (hQ : wRt G X (wQi G r0 s1)) (hN : wNl X = 4) : ∀ (n : Nat) (x1 : Int32) (x2 : Int32) (s : wM), wh3 (fM_even_L14) n x1 x2 s = some (r0, s1) → WB G X 14 [(0, .ref (G.1 161)), (1, .int x1), (2, .int x2)] [] s := by
  intro n
  induction n with
  | zero => intro x1 x2 s h; cases h
  | succ n hk14 =>
    intro x1 x2 s h
    have h : fM_even_L14 x1 x2 s (wh3 (fM_even_L14) n) = some (r0, s1) := h
    unfold fM_even_L14 at h
    refine wb_iload_n 2 hX dX11_even_14 rfl (pq := 15) rfl ?_
    refine wb_aload_n 0 hX dX11_even_15 rfl (pq := 16) rfl ?_
    refine wb_getI hX fl_1521 sh_161 rfl dX11_even_16 (pq := 19) rfl ?_
    refine wb_icmp_ge (tgt := 86) hX dX11_even_19 (by decide) (fun c_1 => ?_) (pq := 22) rfl (fun c_1 => ?_)
    · have h := ite_t c_1 h
      refine wb_aload_n 0 hX dX11_even_86 rfl (pq := 87) rfl ?_
      refine wb_iload_n 1 hX dX11_even_87 rfl (pq := 88) rfl ?_
      obtain ⟨q_3, hc_2, h⟩ := bind_s h
      refine wb_callVv (s1 := q_3) [.int x1] hX sh_161 ml_1263 (tM_enters hc_2) (by decide) rfl rfl (Nat.le_of_ble_eq_true rfl) dX11_even_88 (pq := 91) rfl ?_
      refine wb_aload_n 0 hX dX11_even_91 rfl (pq := 92) rfl ?_
      refine wb_aload_n 0 hX dX11_even_92 rfl (pq := 93) rfl ?_
      refine wb_getR hX fl_1522 sh_161 rfl dX11_even_93 (pq := 96) rfl ?_
      obtain ⟨q_5, hc_4, h⟩ := bind_s h
      refine wb_callVi (r0 := q_5) (s1 := q_3) [.ref (G.1 163)] hX sh_161 ml_1289 (tM_evenPairs sh_163 hc_4) (by decide) rfl rfl (Nat.le_of_ble_eq_true rfl) dX11_even_96 (pq := 99) rfl ?_
      exact wb_iret hX hQ h dX11_even_99
    · have h := ite_f c_1 h
      refine wb_iload_n 2 hX dX11_even_22 rfl (pq := 23) rfl ?_
      refine wb_iconst (v := iI (1)) hX dX11_even_23 rfl (pq := 24) rfl ?_
      refine wb_iadd hX dX11_even_24 (pq := 25) rfl ?_
      refine wb_istore_n (loc' := [(3, .int (x2 + (iI (1)))), (0, .ref (G.1 161)), (1, .int x1), (2, .int x2)]) hX hN dX11_even_25 (by decide) rfl (pq := 26) rfl ?_
      refine wb_sub [1, 2, 3, 0] (loc' := [(0, .ref (G.1 161)), (1, .int x1), (2, .int x2), (3, .int (x2 + (iI (1))))]) rfl ?_
      exact tM_even_L26 hX hQ hN hk14 100000 _ _ _ h
set_option maxHeartbeats 4000000 in
set_option maxRecDepth 100000 in
theorem tM_even {l : Launch} {G : wG} {s : wM} {r0 : Int32} {s1 : wM} (h : fM_even s = some (r0, s1)) : wMet l G yX11_even cX11_even 4 (some .int) 4 [.ref (G.1 161)] s (wQi G r0 s1) := by
  refine wMet_of (own := RX11) (by decide +kernel) rfl (Nat.le_of_ble_eq_true rfl) ?_
  intro X hX hQ hN hl
  show WB G X 0 [(0, .ref (G.1 161))] [] s
  unfold fM_even at h
  refine wb_aload_n 0 hX dX11_even_0 rfl (pq := 1) rfl ?_
  refine wb_iconst (v := iI (0)) hX dX11_even_1 rfl (pq := 2) rfl ?_
  refine wb_putI hX fp_1518 sh_161 rfl dX11_even_2 rfl rfl (pq := 5) rfl ?_
  refine wb_mem (fun s_1 es_1 => ?_)
  have h := nmM_s h s_1 es_1
  refine wb_iconst (v := iI (0)) hX dX11_even_5 rfl (pq := 6) rfl ?_
  refine wb_istore_n (loc' := [(1, .int (iI (0))), (0, .ref (G.1 161))]) hX hN dX11_even_6 (by decide) rfl (pq := 7) rfl ?_
  refine wb_aload_n 1 hX dX11_even_7 rfl (pq := 8) rfl ?_
  refine wb_iconst (v := iI (0)) hX dX11_even_8 rfl (pq := 9) rfl ?_
  refine wb_putI hX fp_1519 sh_161 rfl dX11_even_9 rfl rfl (pq := 12) rfl ?_
  refine wb_mem (fun s_2 es_2 => ?_)
  have h := nmM_s h s_2 es_2
  refine wb_iconst (v := iI (0)) hX dX11_even_12 rfl (pq := 13) rfl ?_
  refine wb_istore_n (loc' := [(2, .int (iI (0))), (1, .int (iI (0))), (0, .ref (G.1 161))]) hX hN dX11_even_13 (by decide) rfl (pq := 14) rfl ?_
  refine wb_sub [2, 1, 0] (loc' := [(0, .ref (G.1 161)), (1, .int (iI (0))), (2, .int (iI (0)))]) rfl ?_
  exact tM_even_L14 hX hQ hN 100000 _ _ _ h
set_option maxHeartbeats 4000000 in
set_option maxRecDepth 100000 in
theorem tM_packed_L5 {G : wG} {X : wX} {x1 : Nat} {s : wM} {r0 : Int64} (hX : wOK G X cX11_packed RX11 (some .long) 0) (hQ : wRt G X (wQl G r0 s)) (hN : wNl X = 5) (hx1 : wSh[x1]? = some (.inl (.int, 9, 0, 0))) : ∀ (n : Nat) (x2 : Int64) (x4 : Int32), wh2 (fM_packed_L5 x1 s) n x2 x4 = some r0 → WB G X 5 [(0, .ref (G.1 161)), (1, .ref (G.1 x1)), (2, .long x2), (4, .int x4)] [] s := by
  intro n
  induction n with
  | zero => intro x2 x4 h; cases h
  | succ n hk5 =>
    intro x2 x4 h
    have h : fM_packed_L5 x1 s x2 x4 (wh2 (fM_packed_L5 x1 s) n) = some r0 := h
    unfold fM_packed_L5 at h
    refine wb_iload 3 hX dX11_packed_5 rfl (pq := 7) rfl ?_
    refine wb_aload_n 0 hX dX11_packed_7 rfl (pq := 8) rfl ?_
    refine wb_getI hX fl_1521 sh_161 rfl dX11_packed_8 (pq := 11) rfl ?_
    refine wb_icmp_ge (tgt := 31) hX dX11_packed_11 (by decide) (fun c_1 => ?_) (pq := 14) rfl (fun c_1 => ?_)
    · have h := ite_t c_1 h
      refine wb_lload_n 2 hX dX11_packed_31 rfl (pq := 32) rfl ?_
      exact wb_lretP hX hQ h dX11_packed_32
    · have h := ite_f c_1 h
      refine wb_lload_n 2 hX dX11_packed_14 rfl (pq := 15) rfl ?_
      refine wb_bipush (v := iI (7)) hX dX11_packed_15 (by decide) (pq := 17) rfl ?_
      refine wb_lshl hX dX11_packed_17 (pq := 18) rfl ?_
      refine wb_aload_n 1 hX dX11_packed_18 rfl (pq := 19) rfl ?_
      refine wb_iload 3 hX dX11_packed_19 rfl (pq := 21) rfl ?_
      obtain ⟨hi_2, h⟩ := chk_some h
      refine wb_iald hX hx1 hi_2 dX11_packed_21 (pq := 22) rfl ?_
      refine wb_i2l hX dX11_packed_22 (pq := 23) rfl ?_
      refine wb_lor hX dX11_packed_23 (pq := 24) rfl ?_
      refine wb_topl (fun y_3 ey_3 => ?_)
      have h := nmL_s h y_3 ey_3
      refine wb_lstore_n (loc' := [(2, .long y_3), (0, .ref (G.1 161)), (1, .ref (G.1 x1)), (4, .int x4)]) hX hN dX11_packed_24 (by decide) rfl (pq := 25) rfl ?_
      refine wb_iinc (v := (x4 + iI (1))) (loc' := [(4, .int (x4 + iI (1))), (2, .long y_3), (0, .ref (G.1 161)), (1, .ref (G.1 x1))]) 3 hX hN dX11_packed_25 rfl rfl (by decide) rfl (pq := 28) rfl ?_
      refine wb_goto (tgt := 5) hX dX11_packed_28 (by decide) ?_
      refine wb_sub [2, 3, 1, 0] (loc' := [(0, .ref (G.1 161)), (1, .ref (G.1 x1)), (2, .long y_3), (4, .int (x4 + iI (1)))]) rfl ?_
      exact hk5 _ _ h
set_option maxHeartbeats 4000000 in
set_option maxRecDepth 100000 in
theorem tM_packed {l : Launch} {G : wG} {s : wM} {x1 : Nat} {r0 : Int64} (hx1 : wSh[x1]? = some (.inl (.int, 9, 0, 0))) (h : fM_packed s x1 = some r0) : wMet l G yX11_packed cX11_packed 5 (some .long) 0 [.ref (G.1 161), .ref (G.1 x1)] s (wQl G r0 s) := by
  refine wMet_of (own := RX11) (by decide +kernel) rfl (Nat.le_of_ble_eq_true rfl) ?_
  intro X hX hQ hN hl
  show WB G X 0 [(0, .ref (G.1 161)), (1, .ref (G.1 x1))] [] s
  unfold fM_packed at h
  refine wb_lconst (v := (0 : Int64)) hX dX11_packed_0 rfl (pq := 1) rfl ?_
  refine wb_lstore_n (loc' := [(2, .long (0 : Int64)), (0, .ref (G.1 161)), (1, .ref (G.1 x1))]) hX hN dX11_packed_1 (by decide) rfl (pq := 2) rfl ?_
  refine wb_iconst (v := iI (0)) hX dX11_packed_2 rfl (pq := 3) rfl ?_
  refine wb_istore (loc' := [(4, .int (iI (0))), (2, .long (0 : Int64)), (0, .ref (G.1 161)), (1, .ref (G.1 x1))]) hX hN dX11_packed_3 (by decide) rfl (pq := 5) rfl ?_
  refine wb_sub [2, 3, 1, 0] (loc' := [(0, .ref (G.1 161)), (1, .ref (G.1 x1)), (2, .long (0 : Int64)), (4, .int (iI (0)))]) rfl ?_
  exact tM_packed_L5 hX hQ hN hx1 100000 _ _ h
set_option maxHeartbeats 4000000 in
set_option maxRecDepth 100000 in
theorem tM_unpacks_L15 {G : wG} {X : wX} {s1 : wM} (hX : wOK G X cX11_unpacks RX11 none 0) (hQ : wRt G X (wQv G s1)) (hN : wNl X = 5) : ∀ (n : Nat) (x2 : Int64) (x4 : Int32) (s : wM), wh3 (fM_unpacks_L15) n x2 x4 s = some s1 → WB G X 15 [(0, .ref (G.1 161)), (2, .long x2), (4, .int x4)] [] s := by
  intro n
  induction n with
  | zero => intro x2 x4 s h; cases h
  | succ n hk15 =>
    intro x2 x4 s h
    have h : fM_unpacks_L15 x2 x4 s (wh3 (fM_unpacks_L15) n) = some s1 := h
    unfold fM_unpacks_L15 at h
    refine wb_iload 2 hX dX11_unpacks_15 rfl (pq := 17) rfl ?_
    refine wb_if_lt (tgt := 44) hX dX11_unpacks_17 (by decide) (fun c_1 => ?_) (pq := 20) rfl (fun c_1 => ?_)
    · have h := ite_t c_1 h
      exact wb_vret hX hQ h dX11_unpacks_44
    · have h := ite_f c_1 h
      refine wb_aload_n 0 hX dX11_unpacks_20 rfl (pq := 21) rfl ?_
      refine wb_getR hX fl_1551 sh_161 rfl dX11_unpacks_21 (pq := 24) rfl ?_
      refine wb_iload 2 hX dX11_unpacks_24 rfl (pq := 26) rfl ?_
      refine wb_lload_n 1 hX dX11_unpacks_26 rfl (pq := 27) rfl ?_
      refine wb_ldc2 (v := (127 : Int64)) hX k_1337 dX11_unpacks_27 (pq := 30) rfl ?_
      refine wb_land hX dX11_unpacks_30 (pq := 31) rfl ?_
      refine wb_l2i hX dX11_unpacks_31 (pq := 32) rfl ?_
      obtain ⟨hi_2, h⟩ := chk_some h
      refine wb_iast hX sh_184 hi_2 dX11_unpacks_32 (pq := 33) rfl ?_
      refine wb_mem (fun s_3 es_3 => ?_)
      have h := nmM_s h s_3 es_3
      refine wb_lload_n 1 hX dX11_unpacks_33 rfl (pq := 34) rfl ?_
      refine wb_bipush (v := iI (7)) hX dX11_unpacks_34 (by decide) (pq := 36) rfl ?_
      refine wb_lshr hX dX11_unpacks_36 (pq := 37) rfl ?_
      refine wb_lstore_n (loc' := [(2, .long (lShr x2 (iI (7)))), (0, .ref (G.1 161)), (4, .int x4)]) hX hN dX11_unpacks_37 (by decide) rfl (pq := 38) rfl ?_
      refine wb_iinc (v := (x4 + iI (-1))) (loc' := [(4, .int (x4 + iI (-1))), (2, .long (lShr x2 (iI (7)))), (0, .ref (G.1 161))]) 2 hX hN dX11_unpacks_38 rfl rfl (by decide) rfl (pq := 41) rfl ?_
      refine wb_goto (tgt := 15) hX dX11_unpacks_41 (by decide) ?_
      refine wb_sub [2, 1, 0] (loc' := [(0, .ref (G.1 161)), (2, .long (lShr x2 (iI (7)))), (4, .int (x4 + iI (-1)))]) rfl ?_
      exact hk15 _ _ _ h
set_option maxHeartbeats 4000000 in
set_option maxRecDepth 100000 in
theorem tM_unpacks {l : Launch} {G : wG} {s : wM} {x1 : Int32} {s1 : wM} (h : fM_unpacks s x1 = some s1) : wMet l G yX11_unpacks cX11_unpacks 5 none 0 [.ref (G.1 161), .int x1] s (wQv G s1) := by
  refine wMet_of (own := RX11) (by decide +kernel) rfl (Nat.le_of_ble_eq_true rfl) ?_
  intro X hX hQ hN hl
  show WB G X 0 [(0, .ref (G.1 161)), (1, .int x1)] [] s
  unfold fM_unpacks at h
  refine wb_aload_n 0 hX dX11_unpacks_0 rfl (pq := 1) rfl ?_
  refine wb_getR hX fl_1546 sh_161 rfl dX11_unpacks_1 (pq := 4) rfl ?_
  refine wb_iload_n 1 hX dX11_unpacks_4 rfl (pq := 5) rfl ?_
  obtain ⟨hi_1, h⟩ := chk_some h
  refine wb_lald hX sh_179 hi_1 dX11_unpacks_5 (pq := 6) rfl ?_
  refine wb_lstore_n (loc' := [(2, .long (s.2 179 x1.toNatClampNeg)), (0, .ref (G.1 161)), (1, .int x1)]) hX hN dX11_unpacks_6 (by decide) rfl (pq := 7) rfl ?_
  refine wb_aload_n 1 hX dX11_unpacks_7 rfl (pq := 8) rfl ?_
  refine wb_getI hX fl_1521 sh_161 rfl dX11_unpacks_8 (pq := 11) rfl ?_
  refine wb_iconst (v := iI (1)) hX dX11_unpacks_11 rfl (pq := 12) rfl ?_
  refine wb_isub hX dX11_unpacks_12 (pq := 13) rfl ?_
  refine wb_istore (loc' := [(4, .int ((s.1 161 3) - (iI (1)))), (2, .long (s.2 179 x1.toNatClampNeg)), (0, .ref (G.1 161)), (1, .int x1)]) hX hN dX11_unpacks_13 (by decide) rfl (pq := 15) rfl ?_
  refine wb_sub [2, 1, 0] (loc' := [(0, .ref (G.1 161)), (2, .long (s.2 179 x1.toNatClampNeg)), (4, .int ((s.1 161 3) - (iI (1))))]) rfl ?_
  exact tM_unpacks_L15 hX hQ hN 100000 _ _ _ h
set_option maxHeartbeats 4000000 in
set_option maxRecDepth 100000 in
theorem tM_slotOf_J56 {G : wG} {X : wX} {x3 : Int32} {s : wM} {r0 : Int32} (hX : wOK G X cX11_slotOf RX11 (some .int) 0) (hQ : wRt G X (wQi G r0 s)) (hN : wNl X = 4) (h : fM_slotOf_J56 x3 s = some r0) : WB G X 56 [(3, .int x3)] [] s := by
  unfold fM_slotOf_J56 at h
  refine wb_iload_n 0 hX dX11_slotOf_56 rfl (pq := 57) rfl ?_
  exact wb_iretP hX hQ h dX11_slotOf_57
set_option maxHeartbeats 4000000 in
set_option maxRecDepth 100000 in
theorem tM_slotOf_L20 {G : wG} {X : wX} {x1 : Int64} {s : wM} {r0 : Int32} (hX : wOK G X cX11_slotOf RX11 (some .int) 0) (hQ : wRt G X (wQi G r0 s)) (hN : wNl X = 4) : ∀ (n : Nat) (x3 : Int32), wh1 (fM_slotOf_L20 x1 s) n x3 = some r0 → WB G X 20 [(0, .ref (G.1 161)), (1, .long x1), (3, .int x3)] [] s := by
  intro n
  induction n with
  | zero => intro x3 h; cases h
  | succ n hk20 =>
    intro x3 h
    have h : fM_slotOf_L20 x1 s x3 (wh1 (fM_slotOf_L20 x1 s) n) = some r0 := h
    unfold fM_slotOf_L20 at h
    refine wb_aload_n 0 hX dX11_slotOf_20 rfl (pq := 21) rfl ?_
    refine wb_getR hX fl_1550 sh_161 rfl dX11_slotOf_21 (pq := 24) rfl ?_
    refine wb_iload_n 2 hX dX11_slotOf_24 rfl (pq := 25) rfl ?_
    obtain ⟨hi_1, h⟩ := chk_some h
    refine wb_iald hX sh_183 hi_1 dX11_slotOf_25 (pq := 26) rfl ?_
    refine wb_if_lt (tgt := 56) hX dX11_slotOf_26 (by decide) (fun c_2 => ?_) (pq := 29) rfl (fun c_2 => ?_)
    · have h := ite_t c_2 h
      refine wb_sub [2] (loc' := [(3, .int x3)]) rfl ?_
      exact tM_slotOf_J56 hX hQ hN h
    · have h := ite_f c_2 h
      refine wb_aload_n 0 hX dX11_slotOf_29 rfl (pq := 30) rfl ?_
      refine wb_getR hX fl_1546 sh_161 rfl dX11_slotOf_30 (pq := 33) rfl ?_
      refine wb_aload_n 0 hX dX11_slotOf_33 rfl (pq := 34) rfl ?_
      refine wb_getR hX fl_1550 sh_161 rfl dX11_slotOf_34 (pq := 37) rfl ?_
      refine wb_iload_n 2 hX dX11_slotOf_37 rfl (pq := 38) rfl ?_
      refine wb_iald hX sh_183 hi_1 dX11_slotOf_38 (pq := 39) rfl ?_
      obtain ⟨hi_3, h⟩ := chk_some h
      refine wb_lald hX sh_179 hi_3 dX11_slotOf_39 (pq := 40) rfl ?_
      refine wb_lload_n 1 hX dX11_slotOf_40 rfl (pq := 41) rfl ?_
      refine wb_lcmp hX dX11_slotOf_41 (pq := 42) rfl ?_
      refine wb_if_eq (tgt := 56) hX dX11_slotOf_42 (by decide) (fun c_4 => ?_) (pq := 45) rfl (fun c_4 => ?_)
      · have h := ite_t c_4 h
        refine wb_sub [2] (loc' := [(3, .int x3)]) rfl ?_
        exact tM_slotOf_J56 hX hQ hN h
      · have h := ite_f c_4 h
        refine wb_iload_n 2 hX dX11_slotOf_45 rfl (pq := 46) rfl ?_
        refine wb_iconst (v := iI (1)) hX dX11_slotOf_46 rfl (pq := 47) rfl ?_
        refine wb_iadd hX dX11_slotOf_47 (pq := 48) rfl ?_
        refine wb_sipush (v := iI (16384)) hX dX11_slotOf_48 (by decide) (pq := 51) rfl ?_
        refine wb_irem hX dX11_slotOf_51 (by decide) (pq := 52) rfl ?_
        refine wb_istore_n (loc' := [(3, .int (iRem (x3 + (iI (1))) (iI (16384)))), (0, .ref (G.1 161)), (1, .long x1)]) hX hN dX11_slotOf_52 (by decide) rfl (pq := 53) rfl ?_
        refine wb_goto (tgt := 20) hX dX11_slotOf_53 (by decide) ?_
        refine wb_sub [1, 2, 0] (loc' := [(0, .ref (G.1 161)), (1, .long x1), (3, .int (iRem (x3 + (iI (1))) (iI (16384))))]) rfl ?_
        exact hk20 _ h
set_option maxHeartbeats 4000000 in
set_option maxRecDepth 100000 in
theorem tM_slotOf {l : Launch} {G : wG} {s : wM} {x1 : Int64} {r0 : Int32} (h : fM_slotOf s x1 = some r0) : wMet l G yX11_slotOf cX11_slotOf 4 (some .int) 0 [.ref (G.1 161), .long x1] s (wQi G r0 s) := by
  refine wMet_of (own := RX11) (by decide +kernel) rfl (Nat.le_of_ble_eq_true rfl) ?_
  intro X hX hQ hN hl
  show WB G X 0 [(0, .ref (G.1 161)), (1, .long x1)] [] s
  unfold fM_slotOf at h
  refine wb_lload_n 1 hX dX11_slotOf_0 rfl (pq := 1) rfl ?_
  refine wb_lload_n 1 hX dX11_slotOf_1 rfl (pq := 2) rfl ?_
  refine wb_bipush (v := iI (29)) hX dX11_slotOf_2 (by decide) (pq := 4) rfl ?_
  refine wb_lushr hX dX11_slotOf_4 (pq := 5) rfl ?_
  refine wb_lxor hX dX11_slotOf_5 (pq := 6) rfl ?_
  refine wb_ldc2 (v := (31 : Int64)) hX k_1326 dX11_slotOf_6 (pq := 9) rfl ?_
  refine wb_lmul hX dX11_slotOf_9 (pq := 10) rfl ?_
  refine wb_ldc2 (v := (9223372036854775807 : Int64)) hX k_1327 dX11_slotOf_10 (pq := 13) rfl ?_
  refine wb_land hX dX11_slotOf_13 (pq := 14) rfl ?_
  refine wb_ldc2 (v := (16384 : Int64)) hX k_1328 dX11_slotOf_14 (pq := 17) rfl ?_
  refine wb_lrem hX dX11_slotOf_17 (by decide) (pq := 18) rfl ?_
  refine wb_l2i hX dX11_slotOf_18 (pq := 19) rfl ?_
  refine wb_topi (fun y_1 ey_1 => ?_)
  have h := nmI_s h y_1 ey_1
  refine wb_istore_n (loc' := [(3, .int y_1), (0, .ref (G.1 161)), (1, .long x1)]) hX hN dX11_slotOf_19 (by decide) rfl (pq := 20) rfl ?_
  refine wb_sub [1, 2, 0] (loc' := [(0, .ref (G.1 161)), (1, .long x1), (3, .int y_1)]) rfl ?_
  exact tM_slotOf_L20 hX hQ hN 100000 _ h
set_option maxHeartbeats 4000000 in
set_option maxRecDepth 100000 in
theorem tM_finds_J96 {G : wG} {X : wX} {x7 : Int32} {v0 : Int32} {v1 : Int32} {s : wM} {s1 : wM} (hX : wOK G X cX11_finds RX11 none 1) (hQ : wRt G X (wQv G s1)) (hN : wNl X = 8) (h : fM_finds_J96 x7 v0 v1 s = some s1) : WB G X 96 [(0, .ref (G.1 161)), (7, .int x7)] [.int v0, .int v1, .ref (G.1 182)] s := by
  unfold fM_finds_J96 at h
  obtain ⟨hi_1, h⟩ := chk_some h
  refine wb_iast hX sh_182 hi_1 dX11_finds_96 (pq := 97) rfl ?_
  refine wb_mem (fun s_2 es_2 => ?_)
  have h := nmM_s h s_2 es_2
  refine wb_aload_n 0 hX dX11_finds_97 rfl (pq := 98) rfl ?_
  refine wb_getR hX fl_1550 sh_161 rfl dX11_finds_98 (pq := 101) rfl ?_
  refine wb_iload 1 hX dX11_finds_101 rfl (pq := 103) rfl ?_
  refine wb_aload_n 0 hX dX11_finds_103 rfl (pq := 104) rfl ?_
  refine wb_getI hX fl_1552 sh_161 rfl dX11_finds_104 (pq := 107) rfl ?_
  obtain ⟨hi_3, h⟩ := chk_some h
  refine wb_iast hX sh_183 hi_3 dX11_finds_107 (pq := 108) rfl ?_
  refine wb_mem (fun s_4 es_4 => ?_)
  have h := nmM_s h s_4 es_4
  refine wb_aload_n 0 hX dX11_finds_108 rfl (pq := 109) rfl ?_
  refine wb_dup hX dX11_finds_109 rfl (pq := 110) rfl ?_
  refine wb_getI hX fl_1552 sh_161 rfl dX11_finds_110 (pq := 113) rfl ?_
  refine wb_iconst (v := iI (1)) hX dX11_finds_113 rfl (pq := 114) rfl ?_
  refine wb_iadd hX dX11_finds_114 (pq := 115) rfl ?_
  refine wb_putI hX fp_1552 sh_161 rfl dX11_finds_115 rfl rfl (pq := 118) rfl ?_
  refine wb_mem (fun s_5 es_5 => ?_)
  have h := nmM_s h s_5 es_5
  exact wb_vret hX hQ h dX11_finds_118
set_option maxHeartbeats 4000000 in
set_option maxRecDepth 100000 in
theorem tM_finds {l : Launch} {G : wG} {s : wM} {x1 : Nat} {x2 : Int32} {x3 : Int32} {x4 : Int32} {s1 : wM} (hx1 : wSh[x1]? = some (.inl (.int, 9, 0, 0))) (h : fM_finds s x1 x2 x3 x4 = some s1) : wMet l G yX11_finds cX11_finds 8 none 1 [.ref (G.1 161), .ref (G.1 x1), .int x2, .int x3, .int x4] s (wQv G s1) := by
  refine wMet_of (own := RX11) (by decide +kernel) rfl (Nat.le_of_ble_eq_true rfl) ?_
  intro X hX hQ hN hl
  show WB G X 0 [(0, .ref (G.1 161)), (1, .ref (G.1 x1)), (2, .int x2), (3, .int x3), (4, .int x4)] [] s
  unfold fM_finds at h
  refine wb_aload_n 0 hX dX11_finds_0 rfl (pq := 1) rfl ?_
  refine wb_aload_n 1 hX dX11_finds_1 rfl (pq := 2) rfl ?_
  obtain ⟨q_2, hc_1, h⟩ := bind_s h
  refine wb_callVl (r0 := q_2) (s1 := s) [.ref (G.1 x1)] hX sh_161 ml_1318 (tM_packed hx1 hc_1) (by decide) rfl rfl (Nat.le_of_ble_eq_true rfl) dX11_finds_2 (pq := 5) rfl ?_
  refine wb_lstore (loc' := [(5, .long q_2), (0, .ref (G.1 161)), (1, .ref (G.1 x1)), (2, .int x2), (3, .int x3), (4, .int x4)]) hX hN dX11_finds_5 (by decide) rfl (pq := 7) rfl ?_
  refine wb_aload_n 1 hX dX11_finds_7 rfl (pq := 8) rfl ?_
  refine wb_lload 0 hX dX11_finds_8 rfl (pq := 10) rfl ?_
  obtain ⟨q_4, hc_3, h⟩ := bind_s h
  refine wb_callVi (r0 := q_4) (s1 := s) [.long q_2] hX sh_161 ml_1322 (tM_slotOf hc_3) (by decide) rfl rfl (Nat.le_of_ble_eq_true rfl) dX11_finds_10 (pq := 13) rfl ?_
  refine wb_istore (loc' := [(7, .int q_4), (5, .long q_2), (0, .ref (G.1 161)), (1, .ref (G.1 x1)), (2, .int x2), (3, .int x3), (4, .int x4)]) hX hN dX11_finds_13 (by decide) rfl (pq := 15) rfl ?_
  refine wb_aload_n 2 hX dX11_finds_15 rfl (pq := 16) rfl ?_
  refine wb_getR hX fl_1550 sh_161 rfl dX11_finds_16 (pq := 19) rfl ?_
  refine wb_iload 0 hX dX11_finds_19 rfl (pq := 21) rfl ?_
  obtain ⟨hi_5, h⟩ := chk_some h
  refine wb_iald hX sh_183 hi_5 dX11_finds_21 (pq := 22) rfl ?_
  refine wb_if_lt (tgt := 26) hX dX11_finds_22 (by decide) (fun c_6 => ?_) (pq := 25) rfl (fun c_6 => ?_)
  · have h := ite_t c_6 h
    refine wb_aload_n 2 hX dX11_finds_26 rfl (pq := 27) rfl ?_
    refine wb_getI hX fl_1552 sh_161 rfl dX11_finds_27 (pq := 30) rfl ?_
    refine wb_iload 6 hX dX11_finds_30 rfl (pq := 32) rfl ?_
    refine wb_icmp_ne (tgt := 41) hX dX11_finds_32 (by decide) (pq := 35) rfl (fun c_7 => ?_) (fun c_7 => ?_)
    · have h := ite_t c_7 h
      refine wb_aload_n 2 hX dX11_finds_35 rfl (pq := 36) rfl ?_
      refine wb_iconst (v := iI (1)) hX dX11_finds_36 rfl (pq := 37) rfl ?_
      refine wb_putI hX fp_1553 sh_161 rfl dX11_finds_37 nar01.2.1 nar01.2.2.1 (pq := 40) rfl ?_
      refine wb_mem (fun s_8 es_8 => ?_)
      have h := nmM_s h s_8 es_8
      exact wb_vret hX hQ h dX11_finds_40
    · have h := ite_f c_7 h
      refine wb_aload_n 2 hX dX11_finds_41 rfl (pq := 42) rfl ?_
      refine wb_getR hX fl_1546 sh_161 rfl dX11_finds_42 (pq := 45) rfl ?_
      refine wb_aload_n 2 hX dX11_finds_45 rfl (pq := 46) rfl ?_
      refine wb_getI hX fl_1552 sh_161 rfl dX11_finds_46 (pq := 49) rfl ?_
      refine wb_lload 1 hX dX11_finds_49 rfl (pq := 51) rfl ?_
      obtain ⟨hi_9, h⟩ := chk_some h
      refine wb_last hX sh_179 hi_9 dX11_finds_51 (pq := 52) rfl ?_
      refine wb_mem (fun s_10 es_10 => ?_)
      have h := nmM_s h s_10 es_10
      refine wb_aload_n 2 hX dX11_finds_52 rfl (pq := 53) rfl ?_
      refine wb_getR hX fl_1547 sh_161 rfl dX11_finds_53 (pq := 56) rfl ?_
      refine wb_aload_n 2 hX dX11_finds_56 rfl (pq := 57) rfl ?_
      refine wb_getI hX fl_1552 sh_161 rfl dX11_finds_57 (pq := 60) rfl ?_
      refine wb_iload_n 4 hX dX11_finds_60 rfl (pq := 61) rfl ?_
      obtain ⟨hi_11, h⟩ := chk_some h
      refine wb_iast hX sh_180 hi_11 dX11_finds_61 (pq := 62) rfl ?_
      refine wb_mem (fun s_12 es_12 => ?_)
      have h := nmM_s h s_12 es_12
      refine wb_aload_n 2 hX dX11_finds_62 rfl (pq := 63) rfl ?_
      refine wb_getR hX fl_1548 sh_161 rfl dX11_finds_63 (pq := 66) rfl ?_
      refine wb_aload_n 2 hX dX11_finds_66 rfl (pq := 67) rfl ?_
      refine wb_getI hX fl_1552 sh_161 rfl dX11_finds_67 (pq := 70) rfl ?_
      refine wb_iload_n 5 hX dX11_finds_70 rfl (pq := 71) rfl ?_
      obtain ⟨hi_13, h⟩ := chk_some h
      refine wb_iast hX sh_181 hi_13 dX11_finds_71 (pq := 72) rfl ?_
      refine wb_mem (fun s_14 es_14 => ?_)
      have h := nmM_s h s_14 es_14
      refine wb_aload_n 2 hX dX11_finds_72 rfl (pq := 73) rfl ?_
      refine wb_getR hX fl_1549 sh_161 rfl dX11_finds_73 (pq := 76) rfl ?_
      refine wb_aload_n 2 hX dX11_finds_76 rfl (pq := 77) rfl ?_
      refine wb_getI hX fl_1552 sh_161 rfl dX11_finds_77 (pq := 80) rfl ?_
      refine wb_iload_n 4 hX dX11_finds_80 rfl (pq := 81) rfl ?_
      refine wb_if_ge (tgt := 88) hX dX11_finds_81 (by decide) (fun c_15 => ?_) (pq := 84) rfl (fun c_15 => ?_)
      · have h := ite_t c_15 h
        refine wb_aload_n 2 hX dX11_finds_88 rfl (pq := 89) rfl ?_
        refine wb_getR hX fl_1549 sh_161 rfl dX11_finds_89 (pq := 92) rfl ?_
        refine wb_iload_n 4 hX dX11_finds_92 rfl (pq := 93) rfl ?_
        obtain ⟨hi_16, h⟩ := chk_some h
        refine wb_iald hX sh_182 hi_16 dX11_finds_93 (pq := 94) rfl ?_
        refine wb_iconst (v := iI (1)) hX dX11_finds_94 rfl (pq := 95) rfl ?_
        refine wb_iadd hX dX11_finds_95 (pq := 96) rfl ?_
        refine wb_sub [2, 0] (loc' := [(0, .ref (G.1 161)), (7, .int q_4)]) rfl ?_
        exact tM_finds_J96 hX hQ hN h
      · have h := ite_f c_15 h
        refine wb_iconst (v := iI (0)) hX dX11_finds_84 rfl (pq := 85) rfl ?_
        refine wb_goto (tgt := 96) hX dX11_finds_85 (by decide) ?_
        refine wb_sub [2, 0] (loc' := [(0, .ref (G.1 161)), (7, .int q_4)]) rfl ?_
        exact tM_finds_J96 hX hQ hN h
  · have h := ite_f c_6 h
    exact wb_vret hX hQ h dX11_finds_25
