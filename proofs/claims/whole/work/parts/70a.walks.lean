set_option maxHeartbeats 4000000 in
set_option maxRecDepth 100000 in
theorem tAh_rewind {l : Launch} {G : wG} {s : wM} {s1 : wM} (h : fAh_rewind s = some s1) : wMet l G yX0_rewind cX0_rewind 2 none 0 [.ref (G.1 13), .ref (G.1 7)] s (wQv G s1) := by
  refine wMet_of (own := RX0) (by decide +kernel) rfl (Nat.le_of_ble_eq_true rfl) ?_
  intro X hX hQ hN hl
  show WB G X 0 [(0, .ref (G.1 13)), (1, .ref (G.1 7))] [] s
  unfold fAh_rewind at h
  refine wb_aload_n 1 hX dX0_rewind_0 rfl (pq := 1) rfl ?_
  refine wb_getR hX fl_90 sh_7 rfl dX0_rewind_1 (pq := 4) rfl ?_
  refine wb_iconst (v := iI (0)) hX dX0_rewind_4 rfl (pq := 5) rfl ?_
  refine wb_aload_n 0 hX dX0_rewind_5 rfl (pq := 6) rfl ?_
  refine wb_getR hX fl_135 sh_13 rfl dX0_rewind_6 (pq := 9) rfl ?_
  refine wb_iconst (v := iI (0)) hX dX0_rewind_9 rfl (pq := 10) rfl ?_
  refine wb_bipush (v := iI (9)) hX dX0_rewind_10 (by decide) (pq := 12) rfl ?_
  obtain ⟨hc_1, h⟩ := chkC_some h
  refine wb_copy hX k_571 k_517 k_516 k_19 sh_8 sh_14 hc_1 (Nat.le_of_ble_eq_true rfl) dX0_rewind_12 (pq := 15) rfl ?_
  refine wb_mem (fun s_2 es_2 => ?_)
  have h := nmM_s h s_2 es_2
  refine wb_aload_n 0 hX dX0_rewind_15 rfl (pq := 16) rfl ?_
  refine wb_iconst (v := iI (0)) hX dX0_rewind_16 rfl (pq := 17) rfl ?_
  refine wb_putI hX fp_152 sh_13 rfl dX0_rewind_17 nar01.1.1 nar01.1.2.1 (pq := 20) rfl ?_
  refine wb_mem (fun s_3 es_3 => ?_)
  have h := nmM_s h s_3 es_3
  exact wb_vret hX hQ h dX0_rewind_20
set_option maxHeartbeats 4000000 in
set_option maxRecDepth 100000 in
theorem tLand_between {l : Launch} {G : wG} {s : wM} {x1 : Int32} {x2 : Int32} {r0 : Int32} (h : fLand_between s x1 x2 = some r0) : wMet l G yX2_between cX2_between 3 (some .int) 0 [.ref (G.1 7), .int x1, .int x2] s (wQi G r0 s) := by
  refine wMet_of (own := RX2) (by decide +kernel) rfl (Nat.le_of_ble_eq_true rfl) ?_
  intro X hX hQ hN hl
  show WB G X 0 [(0, .ref (G.1 7)), (1, .int x1), (2, .int x2)] [] s
  unfold fLand_between at h
  refine wb_aload_n 0 hX dX2_between_0 rfl (pq := 1) rfl ?_
  refine wb_getR hX fl_113 sh_7 rfl dX2_between_1 (pq := 4) rfl ?_
  refine wb_iload_n 1 hX dX2_between_4 rfl (pq := 5) rfl ?_
  refine wb_bipush (v := iI (9)) hX dX2_between_5 (by decide) (pq := 7) rfl ?_
  refine wb_imul hX dX2_between_7 (pq := 8) rfl ?_
  refine wb_iload_n 2 hX dX2_between_8 rfl (pq := 9) rfl ?_
  refine wb_iadd hX dX2_between_9 (pq := 10) rfl ?_
  obtain ⟨hi_1, h⟩ := chk_some h
  refine wb_iald hX sh_12 hi_1 dX2_between_10 (pq := 11) rfl ?_
  exact wb_iretP hX hQ h dX2_between_11
set_option maxHeartbeats 4000000 in
set_option maxRecDepth 100000 in
theorem tAh_look_J120 {G : wG} {X : wX} {k45 : Int32 → wM → Option (wM)} {k57 : Int32 → wM → Option (wM)} {x2 : Int32} {x3 : Int32} {s : wM} {s1 : wM} (hX : wOK G X cX0_look RX0 none 1) (hQ : wRt G X (wQv G s1)) (hN : wNl X = 4) (hk45 : ∀ (x2 : Int32) (s : wM), k45 x2 s = some s1 → WB G X 45 [(0, .ref (G.1 13)), (1, .ref (G.1 7)), (2, .int x2)] [] s) (hk57 : ∀ (x3 : Int32) (s : wM), k57 x3 s = some s1 → WB G X 57 [(0, .ref (G.1 13)), (1, .ref (G.1 7)), (2, .int x2), (3, .int x3)] [] s) (h : fAh_look_J120 k45 k57 x2 x3 s = some s1) : WB G X 120 [(0, .ref (G.1 13)), (1, .ref (G.1 7)), (2, .int x2), (3, .int x3)] [] s := by
  unfold fAh_look_J120 at h
  refine wb_iinc (v := (x3 + iI (1))) (loc' := [(3, .int (x3 + iI (1))), (0, .ref (G.1 13)), (1, .ref (G.1 7)), (2, .int x2)]) 3 hX hN dX0_look_120 rfl rfl (by decide) rfl (pq := 123) rfl ?_
  refine wb_goto (tgt := 57) hX dX0_look_123 (by decide) ?_
  refine wb_sub [1, 2, 3, 0] (loc' := [(0, .ref (G.1 13)), (1, .ref (G.1 7)), (2, .int x2), (3, .int (x3 + iI (1)))]) rfl ?_
  exact hk57 _ _ h
set_option maxHeartbeats 4000000 in
set_option maxRecDepth 100000 in
theorem tAh_look_L57 {G : wG} {X : wX} {k45 : Int32 → wM → Option (wM)} {x2 : Int32} {s1 : wM} (hX : wOK G X cX0_look RX0 none 1) (hQ : wRt G X (wQv G s1)) (hN : wNl X = 4) (hk45 : ∀ (x2 : Int32) (s : wM), k45 x2 s = some s1 → WB G X 45 [(0, .ref (G.1 13)), (1, .ref (G.1 7)), (2, .int x2)] [] s) : ∀ (n : Nat) (x3 : Int32) (s : wM), wh2 (fAh_look_L57 k45 x2) n x3 s = some s1 → WB G X 57 [(0, .ref (G.1 13)), (1, .ref (G.1 7)), (2, .int x2), (3, .int x3)] [] s := by
  intro n
  induction n with
  | zero => intro x3 s h; cases h
  | succ n hk57 =>
    intro x3 s h
    have h : fAh_look_L57 k45 x2 x3 s (wh2 (fAh_look_L57 k45 x2) n) = some s1 := h
    unfold fAh_look_L57 at h
    refine wb_iload_n 3 hX dX0_look_57 rfl (pq := 58) rfl ?_
    refine wb_aload_n 0 hX dX0_look_58 rfl (pq := 59) rfl ?_
    refine wb_getI hX fl_157 sh_13 rfl dX0_look_59 (pq := 62) rfl ?_
    refine wb_icmp_ge (tgt := 126) hX dX0_look_62 (by decide) (fun c_1 => ?_) (pq := 65) rfl (fun c_1 => ?_)
    · have h := ite_t c_1 h
      refine wb_iinc (v := (x2 + iI (1))) (loc' := [(2, .int (x2 + iI (1))), (0, .ref (G.1 13)), (1, .ref (G.1 7)), (3, .int x3)]) 2 hX hN dX0_look_126 rfl rfl (by decide) rfl (pq := 129) rfl ?_
      refine wb_goto (tgt := 45) hX dX0_look_129 (by decide) ?_
      refine wb_sub [1, 2, 0] (loc' := [(0, .ref (G.1 13)), (1, .ref (G.1 7)), (2, .int (x2 + iI (1)))]) rfl ?_
      exact hk45 _ _ h
    · have h := ite_f c_1 h
      refine wb_aload_n 1 hX dX0_look_65 rfl (pq := 66) rfl ?_
      refine wb_iload_n 2 hX dX0_look_66 rfl (pq := 67) rfl ?_
      refine wb_iload_n 3 hX dX0_look_67 rfl (pq := 68) rfl ?_
      obtain ⟨q_3, hc_2, h⟩ := bind_s h
      refine wb_callVi (r0 := q_3) (s1 := s) [.int x2, .int x3] hX sh_7 ml_576 (tLand_between hc_2) (by decide) rfl rfl (Nat.le_of_ble_eq_true rfl) dX0_look_68 (pq := 71) rfl ?_
      refine wb_iconst (v := iI (-1)) hX dX0_look_71 rfl (pq := 72) rfl ?_
      refine wb_icmp_eq (tgt := 120) hX dX0_look_72 (by decide) (fun c_4 => ?_) (pq := 75) rfl (fun c_4 => ?_)
      · have h := ite_t c_4 h
        exact tAh_look_J120 hX hQ hN hk45 hk57 h
      · have h := ite_f c_4 h
        refine wb_aload_n 0 hX dX0_look_75 rfl (pq := 76) rfl ?_
        refine wb_getR hX fl_142 sh_13 rfl dX0_look_76 (pq := 79) rfl ?_
        refine wb_aload_n 0 hX dX0_look_79 rfl (pq := 80) rfl ?_
        refine wb_getI hX fl_148 sh_13 rfl dX0_look_80 (pq := 83) rfl ?_
        refine wb_iload_n 2 hX dX0_look_83 rfl (pq := 84) rfl ?_
        obtain ⟨hi_5, h⟩ := chk_some h
        refine wb_iast hX sh_17 hi_5 dX0_look_84 (pq := 85) rfl ?_
        refine wb_mem (fun s_6 es_6 => ?_)
        have h := nmM_s h s_6 es_6
        refine wb_aload_n 0 hX dX0_look_85 rfl (pq := 86) rfl ?_
        refine wb_getR hX fl_144 sh_13 rfl dX0_look_86 (pq := 89) rfl ?_
        refine wb_aload_n 0 hX dX0_look_89 rfl (pq := 90) rfl ?_
        refine wb_getI hX fl_148 sh_13 rfl dX0_look_90 (pq := 93) rfl ?_
        refine wb_iload_n 3 hX dX0_look_93 rfl (pq := 94) rfl ?_
        obtain ⟨hi_7, h⟩ := chk_some h
        refine wb_iast hX sh_18 hi_7 dX0_look_94 (pq := 95) rfl ?_
        refine wb_mem (fun s_8 es_8 => ?_)
        have h := nmM_s h s_8 es_8
        refine wb_aload_n 0 hX dX0_look_95 rfl (pq := 96) rfl ?_
        refine wb_getR hX fl_146 sh_13 rfl dX0_look_96 (pq := 99) rfl ?_
        refine wb_aload_n 0 hX dX0_look_99 rfl (pq := 100) rfl ?_
        refine wb_getI hX fl_148 sh_13 rfl dX0_look_100 (pq := 103) rfl ?_
        refine wb_aload_n 1 hX dX0_look_103 rfl (pq := 104) rfl ?_
        refine wb_iload_n 2 hX dX0_look_104 rfl (pq := 105) rfl ?_
        refine wb_iload_n 3 hX dX0_look_105 rfl (pq := 106) rfl ?_
        obtain ⟨q_10, hc_9, h⟩ := bind_s h
        refine wb_callVi (r0 := q_10) (s1 := s_8) [.int x2, .int x3] hX sh_7 ml_576 (tLand_between hc_9) (by decide) rfl rfl (Nat.le_of_ble_eq_true rfl) dX0_look_106 (pq := 109) rfl ?_
        obtain ⟨hi_11, h⟩ := chk_some h
        refine wb_iast hX sh_19 hi_11 dX0_look_109 (pq := 110) rfl ?_
        refine wb_mem (fun s_12 es_12 => ?_)
        have h := nmM_s h s_12 es_12
        refine wb_aload_n 0 hX dX0_look_110 rfl (pq := 111) rfl ?_
        refine wb_dup hX dX0_look_111 rfl (pq := 112) rfl ?_
        refine wb_getI hX fl_148 sh_13 rfl dX0_look_112 (pq := 115) rfl ?_
        refine wb_iconst (v := iI (1)) hX dX0_look_115 rfl (pq := 116) rfl ?_
        refine wb_iadd hX dX0_look_116 (pq := 117) rfl ?_
        refine wb_putI hX fp_148 sh_13 rfl dX0_look_117 rfl rfl (pq := 120) rfl ?_
        refine wb_mem (fun s_13 es_13 => ?_)
        have h := nmM_s h s_13 es_13
        exact tAh_look_J120 hX hQ hN hk45 hk57 h
set_option maxHeartbeats 4000000 in
set_option maxRecDepth 100000 in
theorem tAh_look_L45 {G : wG} {X : wX} {s1 : wM} (hX : wOK G X cX0_look RX0 none 1) (hQ : wRt G X (wQv G s1)) (hN : wNl X = 4) : ∀ (n : Nat) (x2 : Int32) (s : wM), wh2 (fAh_look_L45) n x2 s = some s1 → WB G X 45 [(0, .ref (G.1 13)), (1, .ref (G.1 7)), (2, .int x2)] [] s := by
  intro n
  induction n with
  | zero => intro x2 s h; cases h
  | succ n hk45 =>
    intro x2 s h
    have h : fAh_look_L45 x2 s (wh2 (fAh_look_L45) n) = some s1 := h
    unfold fAh_look_L45 at h
    refine wb_iload_n 2 hX dX0_look_45 rfl (pq := 46) rfl ?_
    refine wb_aload_n 0 hX dX0_look_46 rfl (pq := 47) rfl ?_
    refine wb_getI hX fl_157 sh_13 rfl dX0_look_47 (pq := 50) rfl ?_
    refine wb_icmp_ge (tgt := 132) hX dX0_look_50 (by decide) (fun c_1 => ?_) (pq := 53) rfl (fun c_1 => ?_)
    · have h := ite_t c_1 h
      exact wb_vret hX hQ h dX0_look_132
    · have h := ite_f c_1 h
      refine wb_iload_n 2 hX dX0_look_53 rfl (pq := 54) rfl ?_
      refine wb_iconst (v := iI (1)) hX dX0_look_54 rfl (pq := 55) rfl ?_
      refine wb_iadd hX dX0_look_55 (pq := 56) rfl ?_
      refine wb_istore_n (loc' := [(3, .int (x2 + (iI (1)))), (0, .ref (G.1 13)), (1, .ref (G.1 7)), (2, .int x2)]) hX hN dX0_look_56 (by decide) rfl (pq := 57) rfl ?_
      refine wb_sub [1, 2, 3, 0] (loc' := [(0, .ref (G.1 13)), (1, .ref (G.1 7)), (2, .int x2), (3, .int (x2 + (iI (1))))]) rfl ?_
      exact tAh_look_L57 hX hQ hN hk45 100000 _ _ h
set_option maxHeartbeats 4000000 in
set_option maxRecDepth 100000 in
theorem tAh_look {l : Launch} {G : wG} {s : wM} {s1 : wM} (h : fAh_look s = some s1) : wMet l G yX0_look cX0_look 4 none 1 [.ref (G.1 13), .ref (G.1 7)] s (wQv G s1) := by
  refine wMet_of (own := RX0) (by decide +kernel) rfl (Nat.le_of_ble_eq_true rfl) ?_
  intro X hX hQ hN hl
  show WB G X 0 [(0, .ref (G.1 13)), (1, .ref (G.1 7))] [] s
  unfold fAh_look at h
  refine wb_aload_n 0 hX dX0_look_0 rfl (pq := 1) rfl ?_
  refine wb_aload_n 1 hX dX0_look_1 rfl (pq := 2) rfl ?_
  refine wb_getI hX fl_105 sh_7 rfl dX0_look_2 (pq := 5) rfl ?_
  refine wb_putI hX fp_157 sh_13 rfl dX0_look_5 rfl rfl (pq := 8) rfl ?_
  refine wb_mem (fun s_1 es_1 => ?_)
  have h := nmM_s h s_1 es_1
  refine wb_aload_n 0 hX dX0_look_8 rfl (pq := 9) rfl ?_
  refine wb_aload_n 1 hX dX0_look_9 rfl (pq := 10) rfl ?_
  refine wb_getR hX fl_101 sh_7 rfl dX0_look_10 (pq := 13) rfl ?_
  refine wb_iconst (v := iI (0)) hX dX0_look_13 rfl (pq := 14) rfl ?_
  refine wb_iald hX sh_11 (by unfold vp_in; decide) dX0_look_14 (pq := 15) rfl ?_
  refine wb_putI hX fp_158 sh_13 rfl dX0_look_15 rfl rfl (pq := 18) rfl ?_
  refine wb_mem (fun s_2 es_2 => ?_)
  have h := nmM_s h s_2 es_2
  refine wb_aload_n 1 hX dX0_look_18 rfl (pq := 19) rfl ?_
  refine wb_getR hX fl_94 sh_7 rfl dX0_look_19 (pq := 22) rfl ?_
  refine wb_iconst (v := iI (0)) hX dX0_look_22 rfl (pq := 23) rfl ?_
  refine wb_aload_n 0 hX dX0_look_23 rfl (pq := 24) rfl ?_
  refine wb_getR hX fl_138 sh_13 rfl dX0_look_24 (pq := 27) rfl ?_
  refine wb_iconst (v := iI (0)) hX dX0_look_27 rfl (pq := 28) rfl ?_
  refine wb_bipush (v := iI (9)) hX dX0_look_28 (by decide) (pq := 30) rfl ?_
  obtain ⟨hc_3, h⟩ := chkC_some h
  refine wb_copy hX k_571 k_517 k_516 k_19 sh_9 sh_15 hc_3 (Nat.le_of_ble_eq_true rfl) dX0_look_30 (pq := 33) rfl ?_
  refine wb_mem (fun s_4 es_4 => ?_)
  have h := nmM_s h s_4 es_4
  refine wb_aload_n 0 hX dX0_look_33 rfl (pq := 34) rfl ?_
  refine wb_aload_n 1 hX dX0_look_34 rfl (pq := 35) rfl ?_
  obtain ⟨q_6, hc_5, h⟩ := bind_s h
  refine wb_callVv (s1 := q_6) [.ref (G.1 7)] hX sh_13 ml_572 (tAh_rewind hc_5) (by decide) rfl rfl (Nat.le_of_ble_eq_true rfl) dX0_look_35 (pq := 38) rfl ?_
  refine wb_aload_n 0 hX dX0_look_38 rfl (pq := 39) rfl ?_
  refine wb_iconst (v := iI (0)) hX dX0_look_39 rfl (pq := 40) rfl ?_
  refine wb_putI hX fp_148 sh_13 rfl dX0_look_40 rfl rfl (pq := 43) rfl ?_
  refine wb_mem (fun s_7 es_7 => ?_)
  have h := nmM_s h s_7 es_7
  refine wb_iconst (v := iI (0)) hX dX0_look_43 rfl (pq := 44) rfl ?_
  refine wb_istore_n (loc' := [(2, .int (iI (0))), (0, .ref (G.1 13)), (1, .ref (G.1 7))]) hX hN dX0_look_44 (by decide) rfl (pq := 45) rfl ?_
  refine wb_sub [1, 2, 0] (loc' := [(0, .ref (G.1 13)), (1, .ref (G.1 7)), (2, .int (iI (0)))]) rfl ?_
  exact tAh_look_L45 hX hQ hN 100000 _ _ h
set_option maxHeartbeats 4000000 in
set_option maxRecDepth 100000 in
theorem tAh_pairOf_J51 {G : wG} {X : wX} {k16 : Int32 → Option (Int32)} {x3 : Int32} {x4 : Int32} {x5 : Int32} {s : wM} {r0 : Int32} (hX : wOK G X cX0_pairOf RX0 (some .int) 0) (hQ : wRt G X (wQi G r0 s)) (hN : wNl X = 6) (hk16 : ∀ (x5 : Int32), k16 x5 = some r0 → WB G X 16 [(0, .ref (G.1 13)), (3, .int x3), (4, .int x4), (5, .int x5)] [] s) (h : fAh_pairOf_J51 k16 x3 x4 x5 s = some r0) : WB G X 51 [(0, .ref (G.1 13)), (3, .int x3), (4, .int x4), (5, .int x5)] [] s := by
  unfold fAh_pairOf_J51 at h
  refine wb_iinc (v := (x5 + iI (1))) (loc' := [(5, .int (x5 + iI (1))), (0, .ref (G.1 13)), (3, .int x3), (4, .int x4)]) 3 hX hN dX0_pairOf_51 rfl rfl (by decide) rfl (pq := 54) rfl ?_
  refine wb_goto (tgt := 16) hX dX0_pairOf_54 (by decide) ?_
  refine wb_sub [1, 2, 3, 0] (loc' := [(0, .ref (G.1 13)), (3, .int x3), (4, .int x4), (5, .int (x5 + iI (1)))]) rfl ?_
  exact hk16 _ h
set_option maxHeartbeats 4000000 in
set_option maxRecDepth 100000 in
theorem tAh_pairOf_L16 {G : wG} {X : wX} {x3 : Int32} {x4 : Int32} {s : wM} {r0 : Int32} (hX : wOK G X cX0_pairOf RX0 (some .int) 0) (hQ : wRt G X (wQi G r0 s)) (hN : wNl X = 6) : ∀ (n : Nat) (x5 : Int32), wh1 (fAh_pairOf_L16 x3 x4 s) n x5 = some r0 → WB G X 16 [(0, .ref (G.1 13)), (3, .int x3), (4, .int x4), (5, .int x5)] [] s := by
  intro n
  induction n with
  | zero => intro x5 h; cases h
  | succ n hk16 =>
    intro x5 h
    have h : fAh_pairOf_L16 x3 x4 s x5 (wh1 (fAh_pairOf_L16 x3 x4 s) n) = some r0 := h
    unfold fAh_pairOf_L16 at h
    refine wb_iload 3 hX dX0_pairOf_16 rfl (pq := 18) rfl ?_
    refine wb_aload_n 0 hX dX0_pairOf_18 rfl (pq := 19) rfl ?_
    refine wb_getI hX fl_148 sh_13 rfl dX0_pairOf_19 (pq := 22) rfl ?_
    refine wb_icmp_ge (tgt := 57) hX dX0_pairOf_22 (by decide) (fun c_1 => ?_) (pq := 25) rfl (fun c_1 => ?_)
    · have h := ite_t c_1 h
      refine wb_iconst (v := iI (-1)) hX dX0_pairOf_57 rfl (pq := 58) rfl ?_
      exact wb_iretP hX hQ h dX0_pairOf_58
    · have h := ite_f c_1 h
      refine wb_aload_n 0 hX dX0_pairOf_25 rfl (pq := 26) rfl ?_
      refine wb_getR hX fl_142 sh_13 rfl dX0_pairOf_26 (pq := 29) rfl ?_
      refine wb_iload 3 hX dX0_pairOf_29 rfl (pq := 31) rfl ?_
      obtain ⟨hi_2, h⟩ := chk_some h
      refine wb_iald hX sh_17 hi_2 dX0_pairOf_31 (pq := 32) rfl ?_
      refine wb_iload_n 1 hX dX0_pairOf_32 rfl (pq := 33) rfl ?_
      refine wb_icmp_ne (tgt := 51) hX dX0_pairOf_33 (by decide) (pq := 36) rfl (fun c_3 => ?_) (fun c_3 => ?_)
      · have h := ite_t c_3 h
        refine wb_aload_n 0 hX dX0_pairOf_36 rfl (pq := 37) rfl ?_
        refine wb_getR hX fl_144 sh_13 rfl dX0_pairOf_37 (pq := 40) rfl ?_
        refine wb_iload 3 hX dX0_pairOf_40 rfl (pq := 42) rfl ?_
        refine wb_iald hX sh_18 hi_2 dX0_pairOf_42 (pq := 43) rfl ?_
        refine wb_iload 2 hX dX0_pairOf_43 rfl (pq := 45) rfl ?_
        refine wb_icmp_ne (tgt := 51) hX dX0_pairOf_45 (by decide) (pq := 48) rfl (fun c_4 => ?_) (fun c_4 => ?_)
        · have h := ite_t c_4 h
          refine wb_iload 3 hX dX0_pairOf_48 rfl (pq := 50) rfl ?_
          exact wb_iretP hX hQ h dX0_pairOf_50
        · have h := ite_f c_4 h
          exact tAh_pairOf_J51 hX hQ hN hk16 h
      · have h := ite_f c_3 h
        exact tAh_pairOf_J51 hX hQ hN hk16 h
set_option maxHeartbeats 4000000 in
set_option maxRecDepth 100000 in
theorem tAh_pairOf {l : Launch} {G : wG} {s : wM} {x1 : Int32} {x2 : Int32} {r0 : Int32} (h : fAh_pairOf s x1 x2 = some r0) : wMet l G yX0_pairOf cX0_pairOf 6 (some .int) 0 [.ref (G.1 13), .int x1, .int x2] s (wQi G r0 s) := by
  refine wMet_of (own := RX0) (by decide +kernel) rfl (Nat.le_of_ble_eq_true rfl) ?_
  intro X hX hQ hN hl
  show WB G X 0 [(0, .ref (G.1 13)), (1, .int x1), (2, .int x2)] [] s
  unfold fAh_pairOf at h
  refine wb_iload_n 1 hX dX0_pairOf_0 rfl (pq := 1) rfl ?_
  refine wb_iload_n 2 hX dX0_pairOf_1 rfl (pq := 2) rfl ?_
  refine wb_mmin hX k_904 k_394 k_14 k_395 (Nat.le_of_ble_eq_true rfl) dX0_pairOf_2 (pq := 5) rfl ?_
  refine wb_istore_n (loc' := [(3, .int (iMin x1 x2)), (0, .ref (G.1 13)), (1, .int x1), (2, .int x2)]) hX hN dX0_pairOf_5 (by decide) rfl (pq := 6) rfl ?_
  refine wb_iload_n 2 hX dX0_pairOf_6 rfl (pq := 7) rfl ?_
  refine wb_iload_n 3 hX dX0_pairOf_7 rfl (pq := 8) rfl ?_
  refine wb_mmax hX k_593 k_491 k_14 k_492 (Nat.le_of_ble_eq_true rfl) dX0_pairOf_8 (pq := 11) rfl ?_
  refine wb_istore (loc' := [(4, .int (iMax x1 x2)), (3, .int (iMin x1 x2)), (0, .ref (G.1 13)), (1, .int x1), (2, .int x2)]) hX hN dX0_pairOf_11 (by decide) rfl (pq := 13) rfl ?_
  refine wb_iconst (v := iI (0)) hX dX0_pairOf_13 rfl (pq := 14) rfl ?_
  refine wb_istore (loc' := [(5, .int (iI (0))), (4, .int (iMax x1 x2)), (3, .int (iMin x1 x2)), (0, .ref (G.1 13)), (1, .int x1), (2, .int x2)]) hX hN dX0_pairOf_14 (by decide) rfl (pq := 16) rfl ?_
  refine wb_sub [3, 2, 1, 0] (loc' := [(0, .ref (G.1 13)), (3, .int (iMin x1 x2)), (4, .int (iMax x1 x2)), (5, .int (iI (0)))]) rfl ?_
  exact tAh_pairOf_L16 hX hQ hN 100000 _ h
set_option maxHeartbeats 4000000 in
set_option maxRecDepth 100000 in
theorem tAh_measureSeep_J94 {G : wG} {X : wX} {k10 : Int32 → wM → Option (wM)} {x1 : Int32} {x2 : Int32} {v0 : Int32} {s : wM} {s1 : wM} (hX : wOK G X cX0_measureSeep RX0 none 1) (hQ : wRt G X (wQv G s1)) (hN : wNl X = 3) (hk10 : ∀ (x1 : Int32) (s : wM), k10 x1 s = some s1 → WB G X 10 [(0, .ref (G.1 13)), (1, .int x1)] [] s) (h : fAh_measureSeep_J94 k10 x1 x2 v0 s = some s1) : WB G X 94 [(0, .ref (G.1 13)), (1, .int x1), (2, .int x2)] [.int v0, .ref (G.1 22)] s := by
  unfold fAh_measureSeep_J94 at h
  refine wb_dup2 hX dX0_measureSeep_94 rfl rfl (pq := 95) rfl ?_
  obtain ⟨hi_1, h⟩ := chk_some h
  refine wb_iald hX sh_22 hi_1 dX0_measureSeep_95 (pq := 96) rfl ?_
  refine wb_iload_n 2 hX dX0_measureSeep_96 rfl (pq := 97) rfl ?_
  refine wb_mabs hX k_586 k_587 k_14 k_588 (Nat.le_of_ble_eq_true rfl) dX0_measureSeep_97 (pq := 100) rfl ?_
  refine wb_iadd hX dX0_measureSeep_100 (pq := 101) rfl ?_
  refine wb_iast hX sh_22 hi_1 dX0_measureSeep_101 (pq := 102) rfl ?_
  refine wb_mem (fun s_2 es_2 => ?_)
  have h := nmM_s h s_2 es_2
  refine wb_iinc (v := (x1 + iI (1))) (loc' := [(1, .int (x1 + iI (1))), (0, .ref (G.1 13)), (2, .int x2)]) 1 hX hN dX0_measureSeep_102 rfl rfl (by decide) rfl (pq := 105) rfl ?_
  refine wb_goto (tgt := 10) hX dX0_measureSeep_105 (by decide) ?_
  refine wb_sub [1, 0] (loc' := [(0, .ref (G.1 13)), (1, .int (x1 + iI (1)))]) rfl ?_
  exact hk10 _ _ h
set_option maxHeartbeats 4000000 in
set_option maxRecDepth 100000 in
theorem tAh_measureSeep_J63 {G : wG} {X : wX} {k10 : Int32 → wM → Option (wM)} {x1 : Int32} {v0 : Int32} {s : wM} {s1 : wM} (hX : wOK G X cX0_measureSeep RX0 none 1) (hQ : wRt G X (wQv G s1)) (hN : wNl X = 3) (hk10 : ∀ (x1 : Int32) (s : wM), k10 x1 s = some s1 → WB G X 10 [(0, .ref (G.1 13)), (1, .int x1)] [] s) (h : fAh_measureSeep_J63 k10 x1 v0 s = some s1) : WB G X 63 [(0, .ref (G.1 13)), (1, .int x1)] [.int v0] s := by
  unfold fAh_measureSeep_J63 at h
  refine wb_istore_n (loc' := [(2, .int v0), (0, .ref (G.1 13)), (1, .int x1)]) hX hN dX0_measureSeep_63 (by decide) rfl (pq := 64) rfl ?_
  refine wb_aload_n 1 hX dX0_measureSeep_64 rfl (pq := 65) rfl ?_
  refine wb_getR hX fl_155 sh_13 rfl dX0_measureSeep_65 (pq := 68) rfl ?_
  refine wb_iload_n 2 hX dX0_measureSeep_68 rfl (pq := 69) rfl ?_
  refine wb_iload_n 0 hX dX0_measureSeep_69 rfl (pq := 70) rfl ?_
  obtain ⟨hi_1, h⟩ := chk_some h
  refine wb_iast hX sh_21 hi_1 dX0_measureSeep_70 (pq := 71) rfl ?_
  refine wb_mem (fun s_2 es_2 => ?_)
  have h := nmM_s h s_2 es_2
  refine wb_aload_n 1 hX dX0_measureSeep_71 rfl (pq := 72) rfl ?_
  refine wb_getR hX fl_156 sh_13 rfl dX0_measureSeep_72 (pq := 75) rfl ?_
  refine wb_iload_n 0 hX dX0_measureSeep_75 rfl (pq := 76) rfl ?_
  refine wb_if_le (tgt := 88) hX dX0_measureSeep_76 (by decide) (fun c_3 => ?_) (pq := 79) rfl (fun c_3 => ?_)
  · have h := ite_t c_3 h
    refine wb_aload_n 1 hX dX0_measureSeep_88 rfl (pq := 89) rfl ?_
    refine wb_getR hX fl_144 sh_13 rfl dX0_measureSeep_89 (pq := 92) rfl ?_
    refine wb_iload_n 2 hX dX0_measureSeep_92 rfl (pq := 93) rfl ?_
    refine wb_iald hX sh_18 hi_1 dX0_measureSeep_93 (pq := 94) rfl ?_
    refine wb_sub [1, 2, 0] (loc' := [(0, .ref (G.1 13)), (1, .int x1), (2, .int v0)]) rfl ?_
    exact tAh_measureSeep_J94 hX hQ hN hk10 h
  · have h := ite_f c_3 h
    refine wb_aload_n 1 hX dX0_measureSeep_79 rfl (pq := 80) rfl ?_
    refine wb_getR hX fl_142 sh_13 rfl dX0_measureSeep_80 (pq := 83) rfl ?_
    refine wb_iload_n 2 hX dX0_measureSeep_83 rfl (pq := 84) rfl ?_
    refine wb_iald hX sh_17 hi_1 dX0_measureSeep_84 (pq := 85) rfl ?_
    refine wb_goto (tgt := 94) hX dX0_measureSeep_85 (by decide) ?_
    refine wb_sub [1, 2, 0] (loc' := [(0, .ref (G.1 13)), (1, .int x1), (2, .int v0)]) rfl ?_
    exact tAh_measureSeep_J94 hX hQ hN hk10 h
set_option maxHeartbeats 4000000 in
set_option maxRecDepth 100000 in
theorem tAh_measureSeep_L10 {G : wG} {X : wX} {s1 : wM} (hX : wOK G X cX0_measureSeep RX0 none 1) (hQ : wRt G X (wQv G s1)) (hN : wNl X = 3) : ∀ (n : Nat) (x1 : Int32) (s : wM), wh2 (fAh_measureSeep_L10) n x1 s = some s1 → WB G X 10 [(0, .ref (G.1 13)), (1, .int x1)] [] s := by
  intro n
  induction n with
  | zero => intro x1 s h; cases h
  | succ n hk10 =>
    intro x1 s h
    have h : fAh_measureSeep_L10 x1 s (wh2 (fAh_measureSeep_L10) n) = some s1 := h
    unfold fAh_measureSeep_L10 at h
    refine wb_iload_n 1 hX dX0_measureSeep_10 rfl (pq := 11) rfl ?_
    refine wb_aload_n 0 hX dX0_measureSeep_11 rfl (pq := 12) rfl ?_
    refine wb_getI hX fl_148 sh_13 rfl dX0_measureSeep_12 (pq := 15) rfl ?_
    refine wb_icmp_ge (tgt := 108) hX dX0_measureSeep_15 (by decide) (fun c_1 => ?_) (pq := 18) rfl (fun c_1 => ?_)
    · have h := ite_t c_1 h
      exact wb_vret hX hQ h dX0_measureSeep_108
    · have h := ite_f c_1 h
      refine wb_aload_n 0 hX dX0_measureSeep_18 rfl (pq := 19) rfl ?_
      refine wb_getR hX fl_146 sh_13 rfl dX0_measureSeep_19 (pq := 22) rfl ?_
      refine wb_iload_n 1 hX dX0_measureSeep_22 rfl (pq := 23) rfl ?_
      obtain ⟨hi_2, h⟩ := chk_some h
      refine wb_iald hX sh_19 hi_2 dX0_measureSeep_23 (pq := 24) rfl ?_
      refine wb_if_le (tgt := 62) hX dX0_measureSeep_24 (by decide) (fun c_3 => ?_) (pq := 27) rfl (fun c_3 => ?_)
      · have h := ite_t c_3 h
        refine wb_iconst (v := iI (0)) hX dX0_measureSeep_62 rfl (pq := 63) rfl ?_
        exact tAh_measureSeep_J63 hX hQ hN hk10 h
      · have h := ite_f c_3 h
        refine wb_aload_n 0 hX dX0_measureSeep_27 rfl (pq := 28) rfl ?_
        refine wb_getR hX fl_135 sh_13 rfl dX0_measureSeep_28 (pq := 31) rfl ?_
        refine wb_aload_n 0 hX dX0_measureSeep_31 rfl (pq := 32) rfl ?_
        refine wb_getR hX fl_142 sh_13 rfl dX0_measureSeep_32 (pq := 35) rfl ?_
        refine wb_iload_n 1 hX dX0_measureSeep_35 rfl (pq := 36) rfl ?_
        refine wb_iald hX sh_17 hi_2 dX0_measureSeep_36 (pq := 37) rfl ?_
        obtain ⟨hi_4, h⟩ := chk_some h
        refine wb_iald hX sh_14 hi_4 dX0_measureSeep_37 (pq := 38) rfl ?_
        refine wb_aload_n 0 hX dX0_measureSeep_38 rfl (pq := 39) rfl ?_
        refine wb_getR hX fl_135 sh_13 rfl dX0_measureSeep_39 (pq := 42) rfl ?_
        refine wb_aload_n 0 hX dX0_measureSeep_42 rfl (pq := 43) rfl ?_
        refine wb_getR hX fl_144 sh_13 rfl dX0_measureSeep_43 (pq := 46) rfl ?_
        refine wb_iload_n 1 hX dX0_measureSeep_46 rfl (pq := 47) rfl ?_
        refine wb_iald hX sh_18 hi_2 dX0_measureSeep_47 (pq := 48) rfl ?_
        obtain ⟨hi_5, h⟩ := chk_some h
        refine wb_iald hX sh_14 hi_5 dX0_measureSeep_48 (pq := 49) rfl ?_
        refine wb_isub hX dX0_measureSeep_49 (pq := 50) rfl ?_
        refine wb_iconst (v := iI (2)) hX dX0_measureSeep_50 rfl (pq := 51) rfl ?_
        refine wb_aload_n 0 hX dX0_measureSeep_51 rfl (pq := 52) rfl ?_
        refine wb_getR hX fl_146 sh_13 rfl dX0_measureSeep_52 (pq := 55) rfl ?_
        refine wb_iload_n 1 hX dX0_measureSeep_55 rfl (pq := 56) rfl ?_
        refine wb_iald hX sh_19 hi_2 dX0_measureSeep_56 (pq := 57) rfl ?_
        refine wb_imul hX dX0_measureSeep_57 (pq := 58) rfl ?_
        obtain ⟨hz_6, h⟩ := chkD_some h
        refine wb_idiv hX dX0_measureSeep_58 hz_6 (pq := 59) rfl ?_
        refine wb_goto (tgt := 63) hX dX0_measureSeep_59 (by decide) ?_
        exact tAh_measureSeep_J63 hX hQ hN hk10 h
set_option maxHeartbeats 4000000 in
set_option maxRecDepth 100000 in
theorem tAh_measureSeep {l : Launch} {G : wG} {s : wM} {s1 : wM} (h : fAh_measureSeep s = some s1) : wMet l G yX0_measureSeep cX0_measureSeep 3 none 1 [.ref (G.1 13)] s (wQv G s1) := by
  refine wMet_of (own := RX0) (by decide +kernel) rfl (Nat.le_of_ble_eq_true rfl) ?_
  intro X hX hQ hN hl
  show WB G X 0 [(0, .ref (G.1 13))] [] s
  unfold fAh_measureSeep at h
  refine wb_aload_n 0 hX dX0_measureSeep_0 rfl (pq := 1) rfl ?_
  refine wb_getR hX fl_156 sh_13 rfl dX0_measureSeep_1 (pq := 4) rfl ?_
  refine wb_iconst (v := iI (0)) hX dX0_measureSeep_4 rfl (pq := 5) rfl ?_
  refine wb_callSv [.ref (G.1 22), .int (iI (0))] hX ml_585 (tFillI sh_22) (by decide) rfl rfl (Nat.le_of_ble_eq_true rfl) dX0_measureSeep_5 (pq := 8) rfl ?_
  refine wb_mem (fun s_1 es_1 => ?_)
  have h := nmM_s h s_1 es_1
  refine wb_iconst (v := iI (0)) hX dX0_measureSeep_8 rfl (pq := 9) rfl ?_
  refine wb_istore_n (loc' := [(1, .int (iI (0))), (0, .ref (G.1 13))]) hX hN dX0_measureSeep_9 (by decide) rfl (pq := 10) rfl ?_
  refine wb_sub [1, 0] (loc' := [(0, .ref (G.1 13)), (1, .int (iI (0)))]) rfl ?_
  exact tAh_measureSeep_L10 hX hQ hN 100000 _ _ h
set_option maxHeartbeats 4000000 in
set_option maxRecDepth 100000 in
theorem tAh_letSeep_J40 {G : wG} {X : wX} {k2 : Int32 → wM → Option (wM)} {x1 : Int32} {v0 : Int32} {v1 : Int32} {s : wM} {s1 : wM} (hX : wOK G X cX0_letSeep RX0 none 0) (hQ : wRt G X (wQv G s1)) (hN : wNl X = 2) (hk2 : ∀ (x1 : Int32) (s : wM), k2 x1 s = some s1 → WB G X 2 [(0, .ref (G.1 13)), (1, .int x1)] [] s) (h : fAh_letSeep_J40 k2 x1 v0 v1 s = some s1) : WB G X 40 [(0, .ref (G.1 13)), (1, .int x1)] [.int v0, .int v1, .ref (G.1 22)] s := by
  unfold fAh_letSeep_J40 at h
  obtain ⟨hi_1, h⟩ := chk_some h
  refine wb_iast hX sh_22 hi_1 dX0_letSeep_40 (pq := 41) rfl ?_
  refine wb_mem (fun s_2 es_2 => ?_)
  have h := nmM_s h s_2 es_2
  refine wb_iinc (v := (x1 + iI (1))) (loc' := [(1, .int (x1 + iI (1))), (0, .ref (G.1 13))]) 1 hX hN dX0_letSeep_41 rfl rfl (by decide) rfl (pq := 44) rfl ?_
  refine wb_goto (tgt := 2) hX dX0_letSeep_44 (by decide) ?_
  refine wb_sub [1, 0] (loc' := [(0, .ref (G.1 13)), (1, .int (x1 + iI (1)))]) rfl ?_
  exact hk2 _ _ h
set_option maxHeartbeats 4000000 in
set_option maxRecDepth 100000 in
theorem tAh_letSeep_J130 {G : wG} {X : wX} {k49 : Int32 → wM → Option (wM)} {x1 : Int32} {s : wM} {s1 : wM} (hX : wOK G X cX0_letSeep RX0 none 0) (hQ : wRt G X (wQv G s1)) (hN : wNl X = 2) (hk49 : ∀ (x1 : Int32) (s : wM), k49 x1 s = some s1 → WB G X 49 [(0, .ref (G.1 13)), (1, .int x1)] [] s) (h : fAh_letSeep_J130 k49 x1 s = some s1) : WB G X 130 [(0, .ref (G.1 13)), (1, .int x1)] [] s := by
  unfold fAh_letSeep_J130 at h
  refine wb_iinc (v := (x1 + iI (1))) (loc' := [(1, .int (x1 + iI (1))), (0, .ref (G.1 13))]) 1 hX hN dX0_letSeep_130 rfl rfl (by decide) rfl (pq := 133) rfl ?_
  refine wb_goto (tgt := 49) hX dX0_letSeep_133 (by decide) ?_
  refine wb_sub [1, 0] (loc' := [(0, .ref (G.1 13)), (1, .int (x1 + iI (1)))]) rfl ?_
  exact hk49 _ _ h
set_option maxHeartbeats 4000000 in
set_option maxRecDepth 100000 in
theorem tAh_letSeep_J85 {G : wG} {X : wX} {k49 : Int32 → wM → Option (wM)} {x1 : Int32} {v0 : Int32} {s : wM} {s1 : wM} (hX : wOK G X cX0_letSeep RX0 none 0) (hQ : wRt G X (wQv G s1)) (hN : wNl X = 2) (hk49 : ∀ (x1 : Int32) (s : wM), k49 x1 s = some s1 → WB G X 49 [(0, .ref (G.1 13)), (1, .int x1)] [] s) (h : fAh_letSeep_J85 k49 x1 v0 s = some s1) : WB G X 85 [(0, .ref (G.1 13)), (1, .int x1)] [.int v0, .ref (G.1 22)] s := by
  unfold fAh_letSeep_J85 at h
  obtain ⟨hi_1, h⟩ := chk_some h
  refine wb_iald hX sh_22 hi_1 dX0_letSeep_85 (pq := 86) rfl ?_
  refine wb_iconst (v := iI (-1)) hX dX0_letSeep_86 rfl (pq := 87) rfl ?_
  refine wb_icmp_eq (tgt := 130) hX dX0_letSeep_87 (by decide) (fun c_2 => ?_) (pq := 90) rfl (fun c_2 => ?_)
  · have h := ite_t c_2 h
    exact tAh_letSeep_J130 hX hQ hN hk49 h
  · have h := ite_f c_2 h
    refine wb_aload_n 0 hX dX0_letSeep_90 rfl (pq := 91) rfl ?_
    refine wb_getR hX fl_135 sh_13 rfl dX0_letSeep_91 (pq := 94) rfl ?_
    refine wb_aload_n 0 hX dX0_letSeep_94 rfl (pq := 95) rfl ?_
    refine wb_getR hX fl_142 sh_13 rfl dX0_letSeep_95 (pq := 98) rfl ?_
    refine wb_iload_n 1 hX dX0_letSeep_98 rfl (pq := 99) rfl ?_
    obtain ⟨hi_3, h⟩ := chk_some h
    refine wb_iald hX sh_17 hi_3 dX0_letSeep_99 (pq := 100) rfl ?_
    refine wb_dup2 hX dX0_letSeep_100 rfl rfl (pq := 101) rfl ?_
    obtain ⟨hi_4, h⟩ := chk_some h
    refine wb_iald hX sh_14 hi_4 dX0_letSeep_101 (pq := 102) rfl ?_
    refine wb_aload_n 0 hX dX0_letSeep_102 rfl (pq := 103) rfl ?_
    refine wb_getR hX fl_155 sh_13 rfl dX0_letSeep_103 (pq := 106) rfl ?_
    refine wb_iload_n 1 hX dX0_letSeep_106 rfl (pq := 107) rfl ?_
    refine wb_iald hX sh_21 hi_3 dX0_letSeep_107 (pq := 108) rfl ?_
    refine wb_isub hX dX0_letSeep_108 (pq := 109) rfl ?_
    refine wb_iast hX sh_14 hi_4 dX0_letSeep_109 (pq := 110) rfl ?_
    refine wb_mem (fun s_5 es_5 => ?_)
    have h := nmM_s h s_5 es_5
    refine wb_aload_n 0 hX dX0_letSeep_110 rfl (pq := 111) rfl ?_
    refine wb_getR hX fl_135 sh_13 rfl dX0_letSeep_111 (pq := 114) rfl ?_
    refine wb_aload_n 0 hX dX0_letSeep_114 rfl (pq := 115) rfl ?_
    refine wb_getR hX fl_144 sh_13 rfl dX0_letSeep_115 (pq := 118) rfl ?_
    refine wb_iload_n 1 hX dX0_letSeep_118 rfl (pq := 119) rfl ?_
    refine wb_iald hX sh_18 hi_3 dX0_letSeep_119 (pq := 120) rfl ?_
    refine wb_dup2 hX dX0_letSeep_120 rfl rfl (pq := 121) rfl ?_
    obtain ⟨hi_6, h⟩ := chk_some h
    refine wb_iald hX sh_14 hi_6 dX0_letSeep_121 (pq := 122) rfl ?_
    refine wb_aload_n 0 hX dX0_letSeep_122 rfl (pq := 123) rfl ?_
    refine wb_getR hX fl_155 sh_13 rfl dX0_letSeep_123 (pq := 126) rfl ?_
    refine wb_iload_n 1 hX dX0_letSeep_126 rfl (pq := 127) rfl ?_
    refine wb_iald hX sh_21 hi_3 dX0_letSeep_127 (pq := 128) rfl ?_
    refine wb_iadd hX dX0_letSeep_128 (pq := 129) rfl ?_
    refine wb_iast hX sh_14 hi_6 dX0_letSeep_129 (pq := 130) rfl ?_
    refine wb_mem (fun s_7 es_7 => ?_)
    have h := nmM_s h s_7 es_7
    exact tAh_letSeep_J130 hX hQ hN hk49 h
set_option maxHeartbeats 4000000 in
set_option maxRecDepth 100000 in
theorem tAh_letSeep_L49 {G : wG} {X : wX} {s1 : wM} (hX : wOK G X cX0_letSeep RX0 none 0) (hQ : wRt G X (wQv G s1)) (hN : wNl X = 2) : ∀ (n : Nat) (x1 : Int32) (s : wM), wh2 (fAh_letSeep_L49) n x1 s = some s1 → WB G X 49 [(0, .ref (G.1 13)), (1, .int x1)] [] s := by
  intro n
  induction n with
  | zero => intro x1 s h; cases h
  | succ n hk49 =>
    intro x1 s h
    have h : fAh_letSeep_L49 x1 s (wh2 (fAh_letSeep_L49) n) = some s1 := h
    unfold fAh_letSeep_L49 at h
    refine wb_iload_n 1 hX dX0_letSeep_49 rfl (pq := 50) rfl ?_
    refine wb_aload_n 0 hX dX0_letSeep_50 rfl (pq := 51) rfl ?_
    refine wb_getI hX fl_148 sh_13 rfl dX0_letSeep_51 (pq := 54) rfl ?_
    refine wb_icmp_ge (tgt := 136) hX dX0_letSeep_54 (by decide) (fun c_1 => ?_) (pq := 57) rfl (fun c_1 => ?_)
    · have h := ite_t c_1 h
      exact wb_vret hX hQ h dX0_letSeep_136
    · have h := ite_f c_1 h
      refine wb_aload_n 0 hX dX0_letSeep_57 rfl (pq := 58) rfl ?_
      refine wb_getR hX fl_156 sh_13 rfl dX0_letSeep_58 (pq := 61) rfl ?_
      refine wb_aload_n 0 hX dX0_letSeep_61 rfl (pq := 62) rfl ?_
      refine wb_getR hX fl_155 sh_13 rfl dX0_letSeep_62 (pq := 65) rfl ?_
      refine wb_iload_n 1 hX dX0_letSeep_65 rfl (pq := 66) rfl ?_
      obtain ⟨hi_2, h⟩ := chk_some h
      refine wb_iald hX sh_21 hi_2 dX0_letSeep_66 (pq := 67) rfl ?_
      refine wb_if_le (tgt := 79) hX dX0_letSeep_67 (by decide) (fun c_3 => ?_) (pq := 70) rfl (fun c_3 => ?_)
      · have h := ite_t c_3 h
        refine wb_aload_n 0 hX dX0_letSeep_79 rfl (pq := 80) rfl ?_
        refine wb_getR hX fl_144 sh_13 rfl dX0_letSeep_80 (pq := 83) rfl ?_
        refine wb_iload_n 1 hX dX0_letSeep_83 rfl (pq := 84) rfl ?_
        refine wb_iald hX sh_18 hi_2 dX0_letSeep_84 (pq := 85) rfl ?_
        exact tAh_letSeep_J85 hX hQ hN hk49 h
      · have h := ite_f c_3 h
        refine wb_aload_n 0 hX dX0_letSeep_70 rfl (pq := 71) rfl ?_
        refine wb_getR hX fl_142 sh_13 rfl dX0_letSeep_71 (pq := 74) rfl ?_
        refine wb_iload_n 1 hX dX0_letSeep_74 rfl (pq := 75) rfl ?_
        refine wb_iald hX sh_17 hi_2 dX0_letSeep_75 (pq := 76) rfl ?_
        refine wb_goto (tgt := 85) hX dX0_letSeep_76 (by decide) ?_
        exact tAh_letSeep_J85 hX hQ hN hk49 h
set_option maxHeartbeats 4000000 in
set_option maxRecDepth 100000 in
theorem tAh_letSeep_L2 {G : wG} {X : wX} {s1 : wM} (hX : wOK G X cX0_letSeep RX0 none 0) (hQ : wRt G X (wQv G s1)) (hN : wNl X = 2) : ∀ (n : Nat) (x1 : Int32) (s : wM), wh2 (fAh_letSeep_L2) n x1 s = some s1 → WB G X 2 [(0, .ref (G.1 13)), (1, .int x1)] [] s := by
  intro n
  induction n with
  | zero => intro x1 s h; cases h
  | succ n hk2 =>
    intro x1 s h
    have h : fAh_letSeep_L2 x1 s (wh2 (fAh_letSeep_L2) n) = some s1 := h
    unfold fAh_letSeep_L2 at h
    refine wb_iload_n 1 hX dX0_letSeep_2 rfl (pq := 3) rfl ?_
    refine wb_aload_n 0 hX dX0_letSeep_3 rfl (pq := 4) rfl ?_
    refine wb_getI hX fl_157 sh_13 rfl dX0_letSeep_4 (pq := 7) rfl ?_
    refine wb_icmp_ge (tgt := 47) hX dX0_letSeep_7 (by decide) (fun c_1 => ?_) (pq := 10) rfl (fun c_1 => ?_)
    · have h := ite_t c_1 h
      refine wb_iconst (v := iI (0)) hX dX0_letSeep_47 rfl (pq := 48) rfl ?_
      refine wb_istore_n (loc' := [(1, .int (iI (0))), (0, .ref (G.1 13))]) hX hN dX0_letSeep_48 (by decide) rfl (pq := 49) rfl ?_
      refine wb_sub [1, 0] (loc' := [(0, .ref (G.1 13)), (1, .int (iI (0)))]) rfl ?_
      exact tAh_letSeep_L49 hX hQ hN 100000 _ _ h
    · have h := ite_f c_1 h
      refine wb_aload_n 0 hX dX0_letSeep_10 rfl (pq := 11) rfl ?_
      refine wb_getR hX fl_156 sh_13 rfl dX0_letSeep_11 (pq := 14) rfl ?_
      refine wb_iload_n 1 hX dX0_letSeep_14 rfl (pq := 15) rfl ?_
      refine wb_aload_n 0 hX dX0_letSeep_15 rfl (pq := 16) rfl ?_
      refine wb_getR hX fl_156 sh_13 rfl dX0_letSeep_16 (pq := 19) rfl ?_
      refine wb_iload_n 1 hX dX0_letSeep_19 rfl (pq := 20) rfl ?_
      obtain ⟨hi_2, h⟩ := chk_some h
      refine wb_iald hX sh_22 hi_2 dX0_letSeep_20 (pq := 21) rfl ?_
      refine wb_aload_n 0 hX dX0_letSeep_21 rfl (pq := 22) rfl ?_
      refine wb_getR hX fl_135 sh_13 rfl dX0_letSeep_22 (pq := 25) rfl ?_
      refine wb_iload_n 1 hX dX0_letSeep_25 rfl (pq := 26) rfl ?_
      refine wb_iald hX sh_14 hi_2 dX0_letSeep_26 (pq := 27) rfl ?_
      refine wb_icmp_le (tgt := 34) hX dX0_letSeep_27 (by decide) (fun c_3 => ?_) (pq := 30) rfl (fun c_3 => ?_)
      · have h := ite_t c_3 h
        refine wb_aload_n 0 hX dX0_letSeep_34 rfl (pq := 35) rfl ?_
        refine wb_getR hX fl_156 sh_13 rfl dX0_letSeep_35 (pq := 38) rfl ?_
        refine wb_iload_n 1 hX dX0_letSeep_38 rfl (pq := 39) rfl ?_
        refine wb_iald hX sh_22 hi_2 dX0_letSeep_39 (pq := 40) rfl ?_
        exact tAh_letSeep_J40 hX hQ hN hk2 h
      · have h := ite_f c_3 h
        refine wb_iconst (v := iI (-1)) hX dX0_letSeep_30 rfl (pq := 31) rfl ?_
        refine wb_goto (tgt := 40) hX dX0_letSeep_31 (by decide) ?_
        exact tAh_letSeep_J40 hX hQ hN hk2 h
set_option maxHeartbeats 4000000 in
set_option maxRecDepth 100000 in
theorem tAh_letSeep {l : Launch} {G : wG} {s : wM} {s1 : wM} (h : fAh_letSeep s = some s1) : wMet l G yX0_letSeep cX0_letSeep 2 none 0 [.ref (G.1 13)] s (wQv G s1) := by
  refine wMet_of (own := RX0) (by decide +kernel) rfl (Nat.le_of_ble_eq_true rfl) ?_
  intro X hX hQ hN hl
  show WB G X 0 [(0, .ref (G.1 13))] [] s
  unfold fAh_letSeep at h
  refine wb_iconst (v := iI (0)) hX dX0_letSeep_0 rfl (pq := 1) rfl ?_
  refine wb_istore_n (loc' := [(1, .int (iI (0))), (0, .ref (G.1 13))]) hX hN dX0_letSeep_1 (by decide) rfl (pq := 2) rfl ?_
  refine wb_sub [1, 0] (loc' := [(0, .ref (G.1 13)), (1, .int (iI (0)))]) rfl ?_
  exact tAh_letSeep_L2 hX hQ hN 100000 _ _ h
set_option maxHeartbeats 4000000 in
set_option maxRecDepth 100000 in
theorem tW_putToDepth {l : Launch} {G : wG} {s : wM} {x0 : Int32} {r0 : Int32} (h : fW_putToDepth s x0 = some r0) : wMet l G yX10_putToDepth cX10_putToDepth 1 (some .int) 0 [.int x0] s (wQi G r0 s) := by
  refine wMet_of (own := RX10) (by decide +kernel) rfl (Nat.le_of_ble_eq_true rfl) ?_
  intro X hX hQ hN hl
  show WB G X 0 [(0, .int x0)] [] s
  unfold fW_putToDepth at h
  refine wb_iconst (v := iI (0)) hX dX10_putToDepth_0 rfl (pq := 1) rfl ?_
  refine wb_bipush (v := iI (99)) hX dX10_putToDepth_1 (by decide) (pq := 3) rfl ?_
  refine wb_iload_n 0 hX dX10_putToDepth_3 rfl (pq := 4) rfl ?_
  refine wb_mmin hX k_489 k_394 k_14 k_395 (Nat.le_of_ble_eq_true rfl) dX10_putToDepth_4 (pq := 7) rfl ?_
  refine wb_mmax hX k_490 k_491 k_14 k_492 (Nat.le_of_ble_eq_true rfl) dX10_putToDepth_7 (pq := 10) rfl ?_
  exact wb_iretP hX hQ h dX10_putToDepth_10
set_option maxHeartbeats 4000000 in
set_option maxRecDepth 100000 in
theorem tAh_pass_J150 {G : wG} {X : wX} {k55 : Int32 → wM → Option (wM)} {x1 : Int32} {x2 : Int32} {x3 : Int32} {v0 : Int32} {s : wM} {s1 : wM} (hX : wOK G X cX0_pass RX0 none 2) (hQ : wRt G X (wQv G s1)) (hN : wNl X = 5) (hk55 : ∀ (x3 : Int32) (s : wM), k55 x3 s = some s1 → WB G X 55 [(0, .ref (G.1 13)), (1, .int x1), (2, .int x2), (3, .int x3)] [] s) (h : fAh_pass_J150 k55 x1 x2 x3 v0 s = some s1) : WB G X 150 [(0, .ref (G.1 13)), (1, .int x1), (2, .int x2), (3, .int x3)] [.int v0, .ref (G.1 13)] s := by
  unfold fAh_pass_J150 at h
  obtain ⟨hz_1, h⟩ := chkZ_some h
  refine wb_putI hX fp_152 sh_13 rfl dX0_pass_150 hz_1.1 hz_1.2.1 (pq := 153) rfl ?_
  refine wb_mem (fun s_2 es_2 => ?_)
  have h := nmM_s h s_2 es_2
  refine wb_iinc (v := (x3 + iI (1))) (loc' := [(3, .int (x3 + iI (1))), (0, .ref (G.1 13)), (1, .int x1), (2, .int x2)]) 3 hX hN dX0_pass_153 rfl rfl (by decide) rfl (pq := 156) rfl ?_
  refine wb_goto (tgt := 55) hX dX0_pass_156 (by decide) ?_
  refine wb_sub [1, 2, 3, 0] (loc' := [(0, .ref (G.1 13)), (1, .int x1), (2, .int x2), (3, .int (x3 + iI (1)))]) rfl ?_
  exact hk55 _ _ h
set_option maxHeartbeats 4000000 in
set_option maxRecDepth 100000 in
theorem tAh_pass_J149 {G : wG} {X : wX} {k55 : Int32 → wM → Option (wM)} {x1 : Int32} {x2 : Int32} {x3 : Int32} {s : wM} {s1 : wM} (hX : wOK G X cX0_pass RX0 none 2) (hQ : wRt G X (wQv G s1)) (hN : wNl X = 5) (hk55 : ∀ (x3 : Int32) (s : wM), k55 x3 s = some s1 → WB G X 55 [(0, .ref (G.1 13)), (1, .int x1), (2, .int x2), (3, .int x3)] [] s) (h : fAh_pass_J149 k55 x1 x2 x3 s = some s1) : WB G X 149 [(0, .ref (G.1 13)), (1, .int x1), (2, .int x2), (3, .int x3)] [.ref (G.1 13)] s := by
  unfold fAh_pass_J149 at h
  refine wb_iconst (v := iI (0)) hX dX0_pass_149 rfl (pq := 150) rfl ?_
  exact tAh_pass_J150 hX hQ hN hk55 h
set_option maxHeartbeats 4000000 in
set_option maxRecDepth 100000 in
theorem tAh_pass_J90 {G : wG} {X : wX} {k55 : Int32 → wM → Option (wM)} {x1 : Int32} {x2 : Int32} {x3 : Int32} {v0 : Int32} {v1 : Int32} {s : wM} {s1 : wM} (hX : wOK G X cX0_pass RX0 none 2) (hQ : wRt G X (wQv G s1)) (hN : wNl X = 5) (hk55 : ∀ (x3 : Int32) (s : wM), k55 x3 s = some s1 → WB G X 55 [(0, .ref (G.1 13)), (1, .int x1), (2, .int x2), (3, .int x3)] [] s) (h : fAh_pass_J90 k55 x1 x2 x3 v0 v1 s = some s1) : WB G X 90 [(0, .ref (G.1 13)), (1, .int x1), (2, .int x2), (3, .int x3)] [.int v0, .int v1] s := by
  unfold fAh_pass_J90 at h
  refine wb_iadd hX dX0_pass_90 (pq := 91) rfl ?_
  refine wb_istore (loc' := [(4, .int (v1 + v0)), (0, .ref (G.1 13)), (1, .int x1), (2, .int x2), (3, .int x3)]) hX hN dX0_pass_91 (by decide) rfl (pq := 93) rfl ?_
  refine wb_aload_n 1 hX dX0_pass_93 rfl (pq := 94) rfl ?_
  refine wb_dup hX dX0_pass_94 rfl (pq := 95) rfl ?_
  refine wb_getI hX fl_150 sh_13 rfl dX0_pass_95 (pq := 98) rfl ?_
  refine wb_iconst (v := iI (0)) hX dX0_pass_98 rfl (pq := 99) rfl ?_
  refine wb_iload 0 hX dX0_pass_99 rfl (pq := 101) rfl ?_
  refine wb_bipush (v := iI (99)) hX dX0_pass_101 (by decide) (pq := 103) rfl ?_
  refine wb_isub hX dX0_pass_103 (pq := 104) rfl ?_
  refine wb_mmax hX k_593 k_491 k_14 k_492 (Nat.le_of_ble_eq_true rfl) dX0_pass_104 (pq := 107) rfl ?_
  refine wb_iadd hX dX0_pass_107 (pq := 108) rfl ?_
  refine wb_putI hX fp_150 sh_13 rfl dX0_pass_108 rfl rfl (pq := 111) rfl ?_
  refine wb_mem (fun s_1 es_1 => ?_)
  have h := nmM_s h s_1 es_1
  refine wb_aload_n 1 hX dX0_pass_111 rfl (pq := 112) rfl ?_
  refine wb_getR hX fl_135 sh_13 rfl dX0_pass_112 (pq := 115) rfl ?_
  refine wb_iload_n 4 hX dX0_pass_115 rfl (pq := 116) rfl ?_
  refine wb_iload 0 hX dX0_pass_116 rfl (pq := 118) rfl ?_
  obtain ⟨q_3, hc_2, h⟩ := bind_s h
  refine wb_callNi (r0 := q_3) (s1 := s_1) [.int (v1 + v0)] hX ml_594 (tW_putToDepth hc_2) (by decide) rfl rfl (Nat.le_of_ble_eq_true rfl) dX0_pass_118 (pq := 121) rfl ?_
  obtain ⟨hi_4, h⟩ := chk_some h
  refine wb_iast hX sh_14 hi_4 dX0_pass_121 (pq := 122) rfl ?_
  refine wb_mem (fun s_5 es_5 => ?_)
  have h := nmM_s h s_5 es_5
  refine wb_aload_n 1 hX dX0_pass_122 rfl (pq := 123) rfl ?_
  refine wb_aload_n 1 hX dX0_pass_123 rfl (pq := 124) rfl ?_
  refine wb_getI hX fl_152 sh_13 rfl dX0_pass_124 (pq := 127) rfl ?_
  refine wb_if_eq (tgt := 149) hX dX0_pass_127 (by decide) (fun c_6 => ?_) (pq := 130) rfl (fun c_6 => ?_)
  · have h := ite_t c_6 h
    refine wb_sub [1, 2, 3, 4] (loc' := [(0, .ref (G.1 13)), (1, .int x1), (2, .int x2), (3, .int x3)]) rfl ?_
    exact tAh_pass_J149 hX hQ hN hk55 h
  · have h := ite_f c_6 h
    refine wb_aload_n 1 hX dX0_pass_130 rfl (pq := 131) rfl ?_
    refine wb_getR hX fl_135 sh_13 rfl dX0_pass_131 (pq := 134) rfl ?_
    refine wb_iload_n 4 hX dX0_pass_134 rfl (pq := 135) rfl ?_
    refine wb_iald hX sh_14 hi_4 dX0_pass_135 (pq := 136) rfl ?_
    refine wb_aload_n 1 hX dX0_pass_136 rfl (pq := 137) rfl ?_
    refine wb_getR hX fl_154 sh_13 rfl dX0_pass_137 (pq := 140) rfl ?_
    refine wb_iload_n 4 hX dX0_pass_140 rfl (pq := 141) rfl ?_
    refine wb_iald hX sh_20 hi_4 dX0_pass_141 (pq := 142) rfl ?_
    refine wb_icmp_ne (tgt := 149) hX dX0_pass_142 (by decide) (pq := 145) rfl (fun c_7 => ?_) (fun c_7 => ?_)
    · have h := ite_t c_7 h
      refine wb_iconst (v := iI (1)) hX dX0_pass_145 rfl (pq := 146) rfl ?_
      refine wb_goto (tgt := 150) hX dX0_pass_146 (by decide) ?_
      refine wb_sub [1, 2, 3, 4] (loc' := [(0, .ref (G.1 13)), (1, .int x1), (2, .int x2), (3, .int x3)]) rfl ?_
      exact tAh_pass_J150 hX hQ hN hk55 h
    · have h := ite_f c_7 h
      refine wb_sub [1, 2, 3, 4] (loc' := [(0, .ref (G.1 13)), (1, .int x1), (2, .int x2), (3, .int x3)]) rfl ?_
      exact tAh_pass_J149 hX hQ hN hk55 h
set_option maxHeartbeats 4000000 in
set_option maxRecDepth 100000 in
theorem tAh_pass_L55 {G : wG} {X : wX} {x1 : Int32} {x2 : Int32} {s1 : wM} (hX : wOK G X cX0_pass RX0 none 2) (hQ : wRt G X (wQv G s1)) (hN : wNl X = 5) : ∀ (n : Nat) (x3 : Int32) (s : wM), wh2 (fAh_pass_L55 x1 x2) n x3 s = some s1 → WB G X 55 [(0, .ref (G.1 13)), (1, .int x1), (2, .int x2), (3, .int x3)] [] s := by
  intro n
  induction n with
  | zero => intro x3 s h; cases h
  | succ n hk55 =>
    intro x3 s h
    have h : fAh_pass_L55 x1 x2 x3 s (wh2 (fAh_pass_L55 x1 x2) n) = some s1 := h
    unfold fAh_pass_L55 at h
    refine wb_iload_n 3 hX dX0_pass_55 rfl (pq := 56) rfl ?_
    refine wb_aload_n 0 hX dX0_pass_56 rfl (pq := 57) rfl ?_
    refine wb_getI hX fl_157 sh_13 rfl dX0_pass_57 (pq := 60) rfl ?_
    refine wb_icmp_ge (tgt := 159) hX dX0_pass_60 (by decide) (fun c_1 => ?_) (pq := 63) rfl (fun c_1 => ?_)
    · have h := ite_t c_1 h
      exact wb_vret hX hQ h dX0_pass_159
    · have h := ite_f c_1 h
      refine wb_aload_n 0 hX dX0_pass_63 rfl (pq := 64) rfl ?_
      refine wb_getR hX fl_135 sh_13 rfl dX0_pass_64 (pq := 67) rfl ?_
      refine wb_iload_n 3 hX dX0_pass_67 rfl (pq := 68) rfl ?_
      obtain ⟨hi_2, h⟩ := chk_some h
      refine wb_iald hX sh_14 hi_2 dX0_pass_68 (pq := 69) rfl ?_
      refine wb_aload_n 0 hX dX0_pass_69 rfl (pq := 70) rfl ?_
      refine wb_getR hX fl_138 sh_13 rfl dX0_pass_70 (pq := 73) rfl ?_
      refine wb_iload_n 3 hX dX0_pass_73 rfl (pq := 74) rfl ?_
      refine wb_iald hX sh_15 hi_2 dX0_pass_74 (pq := 75) rfl ?_
      refine wb_iadd hX dX0_pass_75 (pq := 76) rfl ?_
      refine wb_iload_n 2 hX dX0_pass_76 rfl (pq := 77) rfl ?_
      refine wb_iload_n 3 hX dX0_pass_77 rfl (pq := 78) rfl ?_
      refine wb_ishr hX dX0_pass_78 (pq := 79) rfl ?_
      refine wb_iconst (v := iI (1)) hX dX0_pass_79 rfl (pq := 80) rfl ?_
      refine wb_iand hX dX0_pass_80 (pq := 81) rfl ?_
      refine wb_iconst (v := iI (1)) hX dX0_pass_81 rfl (pq := 82) rfl ?_
      refine wb_icmp_ne (tgt := 89) hX dX0_pass_82 (by decide) (pq := 85) rfl (fun c_3 => ?_) (fun c_3 => ?_)
      · have h := ite_t c_3 h
        refine wb_iload_n 1 hX dX0_pass_85 rfl (pq := 86) rfl ?_
        refine wb_goto (tgt := 90) hX dX0_pass_86 (by decide) ?_
        exact tAh_pass_J90 hX hQ hN hk55 h
      · have h := ite_f c_3 h
        refine wb_iconst (v := iI (0)) hX dX0_pass_89 rfl (pq := 90) rfl ?_
        exact tAh_pass_J90 hX hQ hN hk55 h
set_option maxHeartbeats 4000000 in
set_option maxRecDepth 100000 in
theorem tAh_pass_J50 {G : wG} {X : wX} {x1 : Int32} {x2 : Int32} {v0 : Int32} {s : wM} {s1 : wM} (hX : wOK G X cX0_pass RX0 none 2) (hQ : wRt G X (wQv G s1)) (hN : wNl X = 5) (h : fAh_pass_J50 x1 x2 v0 s = some s1) : WB G X 50 [(0, .ref (G.1 13)), (1, .int x1), (2, .int x2)] [.int v0, .ref (G.1 13)] s := by
  unfold fAh_pass_J50 at h
  obtain ⟨hz_1, h⟩ := chkZ_some h
  refine wb_putI hX fp_152 sh_13 rfl dX0_pass_50 hz_1.1 hz_1.2.1 (pq := 53) rfl ?_
  refine wb_mem (fun s_2 es_2 => ?_)
  have h := nmM_s h s_2 es_2
  refine wb_iconst (v := iI (0)) hX dX0_pass_53 rfl (pq := 54) rfl ?_
  refine wb_istore_n (loc' := [(3, .int (iI (0))), (0, .ref (G.1 13)), (1, .int x1), (2, .int x2)]) hX hN dX0_pass_54 (by decide) rfl (pq := 55) rfl ?_
  refine wb_sub [1, 2, 3, 0] (loc' := [(0, .ref (G.1 13)), (1, .int x1), (2, .int x2), (3, .int (iI (0)))]) rfl ?_
  exact tAh_pass_L55 hX hQ hN 100000 _ _ h
set_option maxHeartbeats 4000000 in
set_option maxRecDepth 100000 in
theorem tAh_pass_J12 {G : wG} {X : wX} {x1 : Int32} {x2 : Int32} {s : wM} {s1 : wM} (hX : wOK G X cX0_pass RX0 none 2) (hQ : wRt G X (wQv G s1)) (hN : wNl X = 5) (h : fAh_pass_J12 x1 x2 s = some s1) : WB G X 12 [(0, .ref (G.1 13)), (1, .int x1), (2, .int x2)] [] s := by
  unfold fAh_pass_J12 at h
  refine wb_aload_n 0 hX dX0_pass_12 rfl (pq := 13) rfl ?_
  refine wb_getR hX fl_135 sh_13 rfl dX0_pass_13 (pq := 16) rfl ?_
  refine wb_iconst (v := iI (0)) hX dX0_pass_16 rfl (pq := 17) rfl ?_
  refine wb_aload_n 0 hX dX0_pass_17 rfl (pq := 18) rfl ?_
  refine wb_getR hX fl_154 sh_13 rfl dX0_pass_18 (pq := 21) rfl ?_
  refine wb_iconst (v := iI (0)) hX dX0_pass_21 rfl (pq := 22) rfl ?_
  refine wb_bipush (v := iI (9)) hX dX0_pass_22 (by decide) (pq := 24) rfl ?_
  obtain ⟨hc_1, h⟩ := chkC_some h
  refine wb_copy hX k_571 k_517 k_516 k_19 sh_14 sh_20 hc_1 (Nat.le_of_ble_eq_true rfl) dX0_pass_24 (pq := 27) rfl ?_
  refine wb_mem (fun s_2 es_2 => ?_)
  have h := nmM_s h s_2 es_2
  refine wb_aload_n 0 hX dX0_pass_27 rfl (pq := 28) rfl ?_
  obtain ⟨q_4, hc_3, h⟩ := bind_s h
  refine wb_callVv (s1 := q_4) [] hX sh_13 ml_581 (tAh_measureSeep hc_3) (by decide) rfl rfl (Nat.le_of_ble_eq_true rfl) dX0_pass_28 (pq := 31) rfl ?_
  refine wb_aload_n 0 hX dX0_pass_31 rfl (pq := 32) rfl ?_
  obtain ⟨q_6, hc_5, h⟩ := bind_s h
  refine wb_callVv (s1 := q_6) [] hX sh_13 ml_589 (tAh_letSeep hc_5) (by decide) rfl rfl (Nat.le_of_ble_eq_true rfl) dX0_pass_32 (pq := 35) rfl ?_
  refine wb_aload_n 0 hX dX0_pass_35 rfl (pq := 36) rfl ?_
  refine wb_iconst (v := iI (0)) hX dX0_pass_36 rfl (pq := 37) rfl ?_
  refine wb_putI hX fp_150 sh_13 rfl dX0_pass_37 rfl rfl (pq := 40) rfl ?_
  refine wb_mem (fun s_7 es_7 => ?_)
  have h := nmM_s h s_7 es_7
  refine wb_aload_n 0 hX dX0_pass_40 rfl (pq := 41) rfl ?_
  refine wb_iload_n 1 hX dX0_pass_41 rfl (pq := 42) rfl ?_
  refine wb_if_ne (tgt := 49) hX dX0_pass_42 (by decide) (pq := 45) rfl (fun c_8 => ?_) (fun c_8 => ?_)
  · have h := ite_t c_8 h
    refine wb_iconst (v := iI (1)) hX dX0_pass_45 rfl (pq := 46) rfl ?_
    refine wb_goto (tgt := 50) hX dX0_pass_46 (by decide) ?_
    exact tAh_pass_J50 hX hQ hN h
  · have h := ite_f c_8 h
    refine wb_iconst (v := iI (0)) hX dX0_pass_49 rfl (pq := 50) rfl ?_
    exact tAh_pass_J50 hX hQ hN h
set_option maxHeartbeats 4000000 in
set_option maxRecDepth 100000 in
theorem tAh_pass {l : Launch} {G : wG} {s : wM} {x1 : Int32} {x2 : Int32} {s1 : wM} (h : fAh_pass s x1 x2 = some s1) : wMet l G yX0_pass cX0_pass 5 none 2 [.ref (G.1 13), .int x1, .int x2] s (wQv G s1) := by
  refine wMet_of (own := RX0) (by decide +kernel) rfl (Nat.le_of_ble_eq_true rfl) ?_
  intro X hX hQ hN hl
  show WB G X 0 [(0, .ref (G.1 13)), (1, .int x1), (2, .int x2)] [] s
  unfold fAh_pass at h
  refine wb_aload_n 0 hX dX0_pass_0 rfl (pq := 1) rfl ?_
  refine wb_getI hX fl_152 sh_13 rfl dX0_pass_1 (pq := 4) rfl ?_
  refine wb_if_eq (tgt := 12) hX dX0_pass_4 (by decide) (fun c_1 => ?_) (pq := 7) rfl (fun c_1 => ?_)
  · have h := ite_t c_1 h
    exact tAh_pass_J12 hX hQ hN h
  · have h := ite_f c_1 h
    refine wb_iload_n 1 hX dX0_pass_7 rfl (pq := 8) rfl ?_
    refine wb_if_ne (tgt := 12) hX dX0_pass_8 (by decide) (pq := 11) rfl (fun c_2 => ?_) (fun c_2 => ?_)
    · have h := ite_t c_2 h
      exact wb_vret hX hQ h dX0_pass_11
    · have h := ite_f c_2 h
      exact tAh_pass_J12 hX hQ hN h
set_option maxHeartbeats 4000000 in
set_option maxRecDepth 100000 in
theorem tAh_isEven_J38 {G : wG} {X : wX} {v0 : Int32} {s : wM} {r0 : Int32} (hX : wOK G X cX0_isEven RX0 (some .boolean) 0) (hQ : wRt G X (wQi G r0 s)) (hN : wNl X = 2) (h : fAh_isEven_J38 v0 s = some r0) : WB G X 38 [] [.int v0] s := by
  unfold fAh_isEven_J38 at h
  obtain ⟨hz_1, h⟩ := chkZ_some h
  exact wb_zretP hX hQ h hz_1.1 dX0_isEven_38
set_option maxHeartbeats 4000000 in
set_option maxRecDepth 100000 in
theorem tAh_isEven {l : Launch} {G : wG} {s : wM} {x1 : Int32} {r0 : Int32} (h : fAh_isEven s x1 = some r0) : wMet l G yX0_isEven cX0_isEven 2 (some .boolean) 0 [.ref (G.1 13), .int x1] s (wQi G r0 s) := by
  refine wMet_of (own := RX0) (by decide +kernel) rfl (Nat.le_of_ble_eq_true rfl) ?_
  intro X hX hQ hN hl
  show WB G X 0 [(0, .ref (G.1 13)), (1, .int x1)] [] s
  unfold fAh_isEven at h
  refine wb_aload_n 0 hX dX0_isEven_0 rfl (pq := 1) rfl ?_
  refine wb_getR hX fl_135 sh_13 rfl dX0_isEven_1 (pq := 4) rfl ?_
  refine wb_aload_n 0 hX dX0_isEven_4 rfl (pq := 5) rfl ?_
  refine wb_getR hX fl_142 sh_13 rfl dX0_isEven_5 (pq := 8) rfl ?_
  refine wb_iload_n 1 hX dX0_isEven_8 rfl (pq := 9) rfl ?_
  obtain ⟨hi_1, h⟩ := chk_some h
  refine wb_iald hX sh_17 hi_1 dX0_isEven_9 (pq := 10) rfl ?_
  obtain ⟨hi_2, h⟩ := chk_some h
  refine wb_iald hX sh_14 hi_2 dX0_isEven_10 (pq := 11) rfl ?_
  refine wb_aload_n 0 hX dX0_isEven_11 rfl (pq := 12) rfl ?_
  refine wb_getR hX fl_135 sh_13 rfl dX0_isEven_12 (pq := 15) rfl ?_
  refine wb_aload_n 0 hX dX0_isEven_15 rfl (pq := 16) rfl ?_
  refine wb_getR hX fl_144 sh_13 rfl dX0_isEven_16 (pq := 19) rfl ?_
  refine wb_iload_n 1 hX dX0_isEven_19 rfl (pq := 20) rfl ?_
  refine wb_iald hX sh_18 hi_1 dX0_isEven_20 (pq := 21) rfl ?_
  obtain ⟨hi_3, h⟩ := chk_some h
  refine wb_iald hX sh_14 hi_3 dX0_isEven_21 (pq := 22) rfl ?_
  refine wb_isub hX dX0_isEven_22 (pq := 23) rfl ?_
  refine wb_mabs hX k_586 k_587 k_14 k_588 (Nat.le_of_ble_eq_true rfl) dX0_isEven_23 (pq := 26) rfl ?_
  refine wb_aload_n 0 hX dX0_isEven_26 rfl (pq := 27) rfl ?_
  refine wb_getI hX fl_158 sh_13 rfl dX0_isEven_27 (pq := 30) rfl ?_
  refine wb_icmp_ge (tgt := 37) hX dX0_isEven_30 (by decide) (fun c_4 => ?_) (pq := 33) rfl (fun c_4 => ?_)
  · have h := ite_t c_4 h
    refine wb_iconst (v := iI (0)) hX dX0_isEven_37 rfl (pq := 38) rfl ?_
    refine wb_sub [] (loc' := []) rfl ?_
    exact tAh_isEven_J38 hX hQ hN h
  · have h := ite_f c_4 h
    refine wb_iconst (v := iI (1)) hX dX0_isEven_33 rfl (pq := 34) rfl ?_
    refine wb_goto (tgt := 38) hX dX0_isEven_34 (by decide) ?_
    refine wb_sub [] (loc' := []) rfl ?_
    exact tAh_isEven_J38 hX hQ hN h
set_option maxHeartbeats 4000000 in
set_option maxRecDepth 100000 in
theorem tAh_firstEven_L2 {G : wG} {X : wX} {s : wM} {r0 : Int32} (hX : wOK G X cX0_firstEven RX0 (some .int) 1) (hQ : wRt G X (wQi G r0 s)) (hN : wNl X = 2) : ∀ (n : Nat) (x1 : Int32), wh1 (fAh_firstEven_L2 s) n x1 = some r0 → WB G X 2 [(0, .ref (G.1 13)), (1, .int x1)] [] s := by
  intro n
  induction n with
  | zero => intro x1 h; cases h
  | succ n hk2 =>
    intro x1 h
    have h : fAh_firstEven_L2 s x1 (wh1 (fAh_firstEven_L2 s) n) = some r0 := h
    unfold fAh_firstEven_L2 at h
    refine wb_iload_n 1 hX dX0_firstEven_2 rfl (pq := 3) rfl ?_
    refine wb_aload_n 0 hX dX0_firstEven_3 rfl (pq := 4) rfl ?_
    refine wb_getI hX fl_148 sh_13 rfl dX0_firstEven_4 (pq := 7) rfl ?_
    refine wb_icmp_ge (tgt := 26) hX dX0_firstEven_7 (by decide) (fun c_1 => ?_) (pq := 10) rfl (fun c_1 => ?_)
    · have h := ite_t c_1 h
      refine wb_iconst (v := iI (-1)) hX dX0_firstEven_26 rfl (pq := 27) rfl ?_
      exact wb_iretP hX hQ h dX0_firstEven_27
    · have h := ite_f c_1 h
      refine wb_aload_n 0 hX dX0_firstEven_10 rfl (pq := 11) rfl ?_
      refine wb_iload_n 1 hX dX0_firstEven_11 rfl (pq := 12) rfl ?_
      obtain ⟨q_3, hc_2, h⟩ := bind_s h
      refine wb_callVi (r0 := q_3) (s1 := s) [.int x1] hX sh_13 ml_600 (tAh_isEven hc_2) (by decide) rfl rfl (Nat.le_of_ble_eq_true rfl) dX0_firstEven_12 (pq := 15) rfl ?_
      refine wb_if_eq (tgt := 20) hX dX0_firstEven_15 (by decide) (fun c_4 => ?_) (pq := 18) rfl (fun c_4 => ?_)
      · have h := ite_t c_4 h
        refine wb_iinc (v := (x1 + iI (1))) (loc' := [(1, .int (x1 + iI (1))), (0, .ref (G.1 13))]) 1 hX hN dX0_firstEven_20 rfl rfl (by decide) rfl (pq := 23) rfl ?_
        refine wb_goto (tgt := 2) hX dX0_firstEven_23 (by decide) ?_
        refine wb_sub [1, 0] (loc' := [(0, .ref (G.1 13)), (1, .int (x1 + iI (1)))]) rfl ?_
        exact hk2 _ h
      · have h := ite_f c_4 h
        refine wb_iload_n 1 hX dX0_firstEven_18 rfl (pq := 19) rfl ?_
        exact wb_iretP hX hQ h dX0_firstEven_19
set_option maxHeartbeats 4000000 in
set_option maxRecDepth 100000 in
theorem tAh_firstEven {l : Launch} {G : wG} {s : wM} {r0 : Int32} (h : fAh_firstEven s = some r0) : wMet l G yX0_firstEven cX0_firstEven 2 (some .int) 1 [.ref (G.1 13)] s (wQi G r0 s) := by
  refine wMet_of (own := RX0) (by decide +kernel) rfl (Nat.le_of_ble_eq_true rfl) ?_
  intro X hX hQ hN hl
  show WB G X 0 [(0, .ref (G.1 13))] [] s
  unfold fAh_firstEven at h
  refine wb_iconst (v := iI (0)) hX dX0_firstEven_0 rfl (pq := 1) rfl ?_
  refine wb_istore_n (loc' := [(1, .int (iI (0))), (0, .ref (G.1 13))]) hX hN dX0_firstEven_1 (by decide) rfl (pq := 2) rfl ?_
  refine wb_sub [1, 0] (loc' := [(0, .ref (G.1 13)), (1, .int (iI (0)))]) rfl ?_
  exact tAh_firstEven_L2 hX hQ hN 100000 _ h
set_option maxHeartbeats 4000000 in
set_option maxRecDepth 100000 in
theorem tAh_evenPairs_J26 {G : wG} {X : wX} {k4 : Int32 → Int32 → Option (Int32)} {x2 : Int32} {v0 : Int32} {v1 : Int32} {s : wM} {r0 : Int32} (hX : wOK G X cX0_evenPairs RX0 (some .int) 1) (hQ : wRt G X (wQi G r0 s)) (hN : wNl X = 3) (hk4 : ∀ (x1 : Int32) (x2 : Int32), k4 x1 x2 = some r0 → WB G X 4 [(0, .ref (G.1 13)), (1, .int x1), (2, .int x2)] [] s) (h : fAh_evenPairs_J26 k4 x2 v0 v1 s = some r0) : WB G X 26 [(0, .ref (G.1 13)), (2, .int x2)] [.int v0, .int v1] s := by
  unfold fAh_evenPairs_J26 at h
  refine wb_iadd hX dX0_evenPairs_26 (pq := 27) rfl ?_
  refine wb_istore_n (loc' := [(1, .int (v1 + v0)), (0, .ref (G.1 13)), (2, .int x2)]) hX hN dX0_evenPairs_27 (by decide) rfl (pq := 28) rfl ?_
  refine wb_iinc (v := (x2 + iI (1))) (loc' := [(2, .int (x2 + iI (1))), (1, .int (v1 + v0)), (0, .ref (G.1 13))]) 2 hX hN dX0_evenPairs_28 rfl rfl (by decide) rfl (pq := 31) rfl ?_
  refine wb_goto (tgt := 4) hX dX0_evenPairs_31 (by decide) ?_
  refine wb_sub [2, 1, 0] (loc' := [(0, .ref (G.1 13)), (1, .int (v1 + v0)), (2, .int (x2 + iI (1)))]) rfl ?_
  exact hk4 _ _ h
set_option maxHeartbeats 4000000 in
set_option maxRecDepth 100000 in
theorem tAh_evenPairs_L4 {G : wG} {X : wX} {s : wM} {r0 : Int32} (hX : wOK G X cX0_evenPairs RX0 (some .int) 1) (hQ : wRt G X (wQi G r0 s)) (hN : wNl X = 3) : ∀ (n : Nat) (x1 : Int32) (x2 : Int32), wh2 (fAh_evenPairs_L4 s) n x1 x2 = some r0 → WB G X 4 [(0, .ref (G.1 13)), (1, .int x1), (2, .int x2)] [] s := by
  intro n
  induction n with
  | zero => intro x1 x2 h; cases h
  | succ n hk4 =>
    intro x1 x2 h
    have h : fAh_evenPairs_L4 s x1 x2 (wh2 (fAh_evenPairs_L4 s) n) = some r0 := h
    unfold fAh_evenPairs_L4 at h
    refine wb_iload_n 2 hX dX0_evenPairs_4 rfl (pq := 5) rfl ?_
    refine wb_aload_n 0 hX dX0_evenPairs_5 rfl (pq := 6) rfl ?_
    refine wb_getI hX fl_148 sh_13 rfl dX0_evenPairs_6 (pq := 9) rfl ?_
    refine wb_icmp_ge (tgt := 34) hX dX0_evenPairs_9 (by decide) (fun c_1 => ?_) (pq := 12) rfl (fun c_1 => ?_)
    · have h := ite_t c_1 h
      refine wb_iload_n 1 hX dX0_evenPairs_34 rfl (pq := 35) rfl ?_
      exact wb_iretP hX hQ h dX0_evenPairs_35
    · have h := ite_f c_1 h
      refine wb_iload_n 1 hX dX0_evenPairs_12 rfl (pq := 13) rfl ?_
      refine wb_aload_n 0 hX dX0_evenPairs_13 rfl (pq := 14) rfl ?_
      refine wb_iload_n 2 hX dX0_evenPairs_14 rfl (pq := 15) rfl ?_
      obtain ⟨q_3, hc_2, h⟩ := bind_s h
      refine wb_callVi (r0 := q_3) (s1 := s) [.int x2] hX sh_13 ml_600 (tAh_isEven hc_2) (by decide) rfl rfl (Nat.le_of_ble_eq_true rfl) dX0_evenPairs_15 (pq := 18) rfl ?_
      refine wb_if_eq (tgt := 25) hX dX0_evenPairs_18 (by decide) (fun c_4 => ?_) (pq := 21) rfl (fun c_4 => ?_)
      · have h := ite_t c_4 h
        refine wb_iconst (v := iI (0)) hX dX0_evenPairs_25 rfl (pq := 26) rfl ?_
        refine wb_sub [0, 2] (loc' := [(0, .ref (G.1 13)), (2, .int x2)]) rfl ?_
        exact tAh_evenPairs_J26 hX hQ hN hk4 h
      · have h := ite_f c_4 h
        refine wb_iconst (v := iI (1)) hX dX0_evenPairs_21 rfl (pq := 22) rfl ?_
        refine wb_goto (tgt := 26) hX dX0_evenPairs_22 (by decide) ?_
        refine wb_sub [0, 2] (loc' := [(0, .ref (G.1 13)), (2, .int x2)]) rfl ?_
        exact tAh_evenPairs_J26 hX hQ hN hk4 h
set_option maxHeartbeats 4000000 in
set_option maxRecDepth 100000 in
theorem tAh_evenPairs {l : Launch} {G : wG} {s : wM} {r0 : Int32} (h : fAh_evenPairs s = some r0) : wMet l G yX0_evenPairs cX0_evenPairs 3 (some .int) 1 [.ref (G.1 13)] s (wQi G r0 s) := by
  refine wMet_of (own := RX0) (by decide +kernel) rfl (Nat.le_of_ble_eq_true rfl) ?_
  intro X hX hQ hN hl
  show WB G X 0 [(0, .ref (G.1 13))] [] s
  unfold fAh_evenPairs at h
  refine wb_iconst (v := iI (0)) hX dX0_evenPairs_0 rfl (pq := 1) rfl ?_
  refine wb_istore_n (loc' := [(1, .int (iI (0))), (0, .ref (G.1 13))]) hX hN dX0_evenPairs_1 (by decide) rfl (pq := 2) rfl ?_
  refine wb_iconst (v := iI (0)) hX dX0_evenPairs_2 rfl (pq := 3) rfl ?_
  refine wb_istore_n (loc' := [(2, .int (iI (0))), (1, .int (iI (0))), (0, .ref (G.1 13))]) hX hN dX0_evenPairs_3 (by decide) rfl (pq := 4) rfl ?_
  refine wb_sub [2, 1, 0] (loc' := [(0, .ref (G.1 13)), (1, .int (iI (0))), (2, .int (iI (0)))]) rfl ?_
  exact tAh_evenPairs_L4 hX hQ hN 100000 _ _ h
set_option maxHeartbeats 4000000 in
set_option maxRecDepth 100000 in
theorem tAh_isLawful_J13 {G : wG} {X : wX} {v0 : Int32} {s : wM} {r0 : Int32} (hX : wOK G X cX0_isLawful RX0 (some .boolean) 2) (hQ : wRt G X (wQi G r0 s)) (hN : wNl X = 1) (h : fAh_isLawful_J13 v0 s = some r0) : WB G X 13 [] [.int v0] s := by
  unfold fAh_isLawful_J13 at h
  obtain ⟨hz_1, h⟩ := chkZ_some h
  exact wb_zretP hX hQ h hz_1.1 dX0_isLawful_13
set_option maxHeartbeats 4000000 in
set_option maxRecDepth 100000 in
theorem tAh_isLawful {l : Launch} {G : wG} {s : wM} {r0 : Int32} (h : fAh_isLawful s = some r0) : wMet l G yX0_isLawful cX0_isLawful 1 (some .boolean) 2 [.ref (G.1 13)] s (wQi G r0 s) := by
  refine wMet_of (own := RX0) (by decide +kernel) rfl (Nat.le_of_ble_eq_true rfl) ?_
  intro X hX hQ hN hl
  show WB G X 0 [(0, .ref (G.1 13))] [] s
  unfold fAh_isLawful at h
  refine wb_aload_n 0 hX dX0_isLawful_0 rfl (pq := 1) rfl ?_
  obtain ⟨q_2, hc_1, h⟩ := bind_s h
  refine wb_callVi (r0 := q_2) (s1 := s) [] hX sh_13 ml_702 (tAh_firstEven hc_1) (by decide) rfl rfl (Nat.le_of_ble_eq_true rfl) dX0_isLawful_1 (pq := 4) rfl ?_
  refine wb_iconst (v := iI (-1)) hX dX0_isLawful_4 rfl (pq := 5) rfl ?_
  refine wb_icmp_ne (tgt := 12) hX dX0_isLawful_5 (by decide) (pq := 8) rfl (fun c_3 => ?_) (fun c_3 => ?_)
  · have h := ite_t c_3 h
    refine wb_iconst (v := iI (1)) hX dX0_isLawful_8 rfl (pq := 9) rfl ?_
    refine wb_goto (tgt := 13) hX dX0_isLawful_9 (by decide) ?_
    refine wb_sub [] (loc' := []) rfl ?_
    exact tAh_isLawful_J13 hX hQ hN h
  · have h := ite_f c_3 h
    refine wb_iconst (v := iI (0)) hX dX0_isLawful_12 rfl (pq := 13) rfl ?_
    refine wb_sub [] (loc' := []) rfl ?_
    exact tAh_isLawful_J13 hX hQ hN h
set_option maxHeartbeats 4000000 in
set_option maxRecDepth 100000 in
theorem tAh_lasting_L2 {G : wG} {X : wX} {r0 : Int32} {s1 : wM} (hX : wOK G X cX0_lasting RX0 (some .int) 3) (hQ : wRt G X (wQi G r0 s1)) (hN : wNl X = 2) : ∀ (n : Nat) (x1 : Int32) (s : wM), wh2 (fAh_lasting_L2) n x1 s = some (r0, s1) → WB G X 2 [(0, .ref (G.1 13)), (1, .int x1)] [] s := by
  intro n
  induction n with
  | zero => intro x1 s h; cases h
  | succ n hk2 =>
    intro x1 s h
    have h : fAh_lasting_L2 x1 s (wh2 (fAh_lasting_L2) n) = some (r0, s1) := h
    unfold fAh_lasting_L2 at h
    refine wb_iload_n 1 hX dX0_lasting_2 rfl (pq := 3) rfl ?_
    refine wb_bipush (v := iI (100)) hX dX0_lasting_3 (by decide) (pq := 5) rfl ?_
    refine wb_icmp_gt (tgt := 29) hX dX0_lasting_5 (by decide) (fun c_1 => ?_) (pq := 8) rfl (fun c_1 => ?_)
    · have h := ite_t c_1 h
      refine wb_bipush (v := iI (101)) hX dX0_lasting_29 (by decide) (pq := 31) rfl ?_
      exact wb_iret hX hQ h dX0_lasting_31
    · have h := ite_f c_1 h
      refine wb_aload_n 0 hX dX0_lasting_8 rfl (pq := 9) rfl ?_
      refine wb_iconst (v := iI (0)) hX dX0_lasting_9 rfl (pq := 10) rfl ?_
      refine wb_iconst (v := iI (0)) hX dX0_lasting_10 rfl (pq := 11) rfl ?_
      obtain ⟨q_3, hc_2, h⟩ := bind_s h
      refine wb_callVv (s1 := q_3) [.int (iI (0)), .int (iI (0))] hX sh_13 ml_832 (tAh_pass hc_2) (by decide) rfl rfl (Nat.le_of_ble_eq_true rfl) dX0_lasting_11 (pq := 14) rfl ?_
      refine wb_aload_n 0 hX dX0_lasting_14 rfl (pq := 15) rfl ?_
      obtain ⟨q_5, hc_4, h⟩ := bind_s h
      refine wb_callVi (r0 := q_5) (s1 := q_3) [] hX sh_13 ml_833 (tAh_isLawful hc_4) (by decide) rfl rfl (Nat.le_of_ble_eq_true rfl) dX0_lasting_15 (pq := 18) rfl ?_
      refine wb_if_ne (tgt := 23) hX dX0_lasting_18 (by decide) (pq := 21) rfl (fun c_6 => ?_) (fun c_6 => ?_)
      · have h := ite_t c_6 h
        refine wb_iload_n 1 hX dX0_lasting_21 rfl (pq := 22) rfl ?_
        exact wb_iret hX hQ h dX0_lasting_22
      · have h := ite_f c_6 h
        refine wb_iinc (v := (x1 + iI (1))) (loc' := [(1, .int (x1 + iI (1))), (0, .ref (G.1 13))]) 1 hX hN dX0_lasting_23 rfl rfl (by decide) rfl (pq := 26) rfl ?_
        refine wb_goto (tgt := 2) hX dX0_lasting_26 (by decide) ?_
        refine wb_sub [1, 0] (loc' := [(0, .ref (G.1 13)), (1, .int (x1 + iI (1)))]) rfl ?_
        exact hk2 _ _ h
set_option maxHeartbeats 4000000 in
set_option maxRecDepth 100000 in
theorem tAh_lasting {l : Launch} {G : wG} {s : wM} {r0 : Int32} {s1 : wM} (h : fAh_lasting s = some (r0, s1)) : wMet l G yX0_lasting cX0_lasting 2 (some .int) 3 [.ref (G.1 13)] s (wQi G r0 s1) := by
  refine wMet_of (own := RX0) (by decide +kernel) rfl (Nat.le_of_ble_eq_true rfl) ?_
  intro X hX hQ hN hl
  show WB G X 0 [(0, .ref (G.1 13))] [] s
  unfold fAh_lasting at h
  refine wb_iconst (v := iI (1)) hX dX0_lasting_0 rfl (pq := 1) rfl ?_
  refine wb_istore_n (loc' := [(1, .int (iI (1))), (0, .ref (G.1 13))]) hX hN dX0_lasting_1 (by decide) rfl (pq := 2) rfl ?_
  refine wb_sub [1, 0] (loc' := [(0, .ref (G.1 13)), (1, .int (iI (1)))]) rfl ?_
  exact tAh_lasting_L2 hX hQ hN 100000 _ _ h
set_option maxHeartbeats 4000000 in
set_option maxRecDepth 100000 in
theorem tAh_allAlike_L2 {G : wG} {X : wX} {s : wM} {r0 : Int32} (hX : wOK G X cX0_allAlike RX0 (some .boolean) 0) (hQ : wRt G X (wQi G r0 s)) (hN : wNl X = 2) : ∀ (n : Nat) (x1 : Int32), wh1 (fAh_allAlike_L2 s) n x1 = some r0 → WB G X 2 [(0, .ref (G.1 13)), (1, .int x1)] [] s := by
  intro n
  induction n with
  | zero => intro x1 h; cases h
  | succ n hk2 =>
    intro x1 h
    have h : fAh_allAlike_L2 s x1 (wh1 (fAh_allAlike_L2 s) n) = some r0 := h
    unfold fAh_allAlike_L2 at h
    refine wb_iload_n 1 hX dX0_allAlike_2 rfl (pq := 3) rfl ?_
    refine wb_aload_n 0 hX dX0_allAlike_3 rfl (pq := 4) rfl ?_
    refine wb_getI hX fl_157 sh_13 rfl dX0_allAlike_4 (pq := 7) rfl ?_
    refine wb_icmp_ge (tgt := 33) hX dX0_allAlike_7 (by decide) (fun c_1 => ?_) (pq := 10) rfl (fun c_1 => ?_)
    · have h := ite_t c_1 h
      refine wb_iconst (v := iI (1)) hX dX0_allAlike_33 rfl (pq := 34) rfl ?_
      exact wb_zretP hX hQ h nar01.2.1 dX0_allAlike_34
    · have h := ite_f c_1 h
      refine wb_aload_n 0 hX dX0_allAlike_10 rfl (pq := 11) rfl ?_
      refine wb_getR hX fl_135 sh_13 rfl dX0_allAlike_11 (pq := 14) rfl ?_
      refine wb_iload_n 1 hX dX0_allAlike_14 rfl (pq := 15) rfl ?_
      obtain ⟨hi_2, h⟩ := chk_some h
      refine wb_iald hX sh_14 hi_2 dX0_allAlike_15 (pq := 16) rfl ?_
      refine wb_aload_n 0 hX dX0_allAlike_16 rfl (pq := 17) rfl ?_
      refine wb_getR hX fl_135 sh_13 rfl dX0_allAlike_17 (pq := 20) rfl ?_
      refine wb_iconst (v := iI (0)) hX dX0_allAlike_20 rfl (pq := 21) rfl ?_
      refine wb_iald hX sh_14 (by unfold vp_in; decide) dX0_allAlike_21 (pq := 22) rfl ?_
      refine wb_icmp_eq (tgt := 27) hX dX0_allAlike_22 (by decide) (fun c_3 => ?_) (pq := 25) rfl (fun c_3 => ?_)
      · have h := ite_t c_3 h
        refine wb_iinc (v := (x1 + iI (1))) (loc' := [(1, .int (x1 + iI (1))), (0, .ref (G.1 13))]) 1 hX hN dX0_allAlike_27 rfl rfl (by decide) rfl (pq := 30) rfl ?_
        refine wb_goto (tgt := 2) hX dX0_allAlike_30 (by decide) ?_
        refine wb_sub [1, 0] (loc' := [(0, .ref (G.1 13)), (1, .int (x1 + iI (1)))]) rfl ?_
        exact hk2 _ h
      · have h := ite_f c_3 h
        refine wb_iconst (v := iI (0)) hX dX0_allAlike_25 rfl (pq := 26) rfl ?_
        exact wb_zretP hX hQ h nar01.1.1 dX0_allAlike_26
set_option maxHeartbeats 4000000 in
set_option maxRecDepth 100000 in
theorem tAh_allAlike {l : Launch} {G : wG} {s : wM} {r0 : Int32} (h : fAh_allAlike s = some r0) : wMet l G yX0_allAlike cX0_allAlike 2 (some .boolean) 0 [.ref (G.1 13)] s (wQi G r0 s) := by
  refine wMet_of (own := RX0) (by decide +kernel) rfl (Nat.le_of_ble_eq_true rfl) ?_
  intro X hX hQ hN hl
  show WB G X 0 [(0, .ref (G.1 13))] [] s
  unfold fAh_allAlike at h
  refine wb_iconst (v := iI (1)) hX dX0_allAlike_0 rfl (pq := 1) rfl ?_
  refine wb_istore_n (loc' := [(1, .int (iI (1))), (0, .ref (G.1 13))]) hX hN dX0_allAlike_1 (by decide) rfl (pq := 2) rfl ?_
  refine wb_sub [1, 0] (loc' := [(0, .ref (G.1 13)), (1, .int (iI (1)))]) rfl ?_
  exact tAh_allAlike_L2 hX hQ hN 100000 _ h
set_option maxHeartbeats 4000000 in
set_option maxRecDepth 100000 in
theorem tAh_clearPaid {l : Launch} {G : wG} {s : wM} {s1 : wM} (h : fAh_clearPaid s = some s1) : wMet l G yX0_clearPaid cX0_clearPaid 1 none 1 [.ref (G.1 13)] s (wQv G s1) := by
  refine wMet_of (own := RX0) (by decide +kernel) rfl (Nat.le_of_ble_eq_true rfl) ?_
  intro X hX hQ hN hl
  show WB G X 0 [(0, .ref (G.1 13))] [] s
  unfold fAh_clearPaid at h
  refine wb_aload_n 0 hX dX0_clearPaid_0 rfl (pq := 1) rfl ?_
  refine wb_getR hX fl_140 sh_13 rfl dX0_clearPaid_1 (pq := 4) rfl ?_
  refine wb_iconst (v := iI (0)) hX dX0_clearPaid_4 rfl (pq := 5) rfl ?_
  refine wb_callSv [.ref (G.1 16), .int (iI (0))] hX ml_585 (tFillI sh_16) (by decide) rfl rfl (Nat.le_of_ble_eq_true rfl) dX0_clearPaid_5 (pq := 8) rfl ?_
  refine wb_mem (fun s_1 es_1 => ?_)
  have h := nmM_s h s_1 es_1
  exact wb_vret hX hQ h dX0_clearPaid_8
set_option maxHeartbeats 4000000 in
set_option maxRecDepth 100000 in
theorem tAh_payInto_J42 {G : wG} {X : wX} {k2 : Int32 → wM → Option (wM)} {x1 : Nat} {x2 : Int32} {x3 : Int32} {s : wM} {s1 : wM} (hX : wOK G X cX0_payInto RX0 none 1) (hQ : wRt G X (wQv G s1)) (hN : wNl X = 4) (hk2 : ∀ (x3 : Int32) (s : wM), k2 x3 s = some s1 → WB G X 2 [(0, .ref (G.1 13)), (1, .ref (G.1 x1)), (2, .int x2), (3, .int x3)] [] s) (hx1 : wSh[x1]? = some (.inl (.int, 9, 0, 0))) (h : fAh_payInto_J42 k2 x1 x2 x3 s = some s1) : WB G X 42 [(0, .ref (G.1 13)), (1, .ref (G.1 x1)), (2, .int x2), (3, .int x3)] [] s := by
  unfold fAh_payInto_J42 at h
  refine wb_iinc (v := (x3 + iI (1))) (loc' := [(3, .int (x3 + iI (1))), (0, .ref (G.1 13)), (1, .ref (G.1 x1)), (2, .int x2)]) 3 hX hN dX0_payInto_42 rfl rfl (by decide) rfl (pq := 45) rfl ?_
  refine wb_goto (tgt := 2) hX dX0_payInto_45 (by decide) ?_
  refine wb_sub [1, 2, 3, 0] (loc' := [(0, .ref (G.1 13)), (1, .ref (G.1 x1)), (2, .int x2), (3, .int (x3 + iI (1)))]) rfl ?_
  exact hk2 _ _ h
set_option maxHeartbeats 4000000 in
set_option maxRecDepth 100000 in
theorem tAh_payInto_L2 {G : wG} {X : wX} {x1 : Nat} {x2 : Int32} {s1 : wM} (hX : wOK G X cX0_payInto RX0 none 1) (hQ : wRt G X (wQv G s1)) (hN : wNl X = 4) (hx1 : wSh[x1]? = some (.inl (.int, 9, 0, 0))) : ∀ (n : Nat) (x3 : Int32) (s : wM), wh2 (fAh_payInto_L2 x1 x2) n x3 s = some s1 → WB G X 2 [(0, .ref (G.1 13)), (1, .ref (G.1 x1)), (2, .int x2), (3, .int x3)] [] s := by
  intro n
  induction n with
  | zero => intro x3 s h; cases h
  | succ n hk2 =>
    intro x3 s h
    have h : fAh_payInto_L2 x1 x2 x3 s (wh2 (fAh_payInto_L2 x1 x2) n) = some s1 := h
    unfold fAh_payInto_L2 at h
    refine wb_iload_n 3 hX dX0_payInto_2 rfl (pq := 3) rfl ?_
    refine wb_aload_n 0 hX dX0_payInto_3 rfl (pq := 4) rfl ?_
    refine wb_getI hX fl_148 sh_13 rfl dX0_payInto_4 (pq := 7) rfl ?_
    refine wb_icmp_ge (tgt := 48) hX dX0_payInto_7 (by decide) (fun c_1 => ?_) (pq := 10) rfl (fun c_1 => ?_)
    · have h := ite_t c_1 h
      exact wb_vret hX hQ h dX0_payInto_48
    · have h := ite_f c_1 h
      refine wb_aload_n 0 hX dX0_payInto_10 rfl (pq := 11) rfl ?_
      refine wb_iload_n 3 hX dX0_payInto_11 rfl (pq := 12) rfl ?_
      obtain ⟨q_3, hc_2, h⟩ := bind_s h
      refine wb_callVi (r0 := q_3) (s1 := s) [.int x3] hX sh_13 ml_600 (tAh_isEven hc_2) (by decide) rfl rfl (Nat.le_of_ble_eq_true rfl) dX0_payInto_12 (pq := 15) rfl ?_
      refine wb_if_eq (tgt := 42) hX dX0_payInto_15 (by decide) (fun c_4 => ?_) (pq := 18) rfl (fun c_4 => ?_)
      · have h := ite_t c_4 h
        exact tAh_payInto_J42 hX hQ hN hk2 hx1 h
      · have h := ite_f c_4 h
        refine wb_aload_n 1 hX dX0_payInto_18 rfl (pq := 19) rfl ?_
        refine wb_aload_n 0 hX dX0_payInto_19 rfl (pq := 20) rfl ?_
        refine wb_getR hX fl_142 sh_13 rfl dX0_payInto_20 (pq := 23) rfl ?_
        refine wb_iload_n 3 hX dX0_payInto_23 rfl (pq := 24) rfl ?_
        obtain ⟨hi_5, h⟩ := chk_some h
        refine wb_iald hX sh_17 hi_5 dX0_payInto_24 (pq := 25) rfl ?_
        refine wb_dup2 hX dX0_payInto_25 rfl rfl (pq := 26) rfl ?_
        obtain ⟨hi_6, h⟩ := chk_some h
        refine wb_iald hX hx1 hi_6 dX0_payInto_26 (pq := 27) rfl ?_
        refine wb_iload_n 2 hX dX0_payInto_27 rfl (pq := 28) rfl ?_
        refine wb_iadd hX dX0_payInto_28 (pq := 29) rfl ?_
        refine wb_iast hX hx1 hi_6 dX0_payInto_29 (pq := 30) rfl ?_
        refine wb_mem (fun s_7 es_7 => ?_)
        have h := nmM_s h s_7 es_7
        refine wb_aload_n 1 hX dX0_payInto_30 rfl (pq := 31) rfl ?_
        refine wb_aload_n 0 hX dX0_payInto_31 rfl (pq := 32) rfl ?_
        refine wb_getR hX fl_144 sh_13 rfl dX0_payInto_32 (pq := 35) rfl ?_
        refine wb_iload_n 3 hX dX0_payInto_35 rfl (pq := 36) rfl ?_
        refine wb_iald hX sh_18 hi_5 dX0_payInto_36 (pq := 37) rfl ?_
        refine wb_dup2 hX dX0_payInto_37 rfl rfl (pq := 38) rfl ?_
        obtain ⟨hi_8, h⟩ := chk_some h
        refine wb_iald hX hx1 hi_8 dX0_payInto_38 (pq := 39) rfl ?_
        refine wb_iload_n 2 hX dX0_payInto_39 rfl (pq := 40) rfl ?_
        refine wb_iadd hX dX0_payInto_40 (pq := 41) rfl ?_
        refine wb_iast hX hx1 hi_8 dX0_payInto_41 (pq := 42) rfl ?_
        refine wb_mem (fun s_9 es_9 => ?_)
        have h := nmM_s h s_9 es_9
        exact tAh_payInto_J42 hX hQ hN hk2 hx1 h
set_option maxHeartbeats 4000000 in
set_option maxRecDepth 100000 in
theorem tAh_payInto {l : Launch} {G : wG} {s : wM} {x1 : Nat} {x2 : Int32} {s1 : wM} (hx1 : wSh[x1]? = some (.inl (.int, 9, 0, 0))) (h : fAh_payInto s x1 x2 = some s1) : wMet l G yX0_payInto cX0_payInto 4 none 1 [.ref (G.1 13), .ref (G.1 x1), .int x2] s (wQv G s1) := by
  refine wMet_of (own := RX0) (by decide +kernel) rfl (Nat.le_of_ble_eq_true rfl) ?_
  intro X hX hQ hN hl
  show WB G X 0 [(0, .ref (G.1 13)), (1, .ref (G.1 x1)), (2, .int x2)] [] s
  unfold fAh_payInto at h
  refine wb_iconst (v := iI (0)) hX dX0_payInto_0 rfl (pq := 1) rfl ?_
  refine wb_istore_n (loc' := [(3, .int (iI (0))), (0, .ref (G.1 13)), (1, .ref (G.1 x1)), (2, .int x2)]) hX hN dX0_payInto_1 (by decide) rfl (pq := 2) rfl ?_
  refine wb_sub [1, 2, 3, 0] (loc' := [(0, .ref (G.1 13)), (1, .ref (G.1 x1)), (2, .int x2), (3, .int (iI (0)))]) rfl ?_
  exact tAh_payInto_L2 hX hQ hN hx1 100000 _ _ h
set_option maxHeartbeats 4000000 in
set_option maxRecDepth 100000 in
theorem tGr_join {l : Launch} {G : wG} {s : wM} {x1 : Int32} {x2 : Int32} {s1 : wM} (h : fGr_join s x1 x2 = some s1) : wMet l G yX1_join cX1_join 3 none 0 [.ref (G.1 28), .int x1, .int x2] s (wQv G s1) := by
  refine wMet_of (own := RX1) (by decide +kernel) rfl (Nat.le_of_ble_eq_true rfl) ?_
  intro X hX hQ hN hl
  show WB G X 0 [(0, .ref (G.1 28)), (1, .int x1), (2, .int x2)] [] s
  unfold fGr_join at h
  refine wb_aload_n 0 hX dX1_join_0 rfl (pq := 1) rfl ?_
  refine wb_getR hX fl_243 sh_28 rfl dX1_join_1 (pq := 4) rfl ?_
  refine wb_iload_n 1 hX dX1_join_4 rfl (pq := 5) rfl ?_
  refine wb_dup2 hX dX1_join_5 rfl rfl (pq := 6) rfl ?_
  obtain ⟨hi_1, h⟩ := chk_some h
  refine wb_iald hX sh_31 hi_1 dX1_join_6 (pq := 7) rfl ?_
  refine wb_iconst (v := iI (1)) hX dX1_join_7 rfl (pq := 8) rfl ?_
  refine wb_iload_n 2 hX dX1_join_8 rfl (pq := 9) rfl ?_
  refine wb_ishl hX dX1_join_9 (pq := 10) rfl ?_
  refine wb_ior hX dX1_join_10 (pq := 11) rfl ?_
  refine wb_iast hX sh_31 hi_1 dX1_join_11 (pq := 12) rfl ?_
  refine wb_mem (fun s_2 es_2 => ?_)
  have h := nmM_s h s_2 es_2
  refine wb_aload_n 0 hX dX1_join_12 rfl (pq := 13) rfl ?_
  refine wb_getR hX fl_243 sh_28 rfl dX1_join_13 (pq := 16) rfl ?_
  refine wb_iload_n 2 hX dX1_join_16 rfl (pq := 17) rfl ?_
  refine wb_dup2 hX dX1_join_17 rfl rfl (pq := 18) rfl ?_
  obtain ⟨hi_3, h⟩ := chk_some h
  refine wb_iald hX sh_31 hi_3 dX1_join_18 (pq := 19) rfl ?_
  refine wb_iconst (v := iI (1)) hX dX1_join_19 rfl (pq := 20) rfl ?_
  refine wb_iload_n 1 hX dX1_join_20 rfl (pq := 21) rfl ?_
  refine wb_ishl hX dX1_join_21 (pq := 22) rfl ?_
  refine wb_ior hX dX1_join_22 (pq := 23) rfl ?_
  refine wb_iast hX sh_31 hi_3 dX1_join_23 (pq := 24) rfl ?_
  refine wb_mem (fun s_4 es_4 => ?_)
  have h := nmM_s h s_4 es_4
  exact wb_vret hX hQ h dX1_join_24
set_option maxHeartbeats 4000000 in
set_option maxRecDepth 100000 in
theorem tAh_markEven_J34 {G : wG} {X : wX} {k2 : Int32 → wM → Option (wM)} {x2 : Int32} {s : wM} {s1 : wM} (hX : wOK G X cX0_markEven RX0 none 1) (hQ : wRt G X (wQv G s1)) (hN : wNl X = 3) (hk2 : ∀ (x2 : Int32) (s : wM), k2 x2 s = some s1 → WB G X 2 [(0, .ref (G.1 13)), (1, .ref (G.1 28)), (2, .int x2)] [] s) (h : fAh_markEven_J34 k2 x2 s = some s1) : WB G X 34 [(0, .ref (G.1 13)), (1, .ref (G.1 28)), (2, .int x2)] [] s := by
  unfold fAh_markEven_J34 at h
  refine wb_iinc (v := (x2 + iI (1))) (loc' := [(2, .int (x2 + iI (1))), (0, .ref (G.1 13)), (1, .ref (G.1 28))]) 2 hX hN dX0_markEven_34 rfl rfl (by decide) rfl (pq := 37) rfl ?_
  refine wb_goto (tgt := 2) hX dX0_markEven_37 (by decide) ?_
  refine wb_sub [1, 2, 0] (loc' := [(0, .ref (G.1 13)), (1, .ref (G.1 28)), (2, .int (x2 + iI (1)))]) rfl ?_
  exact hk2 _ _ h
set_option maxHeartbeats 4000000 in
set_option maxRecDepth 100000 in
theorem tAh_markEven_L2 {G : wG} {X : wX} {s1 : wM} (hX : wOK G X cX0_markEven RX0 none 1) (hQ : wRt G X (wQv G s1)) (hN : wNl X = 3) : ∀ (n : Nat) (x2 : Int32) (s : wM), wh2 (fAh_markEven_L2) n x2 s = some s1 → WB G X 2 [(0, .ref (G.1 13)), (1, .ref (G.1 28)), (2, .int x2)] [] s := by
  intro n
  induction n with
  | zero => intro x2 s h; cases h
  | succ n hk2 =>
    intro x2 s h
    have h : fAh_markEven_L2 x2 s (wh2 (fAh_markEven_L2) n) = some s1 := h
    unfold fAh_markEven_L2 at h
    refine wb_iload_n 2 hX dX0_markEven_2 rfl (pq := 3) rfl ?_
    refine wb_aload_n 0 hX dX0_markEven_3 rfl (pq := 4) rfl ?_
    refine wb_getI hX fl_148 sh_13 rfl dX0_markEven_4 (pq := 7) rfl ?_
    refine wb_icmp_ge (tgt := 40) hX dX0_markEven_7 (by decide) (fun c_1 => ?_) (pq := 10) rfl (fun c_1 => ?_)
    · have h := ite_t c_1 h
      exact wb_vret hX hQ h dX0_markEven_40
    · have h := ite_f c_1 h
      refine wb_aload_n 0 hX dX0_markEven_10 rfl (pq := 11) rfl ?_
      refine wb_iload_n 2 hX dX0_markEven_11 rfl (pq := 12) rfl ?_
      obtain ⟨q_3, hc_2, h⟩ := bind_s h
      refine wb_callVi (r0 := q_3) (s1 := s) [.int x2] hX sh_13 ml_600 (tAh_isEven hc_2) (by decide) rfl rfl (Nat.le_of_ble_eq_true rfl) dX0_markEven_12 (pq := 15) rfl ?_
      refine wb_if_eq (tgt := 34) hX dX0_markEven_15 (by decide) (fun c_4 => ?_) (pq := 18) rfl (fun c_4 => ?_)
      · have h := ite_t c_4 h
        exact tAh_markEven_J34 hX hQ hN hk2 h
      · have h := ite_f c_4 h
        refine wb_aload_n 1 hX dX0_markEven_18 rfl (pq := 19) rfl ?_
        refine wb_aload_n 0 hX dX0_markEven_19 rfl (pq := 20) rfl ?_
        refine wb_getR hX fl_142 sh_13 rfl dX0_markEven_20 (pq := 23) rfl ?_
        refine wb_iload_n 2 hX dX0_markEven_23 rfl (pq := 24) rfl ?_
        obtain ⟨hi_5, h⟩ := chk_some h
        refine wb_iald hX sh_17 hi_5 dX0_markEven_24 (pq := 25) rfl ?_
        refine wb_aload_n 0 hX dX0_markEven_25 rfl (pq := 26) rfl ?_
        refine wb_getR hX fl_144 sh_13 rfl dX0_markEven_26 (pq := 29) rfl ?_
        refine wb_iload_n 2 hX dX0_markEven_29 rfl (pq := 30) rfl ?_
        refine wb_iald hX sh_18 hi_5 dX0_markEven_30 (pq := 31) rfl ?_
        obtain ⟨q_7, hc_6, h⟩ := bind_s h
        refine wb_callVv (s1 := q_7) [.int (s.1 17 x2.toNatClampNeg), .int (s.1 18 x2.toNatClampNeg)] hX sh_28 ml_871 (tGr_join hc_6) (by decide) rfl rfl (Nat.le_of_ble_eq_true rfl) dX0_markEven_31 (pq := 34) rfl ?_
        exact tAh_markEven_J34 hX hQ hN hk2 h
set_option maxHeartbeats 4000000 in
set_option maxRecDepth 100000 in
theorem tAh_markEven {l : Launch} {G : wG} {s : wM} {s1 : wM} (h : fAh_markEven s = some s1) : wMet l G yX0_markEven cX0_markEven 3 none 1 [.ref (G.1 13), .ref (G.1 28)] s (wQv G s1) := by
  refine wMet_of (own := RX0) (by decide +kernel) rfl (Nat.le_of_ble_eq_true rfl) ?_
  intro X hX hQ hN hl
  show WB G X 0 [(0, .ref (G.1 13)), (1, .ref (G.1 28))] [] s
  unfold fAh_markEven at h
  refine wb_iconst (v := iI (0)) hX dX0_markEven_0 rfl (pq := 1) rfl ?_
  refine wb_istore_n (loc' := [(2, .int (iI (0))), (0, .ref (G.1 13)), (1, .ref (G.1 28))]) hX hN dX0_markEven_1 (by decide) rfl (pq := 2) rfl ?_
  refine wb_sub [1, 2, 0] (loc' := [(0, .ref (G.1 13)), (1, .ref (G.1 28)), (2, .int (iI (0)))]) rfl ?_
  exact tAh_markEven_L2 hX hQ hN 100000 _ _ h
set_option maxHeartbeats 4000000 in
set_option maxRecDepth 100000 in
theorem tAh_pack_L4 {G : wG} {X : wX} {s : wM} {r0 : Int64} (hX : wOK G X cX0_pack RX0 (some .long) 0) (hQ : wRt G X (wQl G r0 s)) (hN : wNl X = 4) : ∀ (n : Nat) (x1 : Int64) (x3 : Int32), wh2 (fAh_pack_L4 s) n x1 x3 = some r0 → WB G X 4 [(0, .ref (G.1 13)), (1, .long x1), (3, .int x3)] [] s := by
  intro n
  induction n with
  | zero => intro x1 x3 h; cases h
  | succ n hk4 =>
    intro x1 x3 h
    have h : fAh_pack_L4 s x1 x3 (wh2 (fAh_pack_L4 s) n) = some r0 := h
    unfold fAh_pack_L4 at h
    refine wb_iload_n 2 hX dX0_pack_4 rfl (pq := 5) rfl ?_
    refine wb_aload_n 0 hX dX0_pack_5 rfl (pq := 6) rfl ?_
    refine wb_getI hX fl_157 sh_13 rfl dX0_pack_6 (pq := 9) rfl ?_
    refine wb_icmp_ge (tgt := 33) hX dX0_pack_9 (by decide) (fun c_1 => ?_) (pq := 12) rfl (fun c_1 => ?_)
    · have h := ite_t c_1 h
      refine wb_lload_n 1 hX dX0_pack_33 rfl (pq := 34) rfl ?_
      exact wb_lretP hX hQ h dX0_pack_34
    · have h := ite_f c_1 h
      refine wb_lload_n 1 hX dX0_pack_12 rfl (pq := 13) rfl ?_
      refine wb_aload_n 0 hX dX0_pack_13 rfl (pq := 14) rfl ?_
      refine wb_getR hX fl_135 sh_13 rfl dX0_pack_14 (pq := 17) rfl ?_
      refine wb_iload_n 2 hX dX0_pack_17 rfl (pq := 18) rfl ?_
      obtain ⟨hi_2, h⟩ := chk_some h
      refine wb_iald hX sh_14 hi_2 dX0_pack_18 (pq := 19) rfl ?_
      refine wb_i2l hX dX0_pack_19 (pq := 20) rfl ?_
      refine wb_bipush (v := iI (7)) hX dX0_pack_20 (by decide) (pq := 22) rfl ?_
      refine wb_iload_n 2 hX dX0_pack_22 rfl (pq := 23) rfl ?_
      refine wb_imul hX dX0_pack_23 (pq := 24) rfl ?_
      refine wb_lshl hX dX0_pack_24 (pq := 25) rfl ?_
      refine wb_lor hX dX0_pack_25 (pq := 26) rfl ?_
      refine wb_topl (fun y_3 ey_3 => ?_)
      have h := nmL_s h y_3 ey_3
      refine wb_lstore_n (loc' := [(1, .long y_3), (0, .ref (G.1 13)), (3, .int x3)]) hX hN dX0_pack_26 (by decide) rfl (pq := 27) rfl ?_
      refine wb_iinc (v := (x3 + iI (1))) (loc' := [(3, .int (x3 + iI (1))), (1, .long y_3), (0, .ref (G.1 13))]) 2 hX hN dX0_pack_27 rfl rfl (by decide) rfl (pq := 30) rfl ?_
      refine wb_goto (tgt := 4) hX dX0_pack_30 (by decide) ?_
      refine wb_sub [2, 1, 0] (loc' := [(0, .ref (G.1 13)), (1, .long y_3), (3, .int (x3 + iI (1)))]) rfl ?_
      exact hk4 _ _ h
set_option maxHeartbeats 4000000 in
set_option maxRecDepth 100000 in
theorem tAh_pack {l : Launch} {G : wG} {s : wM} {r0 : Int64} (h : fAh_pack s = some r0) : wMet l G yX0_pack cX0_pack 4 (some .long) 0 [.ref (G.1 13)] s (wQl G r0 s) := by
  refine wMet_of (own := RX0) (by decide +kernel) rfl (Nat.le_of_ble_eq_true rfl) ?_
  intro X hX hQ hN hl
  show WB G X 0 [(0, .ref (G.1 13))] [] s
  unfold fAh_pack at h
  refine wb_lconst (v := (0 : Int64)) hX dX0_pack_0 rfl (pq := 1) rfl ?_
  refine wb_lstore_n (loc' := [(1, .long (0 : Int64)), (0, .ref (G.1 13))]) hX hN dX0_pack_1 (by decide) rfl (pq := 2) rfl ?_
  refine wb_iconst (v := iI (0)) hX dX0_pack_2 rfl (pq := 3) rfl ?_
  refine wb_istore_n (loc' := [(3, .int (iI (0))), (1, .long (0 : Int64)), (0, .ref (G.1 13))]) hX hN dX0_pack_3 (by decide) rfl (pq := 4) rfl ?_
  refine wb_sub [2, 1, 0] (loc' := [(0, .ref (G.1 13)), (1, .long (0 : Int64)), (3, .int (iI (0)))]) rfl ?_
  exact tAh_pack_L4 hX hQ hN 100000 _ _ h
set_option maxHeartbeats 4000000 in
set_option maxRecDepth 100000 in
theorem tAh_unpack_L2 {G : wG} {X : wX} {x1 : Int64} {s1 : wM} (hX : wOK G X cX0_unpack RX0 none 0) (hQ : wRt G X (wQv G s1)) (hN : wNl X = 4) : ∀ (n : Nat) (x3 : Int32) (s : wM), wh2 (fAh_unpack_L2 x1) n x3 s = some s1 → WB G X 2 [(0, .ref (G.1 13)), (1, .long x1), (3, .int x3)] [] s := by
  intro n
  induction n with
  | zero => intro x3 s h; cases h
  | succ n hk2 =>
    intro x3 s h
    have h : fAh_unpack_L2 x1 x3 s (wh2 (fAh_unpack_L2 x1) n) = some s1 := h
    unfold fAh_unpack_L2 at h
    refine wb_iload_n 2 hX dX0_unpack_2 rfl (pq := 3) rfl ?_
    refine wb_aload_n 0 hX dX0_unpack_3 rfl (pq := 4) rfl ?_
    refine wb_getI hX fl_157 sh_13 rfl dX0_unpack_4 (pq := 7) rfl ?_
    refine wb_icmp_ge (tgt := 32) hX dX0_unpack_7 (by decide) (fun c_1 => ?_) (pq := 10) rfl (fun c_1 => ?_)
    · have h := ite_t c_1 h
      refine wb_aload_n 0 hX dX0_unpack_32 rfl (pq := 33) rfl ?_
      refine wb_iconst (v := iI (0)) hX dX0_unpack_33 rfl (pq := 34) rfl ?_
      refine wb_putI hX fp_152 sh_13 rfl dX0_unpack_34 nar01.1.1 nar01.1.2.1 (pq := 37) rfl ?_
      refine wb_mem (fun s_2 es_2 => ?_)
      have h := nmM_s h s_2 es_2
      exact wb_vret hX hQ h dX0_unpack_37
    · have h := ite_f c_1 h
      refine wb_aload_n 0 hX dX0_unpack_10 rfl (pq := 11) rfl ?_
      refine wb_getR hX fl_135 sh_13 rfl dX0_unpack_11 (pq := 14) rfl ?_
      refine wb_iload_n 2 hX dX0_unpack_14 rfl (pq := 15) rfl ?_
      refine wb_lload_n 1 hX dX0_unpack_15 rfl (pq := 16) rfl ?_
      refine wb_bipush (v := iI (7)) hX dX0_unpack_16 (by decide) (pq := 18) rfl ?_
      refine wb_iload_n 2 hX dX0_unpack_18 rfl (pq := 19) rfl ?_
      refine wb_imul hX dX0_unpack_19 (pq := 20) rfl ?_
      refine wb_lushr hX dX0_unpack_20 (pq := 21) rfl ?_
      refine wb_l2i hX dX0_unpack_21 (pq := 22) rfl ?_
      refine wb_bipush (v := iI (127)) hX dX0_unpack_22 (by decide) (pq := 24) rfl ?_
      refine wb_iand hX dX0_unpack_24 (pq := 25) rfl ?_
      obtain ⟨hi_3, h⟩ := chk_some h
      refine wb_iast hX sh_14 hi_3 dX0_unpack_25 (pq := 26) rfl ?_
      refine wb_mem (fun s_4 es_4 => ?_)
      have h := nmM_s h s_4 es_4
      refine wb_iinc (v := (x3 + iI (1))) (loc' := [(3, .int (x3 + iI (1))), (0, .ref (G.1 13)), (1, .long x1)]) 2 hX hN dX0_unpack_26 rfl rfl (by decide) rfl (pq := 29) rfl ?_
      refine wb_goto (tgt := 2) hX dX0_unpack_29 (by decide) ?_
      refine wb_sub [1, 2, 0] (loc' := [(0, .ref (G.1 13)), (1, .long x1), (3, .int (x3 + iI (1)))]) rfl ?_
      exact hk2 _ _ h
set_option maxHeartbeats 4000000 in
set_option maxRecDepth 100000 in
theorem tAh_unpack {l : Launch} {G : wG} {s : wM} {x1 : Int64} {s1 : wM} (h : fAh_unpack s x1 = some s1) : wMet l G yX0_unpack cX0_unpack 4 none 0 [.ref (G.1 13), .long x1] s (wQv G s1) := by
  refine wMet_of (own := RX0) (by decide +kernel) rfl (Nat.le_of_ble_eq_true rfl) ?_
  intro X hX hQ hN hl
  show WB G X 0 [(0, .ref (G.1 13)), (1, .long x1)] [] s
  unfold fAh_unpack at h
  refine wb_iconst (v := iI (0)) hX dX0_unpack_0 rfl (pq := 1) rfl ?_
  refine wb_istore_n (loc' := [(3, .int (iI (0))), (0, .ref (G.1 13)), (1, .long x1)]) hX hN dX0_unpack_1 (by decide) rfl (pq := 2) rfl ?_
  refine wb_sub [1, 2, 0] (loc' := [(0, .ref (G.1 13)), (1, .long x1), (3, .int (iI (0)))]) rfl ?_
  exact tAh_unpack_L2 hX hQ hN 100000 _ _ h
set_option maxHeartbeats 4000000 in
set_option maxRecDepth 100000 in
theorem tGr_clear {l : Launch} {G : wG} {s : wM} {x1 : Int32} {s1 : wM} (h : fGr_clear s x1 = some s1) : wMet l G yX1_clear cX1_clear 2 none 1 [.ref (G.1 28), .int x1] s (wQv G s1) := by
  refine wMet_of (own := RX1) (by decide +kernel) rfl (Nat.le_of_ble_eq_true rfl) ?_
  intro X hX hQ hN hl
  show WB G X 0 [(0, .ref (G.1 28)), (1, .int x1)] [] s
  unfold fGr_clear at h
  refine wb_aload_n 0 hX dX1_clear_0 rfl (pq := 1) rfl ?_
  refine wb_iload_n 1 hX dX1_clear_1 rfl (pq := 2) rfl ?_
  refine wb_putI hX fp_241 sh_28 rfl dX1_clear_2 rfl rfl (pq := 5) rfl ?_
  refine wb_mem (fun s_1 es_1 => ?_)
  have h := nmM_s h s_1 es_1
  refine wb_aload_n 0 hX dX1_clear_5 rfl (pq := 6) rfl ?_
  refine wb_getR hX fl_243 sh_28 rfl dX1_clear_6 (pq := 9) rfl ?_
  refine wb_iconst (v := iI (0)) hX dX1_clear_9 rfl (pq := 10) rfl ?_
  refine wb_callSv [.ref (G.1 31), .int (iI (0))] hX ml_866 (tFillI sh_31) (by decide) rfl rfl (Nat.le_of_ble_eq_true rfl) dX1_clear_10 (pq := 13) rfl ?_
  refine wb_mem (fun s_2 es_2 => ?_)
  have h := nmM_s h s_2 es_2
  exact wb_vret hX hQ h dX1_clear_13
set_option maxHeartbeats 4000000 in
set_option maxRecDepth 100000 in
theorem tLand_touching_J30 {G : wG} {X : wX} {k4 : Int32 → Int32 → Option (Int32)} {x1 : Int32} {x3 : Int32} {v0 : Int32} {v1 : Int32} {s : wM} {r0 : Int32} (hX : wOK G X cX2_touching RX2 (some .int) 1) (hQ : wRt G X (wQi G r0 s)) (hN : wNl X = 4) (hk4 : ∀ (x2 : Int32) (x3 : Int32), k4 x2 x3 = some r0 → WB G X 4 [(0, .ref (G.1 7)), (1, .int x1), (2, .int x2), (3, .int x3)] [] s) (h : fLand_touching_J30 k4 x1 x3 v0 v1 s = some r0) : WB G X 30 [(0, .ref (G.1 7)), (1, .int x1), (3, .int x3)] [.int v0, .int v1] s := by
  unfold fLand_touching_J30 at h
  refine wb_ior hX dX2_touching_30 (pq := 31) rfl ?_
  refine wb_istore_n (loc' := [(2, .int (v1 ||| v0)), (0, .ref (G.1 7)), (1, .int x1), (3, .int x3)]) hX hN dX2_touching_31 (by decide) rfl (pq := 32) rfl ?_
  refine wb_iinc (v := (x3 + iI (1))) (loc' := [(3, .int (x3 + iI (1))), (2, .int (v1 ||| v0)), (0, .ref (G.1 7)), (1, .int x1)]) 3 hX hN dX2_touching_32 rfl rfl (by decide) rfl (pq := 35) rfl ?_
  refine wb_goto (tgt := 4) hX dX2_touching_35 (by decide) ?_
  refine wb_sub [2, 3, 1, 0] (loc' := [(0, .ref (G.1 7)), (1, .int x1), (2, .int (v1 ||| v0)), (3, .int (x3 + iI (1)))]) rfl ?_
  exact hk4 _ _ h
set_option maxHeartbeats 4000000 in
set_option maxRecDepth 100000 in
theorem tLand_touching_L4 {G : wG} {X : wX} {x1 : Int32} {s : wM} {r0 : Int32} (hX : wOK G X cX2_touching RX2 (some .int) 1) (hQ : wRt G X (wQi G r0 s)) (hN : wNl X = 4) : ∀ (n : Nat) (x2 : Int32) (x3 : Int32), wh2 (fLand_touching_L4 x1 s) n x2 x3 = some r0 → WB G X 4 [(0, .ref (G.1 7)), (1, .int x1), (2, .int x2), (3, .int x3)] [] s := by
  intro n
  induction n with
  | zero => intro x2 x3 h; cases h
  | succ n hk4 =>
    intro x2 x3 h
    have h : fLand_touching_L4 x1 s x2 x3 (wh2 (fLand_touching_L4 x1 s) n) = some r0 := h
    unfold fLand_touching_L4 at h
    refine wb_iload_n 3 hX dX2_touching_4 rfl (pq := 5) rfl ?_
    refine wb_aload_n 0 hX dX2_touching_5 rfl (pq := 6) rfl ?_
    refine wb_getI hX fl_104 sh_7 rfl dX2_touching_6 (pq := 9) rfl ?_
    refine wb_icmp_ge (tgt := 38) hX dX2_touching_9 (by decide) (fun c_1 => ?_) (pq := 12) rfl (fun c_1 => ?_)
    · have h := ite_t c_1 h
      refine wb_iload_n 2 hX dX2_touching_38 rfl (pq := 39) rfl ?_
      exact wb_iretP hX hQ h dX2_touching_39
    · have h := ite_f c_1 h
      refine wb_iload_n 2 hX dX2_touching_12 rfl (pq := 13) rfl ?_
      refine wb_aload_n 0 hX dX2_touching_13 rfl (pq := 14) rfl ?_
      refine wb_iload_n 1 hX dX2_touching_14 rfl (pq := 15) rfl ?_
      refine wb_iload_n 3 hX dX2_touching_15 rfl (pq := 16) rfl ?_
      obtain ⟨q_3, hc_2, h⟩ := bind_s h
      refine wb_callVi (r0 := q_3) (s1 := s) [.int x1, .int x3] hX sh_7 ml_506 (tLand_between hc_2) (by decide) rfl rfl (Nat.le_of_ble_eq_true rfl) dX2_touching_16 (pq := 19) rfl ?_
      refine wb_iconst (v := iI (-1)) hX dX2_touching_19 rfl (pq := 20) rfl ?_
      refine wb_icmp_eq (tgt := 29) hX dX2_touching_20 (by decide) (fun c_4 => ?_) (pq := 23) rfl (fun c_4 => ?_)
      · have h := ite_t c_4 h
        refine wb_iconst (v := iI (0)) hX dX2_touching_29 rfl (pq := 30) rfl ?_
        refine wb_sub [0, 1, 3] (loc' := [(0, .ref (G.1 7)), (1, .int x1), (3, .int x3)]) rfl ?_
        exact tLand_touching_J30 hX hQ hN hk4 h
      · have h := ite_f c_4 h
        refine wb_iconst (v := iI (1)) hX dX2_touching_23 rfl (pq := 24) rfl ?_
        refine wb_iload_n 3 hX dX2_touching_24 rfl (pq := 25) rfl ?_
        refine wb_ishl hX dX2_touching_25 (pq := 26) rfl ?_
        refine wb_goto (tgt := 30) hX dX2_touching_26 (by decide) ?_
        refine wb_sub [0, 1, 3] (loc' := [(0, .ref (G.1 7)), (1, .int x1), (3, .int x3)]) rfl ?_
        exact tLand_touching_J30 hX hQ hN hk4 h
set_option maxHeartbeats 4000000 in
set_option maxRecDepth 100000 in
theorem tLand_touching {l : Launch} {G : wG} {s : wM} {x1 : Int32} {r0 : Int32} (h : fLand_touching s x1 = some r0) : wMet l G yX2_touching cX2_touching 4 (some .int) 1 [.ref (G.1 7), .int x1] s (wQi G r0 s) := by
  refine wMet_of (own := RX2) (by decide +kernel) rfl (Nat.le_of_ble_eq_true rfl) ?_
  intro X hX hQ hN hl
  show WB G X 0 [(0, .ref (G.1 7)), (1, .int x1)] [] s
  unfold fLand_touching at h
  refine wb_iconst (v := iI (0)) hX dX2_touching_0 rfl (pq := 1) rfl ?_
  refine wb_istore_n (loc' := [(2, .int (iI (0))), (0, .ref (G.1 7)), (1, .int x1)]) hX hN dX2_touching_1 (by decide) rfl (pq := 2) rfl ?_
  refine wb_iconst (v := iI (0)) hX dX2_touching_2 rfl (pq := 3) rfl ?_
  refine wb_istore_n (loc' := [(3, .int (iI (0))), (2, .int (iI (0))), (0, .ref (G.1 7)), (1, .int x1)]) hX hN dX2_touching_3 (by decide) rfl (pq := 4) rfl ?_
  refine wb_sub [2, 3, 1, 0] (loc' := [(0, .ref (G.1 7)), (1, .int x1), (2, .int (iI (0))), (3, .int (iI (0)))]) rfl ?_
  exact tLand_touching_L4 hX hQ hN 100000 _ _ h
set_option maxHeartbeats 4000000 in
set_option maxRecDepth 100000 in
theorem tGr_look_L10 {G : wG} {X : wX} {s1 : wM} (hX : wOK G X cX1_look RX1 none 2) (hQ : wRt G X (wQv G s1)) (hN : wNl X = 3) : ∀ (n : Nat) (x2 : Int32) (s : wM), wh2 (fGr_look_L10) n x2 s = some s1 → WB G X 10 [(0, .ref (G.1 28)), (1, .ref (G.1 7)), (2, .int x2)] [] s := by
  intro n
  induction n with
  | zero => intro x2 s h; cases h
  | succ n hk10 =>
    intro x2 s h
    have h : fGr_look_L10 x2 s (wh2 (fGr_look_L10) n) = some s1 := h
    unfold fGr_look_L10 at h
    refine wb_iload_n 2 hX dX1_look_10 rfl (pq := 11) rfl ?_
    refine wb_aload_n 0 hX dX1_look_11 rfl (pq := 12) rfl ?_
    refine wb_getI hX fl_241 sh_28 rfl dX1_look_12 (pq := 15) rfl ?_
    refine wb_icmp_ge (tgt := 35) hX dX1_look_15 (by decide) (fun c_1 => ?_) (pq := 18) rfl (fun c_1 => ?_)
    · have h := ite_t c_1 h
      exact wb_vret hX hQ h dX1_look_35
    · have h := ite_f c_1 h
      refine wb_aload_n 0 hX dX1_look_18 rfl (pq := 19) rfl ?_
      refine wb_getR hX fl_243 sh_28 rfl dX1_look_19 (pq := 22) rfl ?_
      refine wb_iload_n 2 hX dX1_look_22 rfl (pq := 23) rfl ?_
      refine wb_aload_n 1 hX dX1_look_23 rfl (pq := 24) rfl ?_
      refine wb_iload_n 2 hX dX1_look_24 rfl (pq := 25) rfl ?_
      obtain ⟨q_3, hc_2, h⟩ := bind_s h
      refine wb_callVi (r0 := q_3) (s1 := s) [.int x2] hX sh_7 ml_785 (tLand_touching hc_2) (by decide) rfl rfl (Nat.le_of_ble_eq_true rfl) dX1_look_25 (pq := 28) rfl ?_
      obtain ⟨hi_4, h⟩ := chk_some h
      refine wb_iast hX sh_31 hi_4 dX1_look_28 (pq := 29) rfl ?_
      refine wb_mem (fun s_5 es_5 => ?_)
      have h := nmM_s h s_5 es_5
      refine wb_iinc (v := (x2 + iI (1))) (loc' := [(2, .int (x2 + iI (1))), (0, .ref (G.1 28)), (1, .ref (G.1 7))]) 2 hX hN dX1_look_29 rfl rfl (by decide) rfl (pq := 32) rfl ?_
      refine wb_goto (tgt := 10) hX dX1_look_32 (by decide) ?_
      refine wb_sub [1, 2, 0] (loc' := [(0, .ref (G.1 28)), (1, .ref (G.1 7)), (2, .int (x2 + iI (1)))]) rfl ?_
      exact hk10 _ _ h
set_option maxHeartbeats 4000000 in
set_option maxRecDepth 100000 in
theorem tGr_look {l : Launch} {G : wG} {s : wM} {s1 : wM} (h : fGr_look s = some s1) : wMet l G yX1_look cX1_look 3 none 2 [.ref (G.1 28), .ref (G.1 7)] s (wQv G s1) := by
  refine wMet_of (own := RX1) (by decide +kernel) rfl (Nat.le_of_ble_eq_true rfl) ?_
  intro X hX hQ hN hl
  show WB G X 0 [(0, .ref (G.1 28)), (1, .ref (G.1 7))] [] s
  unfold fGr_look at h
  refine wb_aload_n 0 hX dX1_look_0 rfl (pq := 1) rfl ?_
  refine wb_aload_n 1 hX dX1_look_1 rfl (pq := 2) rfl ?_
  refine wb_getI hX fl_108 sh_7 rfl dX1_look_2 (pq := 5) rfl ?_
  refine wb_putI hX fp_241 sh_28 rfl dX1_look_5 rfl rfl (pq := 8) rfl ?_
  refine wb_mem (fun s_1 es_1 => ?_)
  have h := nmM_s h s_1 es_1
  refine wb_iconst (v := iI (0)) hX dX1_look_8 rfl (pq := 9) rfl ?_
  refine wb_istore_n (loc' := [(2, .int (iI (0))), (0, .ref (G.1 28)), (1, .ref (G.1 7))]) hX hN dX1_look_9 (by decide) rfl (pq := 10) rfl ?_
  refine wb_sub [1, 2, 0] (loc' := [(0, .ref (G.1 28)), (1, .ref (G.1 7)), (2, .int (iI (0)))]) rfl ?_
  exact tGr_look_L10 hX hQ hN 100000 _ _ h
set_option maxHeartbeats 4000000 in
set_option maxRecDepth 100000 in
theorem tJ_bitCount {l : Launch} {G : wG} {s : wM} {x0 : Int32} {r0 : Int32} (h : fJ_bitCount s x0 = some r0) : wMet l G yJ6_bitCount_0f7a4 cJ6_bitCount_0f7a4 1 (some .int) 0 [.int x0] s (wQi G r0 s) := by
  refine wMet_of (own := RJ6) (by decide +kernel) rfl (Nat.le_of_ble_eq_true rfl) ?_
  intro X hX hQ hN hl
  show WB G X 0 [(0, .int x0)] [] s
  unfold fJ_bitCount at h
  refine wb_iload_n 0 hX dJ6_bitCount_0f7a4_0 rfl (pq := 1) rfl ?_
  refine wb_iload_n 0 hX dJ6_bitCount_0f7a4_1 rfl (pq := 2) rfl ?_
  refine wb_iconst (v := iI (1)) hX dJ6_bitCount_0f7a4_2 rfl (pq := 3) rfl ?_
  refine wb_iushr hX dJ6_bitCount_0f7a4_3 (pq := 4) rfl ?_
  refine wb_ldcw (v := (1431655765 : Int32)) hX k_747 dJ6_bitCount_0f7a4_4 (pq := 7) rfl ?_
  refine wb_iand hX dJ6_bitCount_0f7a4_7 (pq := 8) rfl ?_
  refine wb_isub hX dJ6_bitCount_0f7a4_8 (pq := 9) rfl ?_
  refine wb_topi (fun y_1 ey_1 => ?_)
  have h := nmI_s h y_1 ey_1
  refine wb_istore_n (loc' := [(0, .int y_1)]) hX hN dJ6_bitCount_0f7a4_9 (by decide) rfl (pq := 10) rfl ?_
  refine wb_iload_n 0 hX dJ6_bitCount_0f7a4_10 rfl (pq := 11) rfl ?_
  refine wb_ldcw (v := (858993459 : Int32)) hX k_748 dJ6_bitCount_0f7a4_11 (pq := 14) rfl ?_
  refine wb_iand hX dJ6_bitCount_0f7a4_14 (pq := 15) rfl ?_
  refine wb_iload_n 0 hX dJ6_bitCount_0f7a4_15 rfl (pq := 16) rfl ?_
  refine wb_iconst (v := iI (2)) hX dJ6_bitCount_0f7a4_16 rfl (pq := 17) rfl ?_
  refine wb_iushr hX dJ6_bitCount_0f7a4_17 (pq := 18) rfl ?_
  refine wb_ldcw (v := (858993459 : Int32)) hX k_748 dJ6_bitCount_0f7a4_18 (pq := 21) rfl ?_
  refine wb_iand hX dJ6_bitCount_0f7a4_21 (pq := 22) rfl ?_
  refine wb_iadd hX dJ6_bitCount_0f7a4_22 (pq := 23) rfl ?_
  refine wb_topi (fun y_2 ey_2 => ?_)
  have h := nmI_s h y_2 ey_2
  refine wb_istore_n (loc' := [(0, .int y_2)]) hX hN dJ6_bitCount_0f7a4_23 (by decide) rfl (pq := 24) rfl ?_
  refine wb_iload_n 0 hX dJ6_bitCount_0f7a4_24 rfl (pq := 25) rfl ?_
  refine wb_iload_n 0 hX dJ6_bitCount_0f7a4_25 rfl (pq := 26) rfl ?_
  refine wb_iconst (v := iI (4)) hX dJ6_bitCount_0f7a4_26 rfl (pq := 27) rfl ?_
  refine wb_iushr hX dJ6_bitCount_0f7a4_27 (pq := 28) rfl ?_
  refine wb_iadd hX dJ6_bitCount_0f7a4_28 (pq := 29) rfl ?_
  refine wb_ldcw (v := (252645135 : Int32)) hX k_749 dJ6_bitCount_0f7a4_29 (pq := 32) rfl ?_
  refine wb_iand hX dJ6_bitCount_0f7a4_32 (pq := 33) rfl ?_
  refine wb_topi (fun y_3 ey_3 => ?_)
  have h := nmI_s h y_3 ey_3
  refine wb_istore_n (loc' := [(0, .int y_3)]) hX hN dJ6_bitCount_0f7a4_33 (by decide) rfl (pq := 34) rfl ?_
  refine wb_iload_n 0 hX dJ6_bitCount_0f7a4_34 rfl (pq := 35) rfl ?_
  refine wb_iload_n 0 hX dJ6_bitCount_0f7a4_35 rfl (pq := 36) rfl ?_
  refine wb_bipush (v := iI (8)) hX dJ6_bitCount_0f7a4_36 (by decide) (pq := 38) rfl ?_
  refine wb_iushr hX dJ6_bitCount_0f7a4_38 (pq := 39) rfl ?_
  refine wb_iadd hX dJ6_bitCount_0f7a4_39 (pq := 40) rfl ?_
  refine wb_istore_n (loc' := [(0, .int (y_3 + (iUshr y_3 (iI (8)))))]) hX hN dJ6_bitCount_0f7a4_40 (by decide) rfl (pq := 41) rfl ?_
  refine wb_iload_n 0 hX dJ6_bitCount_0f7a4_41 rfl (pq := 42) rfl ?_
  refine wb_iload_n 0 hX dJ6_bitCount_0f7a4_42 rfl (pq := 43) rfl ?_
  refine wb_bipush (v := iI (16)) hX dJ6_bitCount_0f7a4_43 (by decide) (pq := 45) rfl ?_
  refine wb_iushr hX dJ6_bitCount_0f7a4_45 (pq := 46) rfl ?_
  refine wb_iadd hX dJ6_bitCount_0f7a4_46 (pq := 47) rfl ?_
  refine wb_topi (fun y_4 ey_4 => ?_)
  have h := nmI_s h y_4 ey_4
  refine wb_istore_n (loc' := [(0, .int y_4)]) hX hN dJ6_bitCount_0f7a4_47 (by decide) rfl (pq := 48) rfl ?_
  refine wb_iload_n 0 hX dJ6_bitCount_0f7a4_48 rfl (pq := 49) rfl ?_
  refine wb_bipush (v := iI (63)) hX dJ6_bitCount_0f7a4_49 (by decide) (pq := 51) rfl ?_
  refine wb_iand hX dJ6_bitCount_0f7a4_51 (pq := 52) rfl ?_
  exact wb_iretP hX hQ h dJ6_bitCount_0f7a4_52
set_option maxHeartbeats 4000000 in
set_option maxRecDepth 100000 in
theorem tGr_pairs_L4 {G : wG} {X : wX} {s : wM} {r0 : Int32} (hX : wOK G X cX1_pairs RX1 (some .int) 1) (hQ : wRt G X (wQi G r0 s)) (hN : wNl X = 3) : ∀ (n : Nat) (x1 : Int32) (x2 : Int32), wh2 (fGr_pairs_L4 s) n x1 x2 = some r0 → WB G X 4 [(0, .ref (G.1 28)), (1, .int x1), (2, .int x2)] [] s := by
  intro n
  induction n with
  | zero => intro x1 x2 h; cases h
  | succ n hk4 =>
    intro x1 x2 h
    have h : fGr_pairs_L4 s x1 x2 (wh2 (fGr_pairs_L4 s) n) = some r0 := h
    unfold fGr_pairs_L4 at h
    refine wb_iload_n 2 hX dX1_pairs_4 rfl (pq := 5) rfl ?_
    refine wb_aload_n 0 hX dX1_pairs_5 rfl (pq := 6) rfl ?_
    refine wb_getI hX fl_241 sh_28 rfl dX1_pairs_6 (pq := 9) rfl ?_
    refine wb_icmp_ge (tgt := 30) hX dX1_pairs_9 (by decide) (fun c_1 => ?_) (pq := 12) rfl (fun c_1 => ?_)
    · have h := ite_t c_1 h
      refine wb_iload_n 1 hX dX1_pairs_30 rfl (pq := 31) rfl ?_
      refine wb_iconst (v := iI (2)) hX dX1_pairs_31 rfl (pq := 32) rfl ?_
      refine wb_idiv hX dX1_pairs_32 (by decide) (pq := 33) rfl ?_
      exact wb_iretP hX hQ h dX1_pairs_33
    · have h := ite_f c_1 h
      refine wb_iload_n 1 hX dX1_pairs_12 rfl (pq := 13) rfl ?_
      refine wb_aload_n 0 hX dX1_pairs_13 rfl (pq := 14) rfl ?_
      refine wb_getR hX fl_243 sh_28 rfl dX1_pairs_14 (pq := 17) rfl ?_
      refine wb_iload_n 2 hX dX1_pairs_17 rfl (pq := 18) rfl ?_
      obtain ⟨hi_2, h⟩ := chk_some h
      refine wb_iald hX sh_31 hi_2 dX1_pairs_18 (pq := 19) rfl ?_
      obtain ⟨q_4, hc_3, h⟩ := bind_s h
      refine wb_callSi (r0 := q_4) (s1 := s) [.int (s.1 31 x2.toNatClampNeg)] hX ml_810 (tJ_bitCount hc_3) (by decide) rfl rfl (Nat.le_of_ble_eq_true rfl) dX1_pairs_19 (pq := 22) rfl ?_
      refine wb_iadd hX dX1_pairs_22 (pq := 23) rfl ?_
      refine wb_istore_n (loc' := [(1, .int (x1 + q_4)), (0, .ref (G.1 28)), (2, .int x2)]) hX hN dX1_pairs_23 (by decide) rfl (pq := 24) rfl ?_
      refine wb_iinc (v := (x2 + iI (1))) (loc' := [(2, .int (x2 + iI (1))), (1, .int (x1 + q_4)), (0, .ref (G.1 28))]) 2 hX hN dX1_pairs_24 rfl rfl (by decide) rfl (pq := 27) rfl ?_
      refine wb_goto (tgt := 4) hX dX1_pairs_27 (by decide) ?_
      refine wb_sub [2, 1, 0] (loc' := [(0, .ref (G.1 28)), (1, .int (x1 + q_4)), (2, .int (x2 + iI (1)))]) rfl ?_
      exact hk4 _ _ h
set_option maxHeartbeats 4000000 in
set_option maxRecDepth 100000 in
theorem tGr_pairs {l : Launch} {G : wG} {s : wM} {r0 : Int32} (h : fGr_pairs s = some r0) : wMet l G yX1_pairs cX1_pairs 3 (some .int) 1 [.ref (G.1 28)] s (wQi G r0 s) := by
  refine wMet_of (own := RX1) (by decide +kernel) rfl (Nat.le_of_ble_eq_true rfl) ?_
  intro X hX hQ hN hl
  show WB G X 0 [(0, .ref (G.1 28))] [] s
  unfold fGr_pairs at h
  refine wb_iconst (v := iI (0)) hX dX1_pairs_0 rfl (pq := 1) rfl ?_
  refine wb_istore_n (loc' := [(1, .int (iI (0))), (0, .ref (G.1 28))]) hX hN dX1_pairs_1 (by decide) rfl (pq := 2) rfl ?_
  refine wb_iconst (v := iI (0)) hX dX1_pairs_2 rfl (pq := 3) rfl ?_
  refine wb_istore_n (loc' := [(2, .int (iI (0))), (1, .int (iI (0))), (0, .ref (G.1 28))]) hX hN dX1_pairs_3 (by decide) rfl (pq := 4) rfl ?_
  refine wb_sub [2, 1, 0] (loc' := [(0, .ref (G.1 28)), (1, .int (iI (0))), (2, .int (iI (0)))]) rfl ?_
  exact tGr_pairs_L4 hX hQ hN 100000 _ _ h
set_option maxHeartbeats 4000000 in
set_option maxRecDepth 100000 in
theorem tGr_isUnlike_J38 {G : wG} {X : wX} {k2 : Int32 → Option (Int32)} {x1 : Int32} {x2 : Int32} {s : wM} {r0 : Int32} (hX : wOK G X cX1_isUnlike RX1 (some .boolean) 0) (hQ : wRt G X (wQi G r0 s)) (hN : wNl X = 3) (hk2 : ∀ (x2 : Int32), k2 x2 = some r0 → WB G X 2 [(0, .ref (G.1 28)), (1, .int x1), (2, .int x2)] [] s) (h : fGr_isUnlike_J38 k2 x1 x2 s = some r0) : WB G X 38 [(0, .ref (G.1 28)), (1, .int x1), (2, .int x2)] [] s := by
  unfold fGr_isUnlike_J38 at h
  refine wb_iinc (v := (x2 + iI (1))) (loc' := [(2, .int (x2 + iI (1))), (0, .ref (G.1 28)), (1, .int x1)]) 2 hX hN dX1_isUnlike_38 rfl rfl (by decide) rfl (pq := 41) rfl ?_
  refine wb_goto (tgt := 2) hX dX1_isUnlike_41 (by decide) ?_
  refine wb_sub [1, 2, 0] (loc' := [(0, .ref (G.1 28)), (1, .int x1), (2, .int (x2 + iI (1)))]) rfl ?_
  exact hk2 _ h
set_option maxHeartbeats 4000000 in
set_option maxRecDepth 100000 in
theorem tGr_isUnlike_L2 {G : wG} {X : wX} {x1 : Int32} {s : wM} {r0 : Int32} (hX : wOK G X cX1_isUnlike RX1 (some .boolean) 0) (hQ : wRt G X (wQi G r0 s)) (hN : wNl X = 3) : ∀ (n : Nat) (x2 : Int32), wh1 (fGr_isUnlike_L2 x1 s) n x2 = some r0 → WB G X 2 [(0, .ref (G.1 28)), (1, .int x1), (2, .int x2)] [] s := by
  intro n
  induction n with
  | zero => intro x2 h; cases h
  | succ n hk2 =>
    intro x2 h
    have h : fGr_isUnlike_L2 x1 s x2 (wh1 (fGr_isUnlike_L2 x1 s) n) = some r0 := h
    unfold fGr_isUnlike_L2 at h
    refine wb_iload_n 2 hX dX1_isUnlike_2 rfl (pq := 3) rfl ?_
    refine wb_iload_n 1 hX dX1_isUnlike_3 rfl (pq := 4) rfl ?_
    refine wb_icmp_ge (tgt := 44) hX dX1_isUnlike_4 (by decide) (fun c_1 => ?_) (pq := 7) rfl (fun c_1 => ?_)
    · have h := ite_t c_1 h
      refine wb_iconst (v := iI (1)) hX dX1_isUnlike_44 rfl (pq := 45) rfl ?_
      exact wb_zretP hX hQ h nar01.2.1 dX1_isUnlike_45
    · have h := ite_f c_1 h
      refine wb_aload_n 0 hX dX1_isUnlike_7 rfl (pq := 8) rfl ?_
      refine wb_getR hX fl_243 sh_28 rfl dX1_isUnlike_8 (pq := 11) rfl ?_
      refine wb_iload_n 1 hX dX1_isUnlike_11 rfl (pq := 12) rfl ?_
      obtain ⟨hi_2, h⟩ := chk_some h
      refine wb_iald hX sh_31 hi_2 dX1_isUnlike_12 (pq := 13) rfl ?_
      refine wb_iload_n 2 hX dX1_isUnlike_13 rfl (pq := 14) rfl ?_
      refine wb_ishr hX dX1_isUnlike_14 (pq := 15) rfl ?_
      refine wb_iconst (v := iI (1)) hX dX1_isUnlike_15 rfl (pq := 16) rfl ?_
      refine wb_iand hX dX1_isUnlike_16 (pq := 17) rfl ?_
      refine wb_iconst (v := iI (1)) hX dX1_isUnlike_17 rfl (pq := 18) rfl ?_
      refine wb_icmp_ne (tgt := 38) hX dX1_isUnlike_18 (by decide) (pq := 21) rfl (fun c_3 => ?_) (fun c_3 => ?_)
      · have h := ite_t c_3 h
        refine wb_aload_n 0 hX dX1_isUnlike_21 rfl (pq := 22) rfl ?_
        refine wb_getR hX fl_237 sh_28 rfl dX1_isUnlike_22 (pq := 25) rfl ?_
        refine wb_iload_n 2 hX dX1_isUnlike_25 rfl (pq := 26) rfl ?_
        obtain ⟨hi_4, h⟩ := chk_some h
        refine wb_iald hX sh_29 hi_4 dX1_isUnlike_26 (pq := 27) rfl ?_
        refine wb_aload_n 0 hX dX1_isUnlike_27 rfl (pq := 28) rfl ?_
        refine wb_getR hX fl_237 sh_28 rfl dX1_isUnlike_28 (pq := 31) rfl ?_
        refine wb_iload_n 1 hX dX1_isUnlike_31 rfl (pq := 32) rfl ?_
        refine wb_iald hX sh_29 hi_2 dX1_isUnlike_32 (pq := 33) rfl ?_
        refine wb_icmp_ne (tgt := 38) hX dX1_isUnlike_33 (by decide) (pq := 36) rfl (fun c_5 => ?_) (fun c_5 => ?_)
        · have h := ite_t c_5 h
          refine wb_iconst (v := iI (0)) hX dX1_isUnlike_36 rfl (pq := 37) rfl ?_
          exact wb_zretP hX hQ h nar01.1.1 dX1_isUnlike_37
        · have h := ite_f c_5 h
          exact tGr_isUnlike_J38 hX hQ hN hk2 h
      · have h := ite_f c_3 h
        exact tGr_isUnlike_J38 hX hQ hN hk2 h
set_option maxHeartbeats 4000000 in
set_option maxRecDepth 100000 in
theorem tGr_isUnlike {l : Launch} {G : wG} {s : wM} {x1 : Int32} {r0 : Int32} (h : fGr_isUnlike s x1 = some r0) : wMet l G yX1_isUnlike cX1_isUnlike 3 (some .boolean) 0 [.ref (G.1 28), .int x1] s (wQi G r0 s) := by
  refine wMet_of (own := RX1) (by decide +kernel) rfl (Nat.le_of_ble_eq_true rfl) ?_
  intro X hX hQ hN hl
  show WB G X 0 [(0, .ref (G.1 28)), (1, .int x1)] [] s
  unfold fGr_isUnlike at h
  refine wb_iconst (v := iI (0)) hX dX1_isUnlike_0 rfl (pq := 1) rfl ?_
  refine wb_istore_n (loc' := [(2, .int (iI (0))), (0, .ref (G.1 28)), (1, .int x1)]) hX hN dX1_isUnlike_1 (by decide) rfl (pq := 2) rfl ?_
  refine wb_sub [1, 2, 0] (loc' := [(0, .ref (G.1 28)), (1, .int x1), (2, .int (iI (0)))]) rfl ?_
  exact tGr_isUnlike_L2 hX hQ hN 100000 _ h
set_option maxHeartbeats 4000000 in
set_option maxRecDepth 100000 in
theorem tGr_paintFrom_J62 {G : wG} {X : wX} {rec : wM → Int32 → Int32 → Int32 → Option (Int32 × wM)} {k13 : Int32 → wM → Option (Int32 × wM)} {x1 : Int32} {x2 : Int32} {x3 : Int32} {x4 : Int32} {s : wM} {r0 : Int32} {s1 : wM} {nr : Nat} (hrec : ∀ (s s1 : wM) (a b c r0 : Int32), rec s a b c = some (r0, s1) → ∀ l : Launch, 0 < nr ∧ wMet l G yX1_paintFrom cX1_paintFrom 5 (some .boolean) (1 + nr - 1) [.ref (G.1 28), .int a, .int b, .int c] s (wQi G r0 s1)) (hX : wOK G X cX1_paintFrom RX1 (some .boolean) (1 + nr)) (hQ : wRt G X (wQi G r0 s1)) (hN : wNl X = 5) (hk13 : ∀ (x4 : Int32) (s : wM), k13 x4 s = some (r0, s1) → WB G X 13 [(0, .ref (G.1 28)), (1, .int x1), (2, .int x2), (3, .int x3), (4, .int x4)] [] s) (h : fGr_paintFrom_J62 rec k13 x1 x2 x3 x4 s = some (r0, s1)) : WB G X 62 [(0, .ref (G.1 28)), (1, .int x1), (2, .int x2), (3, .int x3), (4, .int x4)] [] s := by
  unfold fGr_paintFrom_J62 at h
  refine wb_iinc (v := (x4 + iI (1))) (loc' := [(4, .int (x4 + iI (1))), (0, .ref (G.1 28)), (1, .int x1), (2, .int x2), (3, .int x3)]) 4 hX hN dX1_paintFrom_62 rfl rfl (by decide) rfl (pq := 65) rfl ?_
  refine wb_goto (tgt := 13) hX dX1_paintFrom_65 (by decide) ?_
  refine wb_sub [1, 2, 3, 4, 0] (loc' := [(0, .ref (G.1 28)), (1, .int x1), (2, .int x2), (3, .int x3), (4, .int (x4 + iI (1)))]) rfl ?_
  exact hk13 _ _ h
set_option maxHeartbeats 4000000 in
set_option maxRecDepth 100000 in
theorem tGr_paintFrom_J68 {G : wG} {X : wX} {rec : wM → Int32 → Int32 → Int32 → Option (Int32 × wM)} {s : wM} {r0 : Int32} {s1 : wM} {nr : Nat} (hrec : ∀ (s s1 : wM) (a b c r0 : Int32), rec s a b c = some (r0, s1) → ∀ l : Launch, 0 < nr ∧ wMet l G yX1_paintFrom cX1_paintFrom 5 (some .boolean) (1 + nr - 1) [.ref (G.1 28), .int a, .int b, .int c] s (wQi G r0 s1)) (hX : wOK G X cX1_paintFrom RX1 (some .boolean) (1 + nr)) (hQ : wRt G X (wQi G r0 s1)) (hN : wNl X = 5) (h : fGr_paintFrom_J68 rec s = some (r0, s1)) : WB G X 68 [] [] s := by
  unfold fGr_paintFrom_J68 at h
  refine wb_iconst (v := iI (0)) hX dX1_paintFrom_68 rfl (pq := 69) rfl ?_
  exact wb_zret hX hQ h nar01.1.1 dX1_paintFrom_69
set_option maxHeartbeats 4000000 in
set_option maxRecDepth 100000 in
theorem tGr_paintFrom_L13 {G : wG} {X : wX} {rec : wM → Int32 → Int32 → Int32 → Option (Int32 × wM)} {x1 : Int32} {x2 : Int32} {x3 : Int32} {r0 : Int32} {s1 : wM} {nr : Nat} (hrec : ∀ (s s1 : wM) (a b c r0 : Int32), rec s a b c = some (r0, s1) → ∀ l : Launch, 0 < nr ∧ wMet l G yX1_paintFrom cX1_paintFrom 5 (some .boolean) (1 + nr - 1) [.ref (G.1 28), .int a, .int b, .int c] s (wQi G r0 s1)) (hX : wOK G X cX1_paintFrom RX1 (some .boolean) (1 + nr)) (hQ : wRt G X (wQi G r0 s1)) (hN : wNl X = 5) : ∀ (n : Nat) (x4 : Int32) (s : wM), wh2 (fGr_paintFrom_L13 rec x1 x2 x3) n x4 s = some (r0, s1) → WB G X 13 [(0, .ref (G.1 28)), (1, .int x1), (2, .int x2), (3, .int x3), (4, .int x4)] [] s := by
  intro n
  induction n with
  | zero => intro x4 s h; cases h
  | succ n hk13 =>
    intro x4 s h
    have h : fGr_paintFrom_L13 rec x1 x2 x3 x4 s (wh2 (fGr_paintFrom_L13 rec x1 x2 x3) n) = some (r0, s1) := h
    unfold fGr_paintFrom_L13 at h
    refine wb_iload 4 hX dX1_paintFrom_13 rfl (pq := 15) rfl ?_
    refine wb_iload_n 3 hX dX1_paintFrom_15 rfl (pq := 16) rfl ?_
    refine wb_icmp_ge (tgt := 68) hX dX1_paintFrom_16 (by decide) (fun c_1 => ?_) (pq := 19) rfl (fun c_1 => ?_)
    · have h := ite_t c_1 h
      refine wb_sub [] (loc' := []) rfl ?_
      exact tGr_paintFrom_J68 hrec hX hQ hN h
    · have h := ite_f c_1 h
      refine wb_iload 4 hX dX1_paintFrom_19 rfl (pq := 21) rfl ?_
      refine wb_iload_n 2 hX dX1_paintFrom_21 rfl (pq := 22) rfl ?_
      refine wb_icmp_gt (tgt := 68) hX dX1_paintFrom_22 (by decide) (fun c_2 => ?_) (pq := 25) rfl (fun c_2 => ?_)
      · have h := ite_t c_2 h
        refine wb_sub [] (loc' := []) rfl ?_
        exact tGr_paintFrom_J68 hrec hX hQ hN h
      · have h := ite_f c_2 h
        refine wb_aload_n 0 hX dX1_paintFrom_25 rfl (pq := 26) rfl ?_
        refine wb_getR hX fl_237 sh_28 rfl dX1_paintFrom_26 (pq := 29) rfl ?_
        refine wb_iload_n 1 hX dX1_paintFrom_29 rfl (pq := 30) rfl ?_
        refine wb_iload 4 hX dX1_paintFrom_30 rfl (pq := 32) rfl ?_
        obtain ⟨hi_3, h⟩ := chk_some h
        refine wb_iast hX sh_29 hi_3 dX1_paintFrom_32 (pq := 33) rfl ?_
        refine wb_mem (fun s_4 es_4 => ?_)
        have h := nmM_s h s_4 es_4
        refine wb_aload_n 0 hX dX1_paintFrom_33 rfl (pq := 34) rfl ?_
        refine wb_iload_n 1 hX dX1_paintFrom_34 rfl (pq := 35) rfl ?_
        obtain ⟨q_6, hc_5, h⟩ := bind_s h
        refine wb_callVi (r0 := q_6) (s1 := s_4) [.int x1] hX sh_28 ml_793 (tGr_isUnlike hc_5) (by omega) rfl rfl (Nat.le_of_ble_eq_true rfl) dX1_paintFrom_35 (pq := 38) rfl ?_
        refine wb_if_eq (tgt := 62) hX dX1_paintFrom_38 (by decide) (fun c_7 => ?_) (pq := 41) rfl (fun c_7 => ?_)
        · have h := ite_t c_7 h
          exact tGr_paintFrom_J62 hrec hX hQ hN hk13 h
        · have h := ite_f c_7 h
          refine wb_aload_n 0 hX dX1_paintFrom_41 rfl (pq := 42) rfl ?_
          refine wb_iload_n 1 hX dX1_paintFrom_42 rfl (pq := 43) rfl ?_
          refine wb_iconst (v := iI (1)) hX dX1_paintFrom_43 rfl (pq := 44) rfl ?_
          refine wb_iadd hX dX1_paintFrom_44 (pq := 45) rfl ?_
          refine wb_iload_n 2 hX dX1_paintFrom_45 rfl (pq := 46) rfl ?_
          refine wb_iload 4 hX dX1_paintFrom_46 rfl (pq := 48) rfl ?_
          refine wb_iconst (v := iI (1)) hX dX1_paintFrom_48 rfl (pq := 49) rfl ?_
          refine wb_iadd hX dX1_paintFrom_49 (pq := 50) rfl ?_
          refine wb_mmax hX k_797 k_491 k_14 k_492 (Nat.le_of_ble_eq_true rfl) dX1_paintFrom_50 (pq := 53) rfl ?_
          refine wb_iload_n 3 hX dX1_paintFrom_53 rfl (pq := 54) rfl ?_
          obtain ⟨q_9, hc_8, h⟩ := bind_s h
          refine wb_callSi (r0 := q_9.1) (s1 := q_9.2) [.ref (G.1 28), .int (x1 + (iI (1))), .int (iMax x2 (x4 + (iI (1)))), .int x3] hX ml_790 (hrec _ _ _ _ _ _ hc_8 _).2 ⟨by have := (hrec _ _ _ _ _ _ hc_8 X.2.1).1; omega, by decide⟩ rfl rfl (Nat.le_of_ble_eq_true rfl) dX1_paintFrom_54 (pq := 57) rfl ?_
          refine wb_if_eq (tgt := 62) hX dX1_paintFrom_57 (by decide) (fun c_10 => ?_) (pq := 60) rfl (fun c_10 => ?_)
          · have h := ite_t c_10 h
            exact tGr_paintFrom_J62 hrec hX hQ hN hk13 h
          · have h := ite_f c_10 h
            refine wb_iconst (v := iI (1)) hX dX1_paintFrom_60 rfl (pq := 61) rfl ?_
            exact wb_zret hX hQ h nar01.2.1 dX1_paintFrom_61
set_option maxHeartbeats 4000000 in
set_option maxRecDepth 100000 in
theorem tGr_paintFrom_B {l : Launch} {G : wG} {rec : wM → Int32 → Int32 → Int32 → Option (Int32 × wM)} {s : wM} {x1 : Int32} {x2 : Int32} {x3 : Int32} {r0 : Int32} {s1 : wM} {nr : Nat} (hrec : ∀ (s s1 : wM) (a b c r0 : Int32), rec s a b c = some (r0, s1) → ∀ l : Launch, 0 < nr ∧ wMet l G yX1_paintFrom cX1_paintFrom 5 (some .boolean) (1 + nr - 1) [.ref (G.1 28), .int a, .int b, .int c] s (wQi G r0 s1)) (h : fGr_paintFrom_B rec s x1 x2 x3 = some (r0, s1)) : wMet l G yX1_paintFrom cX1_paintFrom 5 (some .boolean) (1 + nr) [.ref (G.1 28), .int x1, .int x2, .int x3] s (wQi G r0 s1) := by
  refine wMet_of (own := RX1) (by decide +kernel) rfl (Nat.le_of_ble_eq_true rfl) ?_
  intro X hX hQ hN hl
  show WB G X 0 [(0, .ref (G.1 28)), (1, .int x1), (2, .int x2), (3, .int x3)] [] s
  unfold fGr_paintFrom_B at h
  refine wb_iload_n 1 hX dX1_paintFrom_0 rfl (pq := 1) rfl ?_
  refine wb_aload_n 0 hX dX1_paintFrom_1 rfl (pq := 2) rfl ?_
  refine wb_getI hX fl_241 sh_28 rfl dX1_paintFrom_2 (pq := 5) rfl ?_
  refine wb_icmp_lt (tgt := 10) hX dX1_paintFrom_5 (by decide) (fun c_1 => ?_) (pq := 8) rfl (fun c_1 => ?_)
  · have h := ite_t c_1 h
    refine wb_iconst (v := iI (0)) hX dX1_paintFrom_10 rfl (pq := 11) rfl ?_
    refine wb_istore (loc' := [(4, .int (iI (0))), (0, .ref (G.1 28)), (1, .int x1), (2, .int x2), (3, .int x3)]) hX hN dX1_paintFrom_11 (by decide) rfl (pq := 13) rfl ?_
    refine wb_sub [1, 2, 3, 4, 0] (loc' := [(0, .ref (G.1 28)), (1, .int x1), (2, .int x2), (3, .int x3), (4, .int (iI (0)))]) rfl ?_
    exact tGr_paintFrom_L13 hrec hX hQ hN 100000 _ _ h
  · have h := ite_f c_1 h
    refine wb_iconst (v := iI (1)) hX dX1_paintFrom_8 rfl (pq := 9) rfl ?_
    exact wb_zret hX hQ h nar01.2.1 dX1_paintFrom_9
theorem tGr_paintFrom {G : wG} : ∀ (n : Nat) {l : Launch} {s : wM} {x1 x2 x3 r0 : Int32} {s1 : wM}, fGr_paintFrom n s x1 x2 x3 = some (r0, s1) → wMet l G yX1_paintFrom cX1_paintFrom 5 (some .boolean) (1 + n) [.ref (G.1 28), .int x1, .int x2, .int x3] s (wQi G r0 s1)
  | 0, _, _, _, _, _, _, _, h => by cases h
  | n + 1, _, _, _, _, _, _, _, h => tGr_paintFrom_B (nr := n + 1) (fun s s1 a b c r0 h l => ⟨Nat.succ_pos n, tGr_paintFrom n h⟩) h
set_option maxHeartbeats 4000000 in
set_option maxRecDepth 100000 in
theorem tGr_paintAll_L2 {G : wG} {X : wX} {r0 : Int32} {s1 : wM} (hX : wOK G X cX1_paintAll RX1 (some .int) 14) (hQ : wRt G X (wQi G r0 s1)) (hN : wNl X = 2) : ∀ (n : Nat) (x1 : Int32) (s : wM), wh2 (fGr_paintAll_L2) n x1 s = some (r0, s1) → WB G X 2 [(0, .ref (G.1 28)), (1, .int x1)] [] s := by
  intro n
  induction n with
  | zero => intro x1 s h; cases h
  | succ n hk2 =>
    intro x1 s h
    have h : fGr_paintAll_L2 x1 s (wh2 (fGr_paintAll_L2) n) = some (r0, s1) := h
    unfold fGr_paintAll_L2 at h
    refine wb_iload_n 1 hX dX1_paintAll_2 rfl (pq := 3) rfl ?_
    refine wb_aload_n 0 hX dX1_paintAll_3 rfl (pq := 4) rfl ?_
    refine wb_getI hX fl_241 sh_28 rfl dX1_paintAll_4 (pq := 7) rfl ?_
    refine wb_icmp_ge (tgt := 28) hX dX1_paintAll_7 (by decide) (fun c_1 => ?_) (pq := 10) rfl (fun c_1 => ?_)
    · have h := ite_t c_1 h
      refine wb_aload_n 0 hX dX1_paintAll_28 rfl (pq := 29) rfl ?_
      refine wb_iconst (v := iI (0)) hX dX1_paintAll_29 rfl (pq := 30) rfl ?_
      refine wb_iconst (v := iI (0)) hX dX1_paintAll_30 rfl (pq := 31) rfl ?_
      refine wb_aload_n 0 hX dX1_paintAll_31 rfl (pq := 32) rfl ?_
      refine wb_getI hX fl_241 sh_28 rfl dX1_paintAll_32 (pq := 35) rfl ?_
      obtain ⟨q_3, hc_2, h⟩ := bind_s h
      refine wb_callSi (r0 := q_3.1) (s1 := q_3.2) [.ref (G.1 28), .int (iI (0)), .int (iI (0)), .int (s.1 28 2)] hX ml_790 (tGr_paintFrom 12 hc_2) (by decide) rfl rfl (Nat.le_of_ble_eq_true rfl) dX1_paintAll_35 (pq := 38) rfl ?_
      refine wb_pop hX dX1_paintAll_38 rfl (pq := 39) rfl ?_
      refine wb_aload_n 0 hX dX1_paintAll_39 rfl (pq := 40) rfl ?_
      refine wb_getI hX fl_241 sh_28 rfl dX1_paintAll_40 (pq := 43) rfl ?_
      exact wb_iret hX hQ h dX1_paintAll_43
    · have h := ite_f c_1 h
      refine wb_aload_n 0 hX dX1_paintAll_10 rfl (pq := 11) rfl ?_
      refine wb_iconst (v := iI (0)) hX dX1_paintAll_11 rfl (pq := 12) rfl ?_
      refine wb_iconst (v := iI (0)) hX dX1_paintAll_12 rfl (pq := 13) rfl ?_
      refine wb_iload_n 1 hX dX1_paintAll_13 rfl (pq := 14) rfl ?_
      obtain ⟨q_5, hc_4, h⟩ := bind_s h
      refine wb_callSi (r0 := q_5.1) (s1 := q_5.2) [.ref (G.1 28), .int (iI (0)), .int (iI (0)), .int x1] hX ml_790 (tGr_paintFrom 12 hc_4) (by decide) rfl rfl (Nat.le_of_ble_eq_true rfl) dX1_paintAll_14 (pq := 17) rfl ?_
      refine wb_if_eq (tgt := 22) hX dX1_paintAll_17 (by decide) (fun c_6 => ?_) (pq := 20) rfl (fun c_6 => ?_)
      · have h := ite_t c_6 h
        refine wb_iinc (v := (x1 + iI (1))) (loc' := [(1, .int (x1 + iI (1))), (0, .ref (G.1 28))]) 1 hX hN dX1_paintAll_22 rfl rfl (by decide) rfl (pq := 25) rfl ?_
        refine wb_goto (tgt := 2) hX dX1_paintAll_25 (by decide) ?_
        refine wb_sub [1, 0] (loc' := [(0, .ref (G.1 28)), (1, .int (x1 + iI (1)))]) rfl ?_
        exact hk2 _ _ h
      · have h := ite_f c_6 h
        refine wb_iload_n 1 hX dX1_paintAll_20 rfl (pq := 21) rfl ?_
        exact wb_iret hX hQ h dX1_paintAll_21
set_option maxHeartbeats 4000000 in
set_option maxRecDepth 100000 in
theorem tGr_paintAll {l : Launch} {G : wG} {s : wM} {r0 : Int32} {s1 : wM} (h : fGr_paintAll s = some (r0, s1)) : wMet l G yX1_paintAll cX1_paintAll 2 (some .int) 14 [.ref (G.1 28)] s (wQi G r0 s1) := by
  refine wMet_of (own := RX1) (by decide +kernel) rfl (Nat.le_of_ble_eq_true rfl) ?_
  intro X hX hQ hN hl
  show WB G X 0 [(0, .ref (G.1 28))] [] s
  unfold fGr_paintAll at h
  refine wb_iconst (v := iI (0)) hX dX1_paintAll_0 rfl (pq := 1) rfl ?_
  refine wb_istore_n (loc' := [(1, .int (iI (0))), (0, .ref (G.1 28))]) hX hN dX1_paintAll_1 (by decide) rfl (pq := 2) rfl ?_
  refine wb_sub [1, 0] (loc' := [(0, .ref (G.1 28)), (1, .int (iI (0)))]) rfl ?_
  exact tGr_paintAll_L2 hX hQ hN 100000 _ _ h
set_option maxHeartbeats 4000000 in
set_option maxRecDepth 100000 in
theorem tGr_isKnot_J37 {G : wG} {X : wX} {k2 : Int32 → Option (Int32)} {x1 : Int32} {x2 : Int32} {s : wM} {r0 : Int32} (hX : wOK G X cX1_isKnot RX1 (some .boolean) 0) (hQ : wRt G X (wQi G r0 s)) (hN : wNl X = 3) (hk2 : ∀ (x2 : Int32), k2 x2 = some r0 → WB G X 2 [(0, .ref (G.1 28)), (1, .int x1), (2, .int x2)] [] s) (h : fGr_isKnot_J37 k2 x1 x2 s = some r0) : WB G X 37 [(0, .ref (G.1 28)), (1, .int x1), (2, .int x2)] [] s := by
  unfold fGr_isKnot_J37 at h
  refine wb_iinc (v := (x2 + iI (1))) (loc' := [(2, .int (x2 + iI (1))), (0, .ref (G.1 28)), (1, .int x1)]) 2 hX hN dX1_isKnot_37 rfl rfl (by decide) rfl (pq := 40) rfl ?_
  refine wb_goto (tgt := 2) hX dX1_isKnot_40 (by decide) ?_
  refine wb_sub [1, 2, 0] (loc' := [(0, .ref (G.1 28)), (1, .int x1), (2, .int (x2 + iI (1)))]) rfl ?_
  exact hk2 _ h
set_option maxHeartbeats 4000000 in
set_option maxRecDepth 100000 in
theorem tGr_isKnot_L2 {G : wG} {X : wX} {x1 : Int32} {s : wM} {r0 : Int32} (hX : wOK G X cX1_isKnot RX1 (some .boolean) 0) (hQ : wRt G X (wQi G r0 s)) (hN : wNl X = 3) : ∀ (n : Nat) (x2 : Int32), wh1 (fGr_isKnot_L2 x1 s) n x2 = some r0 → WB G X 2 [(0, .ref (G.1 28)), (1, .int x1), (2, .int x2)] [] s := by
  intro n
  induction n with
  | zero => intro x2 h; cases h
  | succ n hk2 =>
    intro x2 h
    have h : fGr_isKnot_L2 x1 s x2 (wh1 (fGr_isKnot_L2 x1 s) n) = some r0 := h
    unfold fGr_isKnot_L2 at h
    refine wb_iload_n 2 hX dX1_isKnot_2 rfl (pq := 3) rfl ?_
    refine wb_aload_n 0 hX dX1_isKnot_3 rfl (pq := 4) rfl ?_
    refine wb_getI hX fl_241 sh_28 rfl dX1_isKnot_4 (pq := 7) rfl ?_
    refine wb_icmp_ge (tgt := 43) hX dX1_isKnot_7 (by decide) (fun c_1 => ?_) (pq := 10) rfl (fun c_1 => ?_)
    · have h := ite_t c_1 h
      refine wb_iconst (v := iI (1)) hX dX1_isKnot_43 rfl (pq := 44) rfl ?_
      exact wb_zretP hX hQ h nar01.2.1 dX1_isKnot_44
    · have h := ite_f c_1 h
      refine wb_iload_n 1 hX dX1_isKnot_10 rfl (pq := 11) rfl ?_
      refine wb_iload_n 2 hX dX1_isKnot_11 rfl (pq := 12) rfl ?_
      refine wb_ishr hX dX1_isKnot_12 (pq := 13) rfl ?_
      refine wb_iconst (v := iI (1)) hX dX1_isKnot_13 rfl (pq := 14) rfl ?_
      refine wb_iand hX dX1_isKnot_14 (pq := 15) rfl ?_
      refine wb_iconst (v := iI (1)) hX dX1_isKnot_15 rfl (pq := 16) rfl ?_
      refine wb_icmp_ne (tgt := 37) hX dX1_isKnot_16 (by decide) (pq := 19) rfl (fun c_2 => ?_) (fun c_2 => ?_)
      · have h := ite_t c_2 h
        refine wb_iload_n 1 hX dX1_isKnot_19 rfl (pq := 20) rfl ?_
        refine wb_aload_n 0 hX dX1_isKnot_20 rfl (pq := 21) rfl ?_
        refine wb_getR hX fl_243 sh_28 rfl dX1_isKnot_21 (pq := 24) rfl ?_
        refine wb_iload_n 2 hX dX1_isKnot_24 rfl (pq := 25) rfl ?_
        obtain ⟨hi_3, h⟩ := chk_some h
        refine wb_iald hX sh_31 hi_3 dX1_isKnot_25 (pq := 26) rfl ?_
        refine wb_iconst (v := iI (-1)) hX dX1_isKnot_26 rfl (pq := 27) rfl ?_
        refine wb_ixor hX dX1_isKnot_27 (pq := 28) rfl ?_
        refine wb_iand hX dX1_isKnot_28 (pq := 29) rfl ?_
        refine wb_iconst (v := iI (1)) hX dX1_isKnot_29 rfl (pq := 30) rfl ?_
        refine wb_iload_n 2 hX dX1_isKnot_30 rfl (pq := 31) rfl ?_
        refine wb_ishl hX dX1_isKnot_31 (pq := 32) rfl ?_
        refine wb_icmp_eq (tgt := 37) hX dX1_isKnot_32 (by decide) (fun c_4 => ?_) (pq := 35) rfl (fun c_4 => ?_)
        · have h := ite_t c_4 h
          exact tGr_isKnot_J37 hX hQ hN hk2 h
        · have h := ite_f c_4 h
          refine wb_iconst (v := iI (0)) hX dX1_isKnot_35 rfl (pq := 36) rfl ?_
          exact wb_zretP hX hQ h nar01.1.1 dX1_isKnot_36
      · have h := ite_f c_2 h
        exact tGr_isKnot_J37 hX hQ hN hk2 h
set_option maxHeartbeats 4000000 in
set_option maxRecDepth 100000 in
theorem tGr_isKnot {l : Launch} {G : wG} {s : wM} {x1 : Int32} {r0 : Int32} (h : fGr_isKnot s x1 = some r0) : wMet l G yX1_isKnot cX1_isKnot 3 (some .boolean) 0 [.ref (G.1 28), .int x1] s (wQi G r0 s) := by
  refine wMet_of (own := RX1) (by decide +kernel) rfl (Nat.le_of_ble_eq_true rfl) ?_
  intro X hX hQ hN hl
  show WB G X 0 [(0, .ref (G.1 28)), (1, .int x1)] [] s
  unfold fGr_isKnot at h
  refine wb_iconst (v := iI (0)) hX dX1_isKnot_0 rfl (pq := 1) rfl ?_
  refine wb_istore_n (loc' := [(2, .int (iI (0))), (0, .ref (G.1 28)), (1, .int x1)]) hX hN dX1_isKnot_1 (by decide) rfl (pq := 2) rfl ?_
  refine wb_sub [1, 2, 0] (loc' := [(0, .ref (G.1 28)), (1, .int x1), (2, .int (iI (0)))]) rfl ?_
  exact tGr_isKnot_L2 hX hQ hN 100000 _ h
set_option maxHeartbeats 4000000 in
set_option maxRecDepth 100000 in
theorem tGr_largestKnot_J35 {G : wG} {X : wX} {k4 : Int32 → Int32 → Option (Int32)} {x1 : Int32} {x2 : Int32} {s : wM} {r0 : Int32} (hX : wOK G X cX1_largestKnot RX1 (some .int) 1) (hQ : wRt G X (wQi G r0 s)) (hN : wNl X = 3) (hk4 : ∀ (x1 : Int32) (x2 : Int32), k4 x1 x2 = some r0 → WB G X 4 [(0, .ref (G.1 28)), (1, .int x1), (2, .int x2)] [] s) (h : fGr_largestKnot_J35 k4 x1 x2 s = some r0) : WB G X 35 [(0, .ref (G.1 28)), (1, .int x1), (2, .int x2)] [] s := by
  unfold fGr_largestKnot_J35 at h
  refine wb_iinc (v := (x2 + iI (1))) (loc' := [(2, .int (x2 + iI (1))), (0, .ref (G.1 28)), (1, .int x1)]) 2 hX hN dX1_largestKnot_35 rfl rfl (by decide) rfl (pq := 38) rfl ?_
  refine wb_goto (tgt := 4) hX dX1_largestKnot_38 (by decide) ?_
  refine wb_sub [1, 2, 0] (loc' := [(0, .ref (G.1 28)), (1, .int x1), (2, .int (x2 + iI (1)))]) rfl ?_
  exact hk4 _ _ h
set_option maxHeartbeats 4000000 in
set_option maxRecDepth 100000 in
theorem tGr_largestKnot_L4 {G : wG} {X : wX} {s : wM} {r0 : Int32} (hX : wOK G X cX1_largestKnot RX1 (some .int) 1) (hQ : wRt G X (wQi G r0 s)) (hN : wNl X = 3) : ∀ (n : Nat) (x1 : Int32) (x2 : Int32), wh2 (fGr_largestKnot_L4 s) n x1 x2 = some r0 → WB G X 4 [(0, .ref (G.1 28)), (1, .int x1), (2, .int x2)] [] s := by
  intro n
  induction n with
  | zero => intro x1 x2 h; cases h
  | succ n hk4 =>
    intro x1 x2 h
    have h : fGr_largestKnot_L4 s x1 x2 (wh2 (fGr_largestKnot_L4 s) n) = some r0 := h
    unfold fGr_largestKnot_L4 at h
    refine wb_iload_n 2 hX dX1_largestKnot_4 rfl (pq := 5) rfl ?_
    refine wb_iconst (v := iI (1)) hX dX1_largestKnot_5 rfl (pq := 6) rfl ?_
    refine wb_aload_n 0 hX dX1_largestKnot_6 rfl (pq := 7) rfl ?_
    refine wb_getI hX fl_241 sh_28 rfl dX1_largestKnot_7 (pq := 10) rfl ?_
    refine wb_ishl hX dX1_largestKnot_10 (pq := 11) rfl ?_
    refine wb_icmp_ge (tgt := 41) hX dX1_largestKnot_11 (by decide) (fun c_1 => ?_) (pq := 14) rfl (fun c_1 => ?_)
    · have h := ite_t c_1 h
      refine wb_iload_n 1 hX dX1_largestKnot_41 rfl (pq := 42) rfl ?_
      exact wb_iretP hX hQ h dX1_largestKnot_42
    · have h := ite_f c_1 h
      refine wb_iload_n 2 hX dX1_largestKnot_14 rfl (pq := 15) rfl ?_
      obtain ⟨q_3, hc_2, h⟩ := bind_s h
      refine wb_callSi (r0 := q_3) (s1 := s) [.int x2] hX ml_810 (tJ_bitCount hc_2) (by decide) rfl rfl (Nat.le_of_ble_eq_true rfl) dX1_largestKnot_15 (pq := 18) rfl ?_
      refine wb_iload_n 1 hX dX1_largestKnot_18 rfl (pq := 19) rfl ?_
      obtain ⟨q_5, hc_4, h⟩ := bind_s h
      refine wb_callSi (r0 := q_5) (s1 := s) [.int x1] hX ml_810 (tJ_bitCount hc_4) (by decide) rfl rfl (Nat.le_of_ble_eq_true rfl) dX1_largestKnot_19 (pq := 22) rfl ?_
      refine wb_icmp_le (tgt := 35) hX dX1_largestKnot_22 (by decide) (fun c_6 => ?_) (pq := 25) rfl (fun c_6 => ?_)
      · have h := ite_t c_6 h
        exact tGr_largestKnot_J35 hX hQ hN hk4 h
      · have h := ite_f c_6 h
        refine wb_aload_n 0 hX dX1_largestKnot_25 rfl (pq := 26) rfl ?_
        refine wb_iload_n 2 hX dX1_largestKnot_26 rfl (pq := 27) rfl ?_
        obtain ⟨q_8, hc_7, h⟩ := bind_s h
        refine wb_callVi (r0 := q_8) (s1 := s) [.int x2] hX sh_28 ml_811 (tGr_isKnot hc_7) (by decide) rfl rfl (Nat.le_of_ble_eq_true rfl) dX1_largestKnot_27 (pq := 30) rfl ?_
        refine wb_if_eq (tgt := 35) hX dX1_largestKnot_30 (by decide) (fun c_9 => ?_) (pq := 33) rfl (fun c_9 => ?_)
        · have h := ite_t c_9 h
          exact tGr_largestKnot_J35 hX hQ hN hk4 h
        · have h := ite_f c_9 h
          refine wb_iload_n 2 hX dX1_largestKnot_33 rfl (pq := 34) rfl ?_
          refine wb_istore_n (loc' := [(1, .int x2), (0, .ref (G.1 28)), (2, .int x2)]) hX hN dX1_largestKnot_34 (by decide) rfl (pq := 35) rfl ?_
          refine wb_sub [1, 0, 2] (loc' := [(0, .ref (G.1 28)), (1, .int x2), (2, .int x2)]) rfl ?_
          exact tGr_largestKnot_J35 hX hQ hN hk4 h
set_option maxHeartbeats 4000000 in
set_option maxRecDepth 100000 in
theorem tGr_largestKnot {l : Launch} {G : wG} {s : wM} {r0 : Int32} (h : fGr_largestKnot s = some r0) : wMet l G yX1_largestKnot cX1_largestKnot 3 (some .int) 1 [.ref (G.1 28)] s (wQi G r0 s) := by
  refine wMet_of (own := RX1) (by decide +kernel) rfl (Nat.le_of_ble_eq_true rfl) ?_
  intro X hX hQ hN hl
  show WB G X 0 [(0, .ref (G.1 28))] [] s
  unfold fGr_largestKnot at h
  refine wb_iconst (v := iI (0)) hX dX1_largestKnot_0 rfl (pq := 1) rfl ?_
  refine wb_istore_n (loc' := [(1, .int (iI (0))), (0, .ref (G.1 28))]) hX hN dX1_largestKnot_1 (by decide) rfl (pq := 2) rfl ?_
  refine wb_iconst (v := iI (1)) hX dX1_largestKnot_2 rfl (pq := 3) rfl ?_
  refine wb_istore_n (loc' := [(2, .int (iI (1))), (1, .int (iI (0))), (0, .ref (G.1 28))]) hX hN dX1_largestKnot_3 (by decide) rfl (pq := 4) rfl ?_
  refine wb_sub [2, 1, 0] (loc' := [(0, .ref (G.1 28)), (1, .int (iI (0))), (2, .int (iI (1)))]) rfl ?_
  exact tGr_largestKnot_L4 hX hQ hN 100000 _ _ h
set_option maxHeartbeats 4000000 in
set_option maxRecDepth 100000 in
theorem tGr_isCover_J33 {G : wG} {X : wX} {k2 : Int32 → Option (Int32)} {x1 : Int32} {x2 : Int32} {s : wM} {r0 : Int32} (hX : wOK G X cX1_isCover RX1 (some .boolean) 0) (hQ : wRt G X (wQi G r0 s)) (hN : wNl X = 3) (hk2 : ∀ (x2 : Int32), k2 x2 = some r0 → WB G X 2 [(0, .ref (G.1 28)), (1, .int x1), (2, .int x2)] [] s) (h : fGr_isCover_J33 k2 x1 x2 s = some r0) : WB G X 33 [(0, .ref (G.1 28)), (1, .int x1), (2, .int x2)] [] s := by
  unfold fGr_isCover_J33 at h
  refine wb_iinc (v := (x2 + iI (1))) (loc' := [(2, .int (x2 + iI (1))), (0, .ref (G.1 28)), (1, .int x1)]) 2 hX hN dX1_isCover_33 rfl rfl (by decide) rfl (pq := 36) rfl ?_
  refine wb_goto (tgt := 2) hX dX1_isCover_36 (by decide) ?_
  refine wb_sub [1, 2, 0] (loc' := [(0, .ref (G.1 28)), (1, .int x1), (2, .int (x2 + iI (1)))]) rfl ?_
  exact hk2 _ h
set_option maxHeartbeats 4000000 in
set_option maxRecDepth 100000 in
theorem tGr_isCover_L2 {G : wG} {X : wX} {x1 : Int32} {s : wM} {r0 : Int32} (hX : wOK G X cX1_isCover RX1 (some .boolean) 0) (hQ : wRt G X (wQi G r0 s)) (hN : wNl X = 3) : ∀ (n : Nat) (x2 : Int32), wh1 (fGr_isCover_L2 x1 s) n x2 = some r0 → WB G X 2 [(0, .ref (G.1 28)), (1, .int x1), (2, .int x2)] [] s := by
  intro n
  induction n with
  | zero => intro x2 h; cases h
  | succ n hk2 =>
    intro x2 h
    have h : fGr_isCover_L2 x1 s x2 (wh1 (fGr_isCover_L2 x1 s) n) = some r0 := h
    unfold fGr_isCover_L2 at h
    refine wb_iload_n 2 hX dX1_isCover_2 rfl (pq := 3) rfl ?_
    refine wb_aload_n 0 hX dX1_isCover_3 rfl (pq := 4) rfl ?_
    refine wb_getI hX fl_241 sh_28 rfl dX1_isCover_4 (pq := 7) rfl ?_
    refine wb_icmp_ge (tgt := 39) hX dX1_isCover_7 (by decide) (fun c_1 => ?_) (pq := 10) rfl (fun c_1 => ?_)
    · have h := ite_t c_1 h
      refine wb_iconst (v := iI (1)) hX dX1_isCover_39 rfl (pq := 40) rfl ?_
      exact wb_zretP hX hQ h nar01.2.1 dX1_isCover_40
    · have h := ite_f c_1 h
      refine wb_iload_n 1 hX dX1_isCover_10 rfl (pq := 11) rfl ?_
      refine wb_iload_n 2 hX dX1_isCover_11 rfl (pq := 12) rfl ?_
      refine wb_ishr hX dX1_isCover_12 (pq := 13) rfl ?_
      refine wb_iconst (v := iI (1)) hX dX1_isCover_13 rfl (pq := 14) rfl ?_
      refine wb_iand hX dX1_isCover_14 (pq := 15) rfl ?_
      refine wb_if_ne (tgt := 33) hX dX1_isCover_15 (by decide) (pq := 18) rfl (fun c_2 => ?_) (fun c_2 => ?_)
      · have h := ite_t c_2 h
        refine wb_aload_n 0 hX dX1_isCover_18 rfl (pq := 19) rfl ?_
        refine wb_getR hX fl_243 sh_28 rfl dX1_isCover_19 (pq := 22) rfl ?_
        refine wb_iload_n 2 hX dX1_isCover_22 rfl (pq := 23) rfl ?_
        obtain ⟨hi_3, h⟩ := chk_some h
        refine wb_iald hX sh_31 hi_3 dX1_isCover_23 (pq := 24) rfl ?_
        refine wb_iload_n 1 hX dX1_isCover_24 rfl (pq := 25) rfl ?_
        refine wb_iconst (v := iI (-1)) hX dX1_isCover_25 rfl (pq := 26) rfl ?_
        refine wb_ixor hX dX1_isCover_26 (pq := 27) rfl ?_
        refine wb_iand hX dX1_isCover_27 (pq := 28) rfl ?_
        refine wb_if_eq (tgt := 33) hX dX1_isCover_28 (by decide) (fun c_4 => ?_) (pq := 31) rfl (fun c_4 => ?_)
        · have h := ite_t c_4 h
          exact tGr_isCover_J33 hX hQ hN hk2 h
        · have h := ite_f c_4 h
          refine wb_iconst (v := iI (0)) hX dX1_isCover_31 rfl (pq := 32) rfl ?_
          exact wb_zretP hX hQ h nar01.1.1 dX1_isCover_32
      · have h := ite_f c_2 h
        exact tGr_isCover_J33 hX hQ hN hk2 h
set_option maxHeartbeats 4000000 in
set_option maxRecDepth 100000 in
theorem tGr_isCover {l : Launch} {G : wG} {s : wM} {x1 : Int32} {r0 : Int32} (h : fGr_isCover s x1 = some r0) : wMet l G yX1_isCover cX1_isCover 3 (some .boolean) 0 [.ref (G.1 28), .int x1] s (wQi G r0 s) := by
  refine wMet_of (own := RX1) (by decide +kernel) rfl (Nat.le_of_ble_eq_true rfl) ?_
  intro X hX hQ hN hl
  show WB G X 0 [(0, .ref (G.1 28)), (1, .int x1)] [] s
  unfold fGr_isCover at h
  refine wb_iconst (v := iI (0)) hX dX1_isCover_0 rfl (pq := 1) rfl ?_
  refine wb_istore_n (loc' := [(2, .int (iI (0))), (0, .ref (G.1 28)), (1, .int x1)]) hX hN dX1_isCover_1 (by decide) rfl (pq := 2) rfl ?_
  refine wb_sub [1, 2, 0] (loc' := [(0, .ref (G.1 28)), (1, .int x1), (2, .int (iI (0)))]) rfl ?_
  exact tGr_isCover_L2 hX hQ hN 100000 _ h
set_option maxHeartbeats 4000000 in
set_option maxRecDepth 100000 in
theorem tGr_smallestCover_J42 {G : wG} {X : wX} {k11 : Int32 → Int32 → Option (Int32)} {x1 : Int32} {x2 : Int32} {s : wM} {r0 : Int32} (hX : wOK G X cX1_smallestCover RX1 (some .int) 1) (hQ : wRt G X (wQi G r0 s)) (hN : wNl X = 3) (hk11 : ∀ (x1 : Int32) (x2 : Int32), k11 x1 x2 = some r0 → WB G X 11 [(0, .ref (G.1 28)), (1, .int x1), (2, .int x2)] [] s) (h : fGr_smallestCover_J42 k11 x1 x2 s = some r0) : WB G X 42 [(0, .ref (G.1 28)), (1, .int x1), (2, .int x2)] [] s := by
  unfold fGr_smallestCover_J42 at h
  refine wb_iinc (v := (x2 + iI (1))) (loc' := [(2, .int (x2 + iI (1))), (0, .ref (G.1 28)), (1, .int x1)]) 2 hX hN dX1_smallestCover_42 rfl rfl (by decide) rfl (pq := 45) rfl ?_
  refine wb_goto (tgt := 11) hX dX1_smallestCover_45 (by decide) ?_
  refine wb_sub [1, 2, 0] (loc' := [(0, .ref (G.1 28)), (1, .int x1), (2, .int (x2 + iI (1)))]) rfl ?_
  exact hk11 _ _ h
set_option maxHeartbeats 4000000 in
set_option maxRecDepth 100000 in
theorem tGr_smallestCover_L11 {G : wG} {X : wX} {s : wM} {r0 : Int32} (hX : wOK G X cX1_smallestCover RX1 (some .int) 1) (hQ : wRt G X (wQi G r0 s)) (hN : wNl X = 3) : ∀ (n : Nat) (x1 : Int32) (x2 : Int32), wh2 (fGr_smallestCover_L11 s) n x1 x2 = some r0 → WB G X 11 [(0, .ref (G.1 28)), (1, .int x1), (2, .int x2)] [] s := by
  intro n
  induction n with
  | zero => intro x1 x2 h; cases h
  | succ n hk11 =>
    intro x1 x2 h
    have h : fGr_smallestCover_L11 s x1 x2 (wh2 (fGr_smallestCover_L11 s) n) = some r0 := h
    unfold fGr_smallestCover_L11 at h
    refine wb_iload_n 2 hX dX1_smallestCover_11 rfl (pq := 12) rfl ?_
    refine wb_iconst (v := iI (1)) hX dX1_smallestCover_12 rfl (pq := 13) rfl ?_
    refine wb_aload_n 0 hX dX1_smallestCover_13 rfl (pq := 14) rfl ?_
    refine wb_getI hX fl_241 sh_28 rfl dX1_smallestCover_14 (pq := 17) rfl ?_
    refine wb_ishl hX dX1_smallestCover_17 (pq := 18) rfl ?_
    refine wb_icmp_ge (tgt := 48) hX dX1_smallestCover_18 (by decide) (fun c_1 => ?_) (pq := 21) rfl (fun c_1 => ?_)
    · have h := ite_t c_1 h
      refine wb_iload_n 1 hX dX1_smallestCover_48 rfl (pq := 49) rfl ?_
      exact wb_iretP hX hQ h dX1_smallestCover_49
    · have h := ite_f c_1 h
      refine wb_iload_n 2 hX dX1_smallestCover_21 rfl (pq := 22) rfl ?_
      obtain ⟨q_3, hc_2, h⟩ := bind_s h
      refine wb_callSi (r0 := q_3) (s1 := s) [.int x2] hX ml_810 (tJ_bitCount hc_2) (by decide) rfl rfl (Nat.le_of_ble_eq_true rfl) dX1_smallestCover_22 (pq := 25) rfl ?_
      refine wb_iload_n 1 hX dX1_smallestCover_25 rfl (pq := 26) rfl ?_
      obtain ⟨q_5, hc_4, h⟩ := bind_s h
      refine wb_callSi (r0 := q_5) (s1 := s) [.int x1] hX ml_810 (tJ_bitCount hc_4) (by decide) rfl rfl (Nat.le_of_ble_eq_true rfl) dX1_smallestCover_26 (pq := 29) rfl ?_
      refine wb_icmp_ge (tgt := 42) hX dX1_smallestCover_29 (by decide) (fun c_6 => ?_) (pq := 32) rfl (fun c_6 => ?_)
      · have h := ite_t c_6 h
        exact tGr_smallestCover_J42 hX hQ hN hk11 h
      · have h := ite_f c_6 h
        refine wb_aload_n 0 hX dX1_smallestCover_32 rfl (pq := 33) rfl ?_
        refine wb_iload_n 2 hX dX1_smallestCover_33 rfl (pq := 34) rfl ?_
        obtain ⟨q_8, hc_7, h⟩ := bind_s h
        refine wb_callVi (r0 := q_8) (s1 := s) [.int x2] hX sh_28 ml_879 (tGr_isCover hc_7) (by decide) rfl rfl (Nat.le_of_ble_eq_true rfl) dX1_smallestCover_34 (pq := 37) rfl ?_
        refine wb_if_eq (tgt := 42) hX dX1_smallestCover_37 (by decide) (fun c_9 => ?_) (pq := 40) rfl (fun c_9 => ?_)
        · have h := ite_t c_9 h
          exact tGr_smallestCover_J42 hX hQ hN hk11 h
        · have h := ite_f c_9 h
          refine wb_iload_n 2 hX dX1_smallestCover_40 rfl (pq := 41) rfl ?_
          refine wb_istore_n (loc' := [(1, .int x2), (0, .ref (G.1 28)), (2, .int x2)]) hX hN dX1_smallestCover_41 (by decide) rfl (pq := 42) rfl ?_
          refine wb_sub [1, 0, 2] (loc' := [(0, .ref (G.1 28)), (1, .int x2), (2, .int x2)]) rfl ?_
          exact tGr_smallestCover_J42 hX hQ hN hk11 h
set_option maxHeartbeats 4000000 in
set_option maxRecDepth 100000 in
theorem tGr_smallestCover {l : Launch} {G : wG} {s : wM} {r0 : Int32} (h : fGr_smallestCover s = some r0) : wMet l G yX1_smallestCover cX1_smallestCover 3 (some .int) 1 [.ref (G.1 28)] s (wQi G r0 s) := by
  refine wMet_of (own := RX1) (by decide +kernel) rfl (Nat.le_of_ble_eq_true rfl) ?_
  intro X hX hQ hN hl
  show WB G X 0 [(0, .ref (G.1 28))] [] s
  unfold fGr_smallestCover at h
  refine wb_iconst (v := iI (1)) hX dX1_smallestCover_0 rfl (pq := 1) rfl ?_
  refine wb_aload_n 0 hX dX1_smallestCover_1 rfl (pq := 2) rfl ?_
  refine wb_getI hX fl_241 sh_28 rfl dX1_smallestCover_2 (pq := 5) rfl ?_
  refine wb_ishl hX dX1_smallestCover_5 (pq := 6) rfl ?_
  refine wb_iconst (v := iI (1)) hX dX1_smallestCover_6 rfl (pq := 7) rfl ?_
  refine wb_isub hX dX1_smallestCover_7 (pq := 8) rfl ?_
  refine wb_istore_n (loc' := [(1, .int ((iShl (iI (1)) (s.1 28 2)) - (iI (1)))), (0, .ref (G.1 28))]) hX hN dX1_smallestCover_8 (by decide) rfl (pq := 9) rfl ?_
  refine wb_iconst (v := iI (0)) hX dX1_smallestCover_9 rfl (pq := 10) rfl ?_
  refine wb_istore_n (loc' := [(2, .int (iI (0))), (1, .int ((iShl (iI (1)) (s.1 28 2)) - (iI (1)))), (0, .ref (G.1 28))]) hX hN dX1_smallestCover_10 (by decide) rfl (pq := 11) rfl ?_
  refine wb_sub [2, 1, 0] (loc' := [(0, .ref (G.1 28)), (1, .int ((iShl (iI (1)) (s.1 28 2)) - (iI (1)))), (2, .int (iI (0)))]) rfl ?_
  exact tGr_smallestCover_L11 hX hQ hN 100000 _ _ h
set_option maxHeartbeats 4000000 in
set_option maxRecDepth 100000 in
theorem tGr_measureAround_J41 {G : wG} {X : wX} {k2 : Int32 → wM → Option (wM)} {x1 : Int32} {x2 : Int32} {x3 : Int32} {s : wM} {s1 : wM} (hX : wOK G X cX1_measureAround RX1 none 0) (hQ : wRt G X (wQv G s1)) (hN : wNl X = 4) (hk2 : ∀ (x3 : Int32) (s : wM), k2 x3 s = some s1 → WB G X 2 [(0, .ref (G.1 28)), (1, .int x1), (2, .int x2), (3, .int x3)] [] s) (h : fGr_measureAround_J41 k2 x1 x2 x3 s = some s1) : WB G X 41 [(0, .ref (G.1 28)), (1, .int x1), (2, .int x2), (3, .int x3)] [] s := by
  unfold fGr_measureAround_J41 at h
  refine wb_iinc (v := (x3 + iI (1))) (loc' := [(3, .int (x3 + iI (1))), (0, .ref (G.1 28)), (1, .int x1), (2, .int x2)]) 3 hX hN dX1_measureAround_41 rfl rfl (by decide) rfl (pq := 44) rfl ?_
  refine wb_goto (tgt := 2) hX dX1_measureAround_44 (by decide) ?_
  refine wb_sub [1, 2, 3, 0] (loc' := [(0, .ref (G.1 28)), (1, .int x1), (2, .int x2), (3, .int (x3 + iI (1)))]) rfl ?_
  exact hk2 _ _ h
set_option maxHeartbeats 4000000 in
set_option maxRecDepth 100000 in
theorem tGr_measureAround_L2 {G : wG} {X : wX} {x1 : Int32} {x2 : Int32} {s1 : wM} (hX : wOK G X cX1_measureAround RX1 none 0) (hQ : wRt G X (wQv G s1)) (hN : wNl X = 4) : ∀ (n : Nat) (x3 : Int32) (s : wM), wh2 (fGr_measureAround_L2 x1 x2) n x3 s = some s1 → WB G X 2 [(0, .ref (G.1 28)), (1, .int x1), (2, .int x2), (3, .int x3)] [] s := by
  intro n
  induction n with
  | zero => intro x3 s h; cases h
  | succ n hk2 =>
    intro x3 s h
    have h : fGr_measureAround_L2 x1 x2 x3 s (wh2 (fGr_measureAround_L2 x1 x2) n) = some s1 := h
    unfold fGr_measureAround_L2 at h
    refine wb_iload_n 3 hX dX1_measureAround_2 rfl (pq := 3) rfl ?_
    refine wb_aload_n 0 hX dX1_measureAround_3 rfl (pq := 4) rfl ?_
    refine wb_getI hX fl_241 sh_28 rfl dX1_measureAround_4 (pq := 7) rfl ?_
    refine wb_icmp_ge (tgt := 47) hX dX1_measureAround_7 (by decide) (fun c_1 => ?_) (pq := 10) rfl (fun c_1 => ?_)
    · have h := ite_t c_1 h
      exact wb_vret hX hQ h dX1_measureAround_47
    · have h := ite_f c_1 h
      refine wb_aload_n 0 hX dX1_measureAround_10 rfl (pq := 11) rfl ?_
      refine wb_getR hX fl_243 sh_28 rfl dX1_measureAround_11 (pq := 14) rfl ?_
      refine wb_iload_n 1 hX dX1_measureAround_14 rfl (pq := 15) rfl ?_
      obtain ⟨hi_2, h⟩ := chk_some h
      refine wb_iald hX sh_31 hi_2 dX1_measureAround_15 (pq := 16) rfl ?_
      refine wb_iload_n 3 hX dX1_measureAround_16 rfl (pq := 17) rfl ?_
      refine wb_ishr hX dX1_measureAround_17 (pq := 18) rfl ?_
      refine wb_iconst (v := iI (1)) hX dX1_measureAround_18 rfl (pq := 19) rfl ?_
      refine wb_iand hX dX1_measureAround_19 (pq := 20) rfl ?_
      refine wb_iconst (v := iI (1)) hX dX1_measureAround_20 rfl (pq := 21) rfl ?_
      refine wb_icmp_ne (tgt := 41) hX dX1_measureAround_21 (by decide) (pq := 24) rfl (fun c_3 => ?_) (fun c_3 => ?_)
      · have h := ite_t c_3 h
        refine wb_aload_n 0 hX dX1_measureAround_24 rfl (pq := 25) rfl ?_
        refine wb_getR hX fl_239 sh_28 rfl dX1_measureAround_25 (pq := 28) rfl ?_
        refine wb_iload_n 3 hX dX1_measureAround_28 rfl (pq := 29) rfl ?_
        obtain ⟨hi_4, h⟩ := chk_some h
        refine wb_iald hX sh_30 hi_4 dX1_measureAround_29 (pq := 30) rfl ?_
        refine wb_iconst (v := iI (-1)) hX dX1_measureAround_30 rfl (pq := 31) rfl ?_
        refine wb_icmp_ne (tgt := 41) hX dX1_measureAround_31 (by decide) (pq := 34) rfl (fun c_5 => ?_) (fun c_5 => ?_)
        · have h := ite_t c_5 h
          refine wb_aload_n 0 hX dX1_measureAround_34 rfl (pq := 35) rfl ?_
          refine wb_getR hX fl_239 sh_28 rfl dX1_measureAround_35 (pq := 38) rfl ?_
          refine wb_iload_n 3 hX dX1_measureAround_38 rfl (pq := 39) rfl ?_
          refine wb_iload_n 2 hX dX1_measureAround_39 rfl (pq := 40) rfl ?_
          refine wb_iast hX sh_30 hi_4 dX1_measureAround_40 (pq := 41) rfl ?_
          refine wb_mem (fun s_6 es_6 => ?_)
          have h := nmM_s h s_6 es_6
          exact tGr_measureAround_J41 hX hQ hN hk2 h
        · have h := ite_f c_5 h
          exact tGr_measureAround_J41 hX hQ hN hk2 h
      · have h := ite_f c_3 h
        exact tGr_measureAround_J41 hX hQ hN hk2 h
set_option maxHeartbeats 4000000 in
set_option maxRecDepth 100000 in
theorem tGr_measureAround {l : Launch} {G : wG} {s : wM} {x1 : Int32} {x2 : Int32} {s1 : wM} (h : fGr_measureAround s x1 x2 = some s1) : wMet l G yX1_measureAround cX1_measureAround 4 none 0 [.ref (G.1 28), .int x1, .int x2] s (wQv G s1) := by
  refine wMet_of (own := RX1) (by decide +kernel) rfl (Nat.le_of_ble_eq_true rfl) ?_
  intro X hX hQ hN hl
  show WB G X 0 [(0, .ref (G.1 28)), (1, .int x1), (2, .int x2)] [] s
  unfold fGr_measureAround at h
  refine wb_iconst (v := iI (0)) hX dX1_measureAround_0 rfl (pq := 1) rfl ?_
  refine wb_istore_n (loc' := [(3, .int (iI (0))), (0, .ref (G.1 28)), (1, .int x1), (2, .int x2)]) hX hN dX1_measureAround_1 (by decide) rfl (pq := 2) rfl ?_
  refine wb_sub [1, 2, 3, 0] (loc' := [(0, .ref (G.1 28)), (1, .int x1), (2, .int x2), (3, .int (iI (0)))]) rfl ?_
  exact tGr_measureAround_L2 hX hQ hN 100000 _ _ h
set_option maxHeartbeats 4000000 in
set_option maxRecDepth 100000 in
theorem tGr_measureTo_J53 {G : wG} {X : wX} {k17 : Int32 → wM → Option (wM)} {k27 : Int32 → wM → Option (wM)} {x2 : Int32} {x3 : Int32} {s : wM} {s1 : wM} (hX : wOK G X cX1_measureTo RX1 none 1) (hQ : wRt G X (wQv G s1)) (hN : wNl X = 4) (hk17 : ∀ (x2 : Int32) (s : wM), k17 x2 s = some s1 → WB G X 17 [(0, .ref (G.1 28)), (2, .int x2)] [] s) (hk27 : ∀ (x3 : Int32) (s : wM), k27 x3 s = some s1 → WB G X 27 [(0, .ref (G.1 28)), (2, .int x2), (3, .int x3)] [] s) (h : fGr_measureTo_J53 k17 k27 x2 x3 s = some s1) : WB G X 53 [(0, .ref (G.1 28)), (2, .int x2), (3, .int x3)] [] s := by
  unfold fGr_measureTo_J53 at h
  refine wb_iinc (v := (x3 + iI (1))) (loc' := [(3, .int (x3 + iI (1))), (0, .ref (G.1 28)), (2, .int x2)]) 2 hX hN dX1_measureTo_53 rfl rfl (by decide) rfl (pq := 56) rfl ?_
  refine wb_goto (tgt := 27) hX dX1_measureTo_56 (by decide) ?_
  refine wb_sub [1, 2, 0] (loc' := [(0, .ref (G.1 28)), (2, .int x2), (3, .int (x3 + iI (1)))]) rfl ?_
  exact hk27 _ _ h
set_option maxHeartbeats 4000000 in
set_option maxRecDepth 100000 in
theorem tGr_measureTo_L27 {G : wG} {X : wX} {k17 : Int32 → wM → Option (wM)} {x2 : Int32} {s1 : wM} (hX : wOK G X cX1_measureTo RX1 none 1) (hQ : wRt G X (wQv G s1)) (hN : wNl X = 4) (hk17 : ∀ (x2 : Int32) (s : wM), k17 x2 s = some s1 → WB G X 17 [(0, .ref (G.1 28)), (2, .int x2)] [] s) : ∀ (n : Nat) (x3 : Int32) (s : wM), wh2 (fGr_measureTo_L27 k17 x2) n x3 s = some s1 → WB G X 27 [(0, .ref (G.1 28)), (2, .int x2), (3, .int x3)] [] s := by
  intro n
  induction n with
  | zero => intro x3 s h; cases h
  | succ n hk27 =>
    intro x3 s h
    have h : fGr_measureTo_L27 k17 x2 x3 s (wh2 (fGr_measureTo_L27 k17 x2) n) = some s1 := h
    unfold fGr_measureTo_L27 at h
    refine wb_iload_n 2 hX dX1_measureTo_27 rfl (pq := 28) rfl ?_
    refine wb_aload_n 0 hX dX1_measureTo_28 rfl (pq := 29) rfl ?_
    refine wb_getI hX fl_241 sh_28 rfl dX1_measureTo_29 (pq := 32) rfl ?_
    refine wb_icmp_ge (tgt := 59) hX dX1_measureTo_32 (by decide) (fun c_1 => ?_) (pq := 35) rfl (fun c_1 => ?_)
    · have h := ite_t c_1 h
      refine wb_iinc (v := (x2 + iI (1))) (loc' := [(2, .int (x2 + iI (1))), (0, .ref (G.1 28)), (3, .int x3)]) 1 hX hN dX1_measureTo_59 rfl rfl (by decide) rfl (pq := 62) rfl ?_
      refine wb_goto (tgt := 17) hX dX1_measureTo_62 (by decide) ?_
      refine wb_sub [1, 0] (loc' := [(0, .ref (G.1 28)), (2, .int (x2 + iI (1)))]) rfl ?_
      exact hk17 _ _ h
    · have h := ite_f c_1 h
      refine wb_aload_n 0 hX dX1_measureTo_35 rfl (pq := 36) rfl ?_
      refine wb_getR hX fl_239 sh_28 rfl dX1_measureTo_36 (pq := 39) rfl ?_
      refine wb_iload_n 2 hX dX1_measureTo_39 rfl (pq := 40) rfl ?_
      obtain ⟨hi_2, h⟩ := chk_some h
      refine wb_iald hX sh_30 hi_2 dX1_measureTo_40 (pq := 41) rfl ?_
      refine wb_iload_n 1 hX dX1_measureTo_41 rfl (pq := 42) rfl ?_
      refine wb_icmp_ne (tgt := 53) hX dX1_measureTo_42 (by decide) (pq := 45) rfl (fun c_3 => ?_) (fun c_3 => ?_)
      · have h := ite_t c_3 h
        refine wb_aload_n 0 hX dX1_measureTo_45 rfl (pq := 46) rfl ?_
        refine wb_iload_n 2 hX dX1_measureTo_46 rfl (pq := 47) rfl ?_
        refine wb_iload_n 1 hX dX1_measureTo_47 rfl (pq := 48) rfl ?_
        refine wb_iconst (v := iI (1)) hX dX1_measureTo_48 rfl (pq := 49) rfl ?_
        refine wb_iadd hX dX1_measureTo_49 (pq := 50) rfl ?_
        obtain ⟨q_5, hc_4, h⟩ := bind_s h
        refine wb_callVv (s1 := q_5) [.int x3, .int (x2 + (iI (1)))] hX sh_28 ml_935 (tGr_measureAround hc_4) (by decide) rfl rfl (Nat.le_of_ble_eq_true rfl) dX1_measureTo_50 (pq := 53) rfl ?_
        exact tGr_measureTo_J53 hX hQ hN hk17 hk27 h
      · have h := ite_f c_3 h
        exact tGr_measureTo_J53 hX hQ hN hk17 hk27 h
set_option maxHeartbeats 4000000 in
set_option maxRecDepth 100000 in
theorem tGr_measureTo_L17 {G : wG} {X : wX} {s1 : wM} (hX : wOK G X cX1_measureTo RX1 none 1) (hQ : wRt G X (wQv G s1)) (hN : wNl X = 4) : ∀ (n : Nat) (x2 : Int32) (s : wM), wh2 (fGr_measureTo_L17) n x2 s = some s1 → WB G X 17 [(0, .ref (G.1 28)), (2, .int x2)] [] s := by
  intro n
  induction n with
  | zero => intro x2 s h; cases h
  | succ n hk17 =>
    intro x2 s h
    have h : fGr_measureTo_L17 x2 s (wh2 (fGr_measureTo_L17) n) = some s1 := h
    unfold fGr_measureTo_L17 at h
    refine wb_iload_n 1 hX dX1_measureTo_17 rfl (pq := 18) rfl ?_
    refine wb_aload_n 0 hX dX1_measureTo_18 rfl (pq := 19) rfl ?_
    refine wb_getI hX fl_241 sh_28 rfl dX1_measureTo_19 (pq := 22) rfl ?_
    refine wb_icmp_ge (tgt := 65) hX dX1_measureTo_22 (by decide) (fun c_1 => ?_) (pq := 25) rfl (fun c_1 => ?_)
    · have h := ite_t c_1 h
      exact wb_vret hX hQ h dX1_measureTo_65
    · have h := ite_f c_1 h
      refine wb_iconst (v := iI (0)) hX dX1_measureTo_25 rfl (pq := 26) rfl ?_
      refine wb_istore_n (loc' := [(3, .int (iI (0))), (0, .ref (G.1 28)), (2, .int x2)]) hX hN dX1_measureTo_26 (by decide) rfl (pq := 27) rfl ?_
      refine wb_sub [1, 2, 0] (loc' := [(0, .ref (G.1 28)), (2, .int x2), (3, .int (iI (0)))]) rfl ?_
      exact tGr_measureTo_L27 hX hQ hN hk17 100000 _ _ h
set_option maxHeartbeats 4000000 in
set_option maxRecDepth 100000 in
theorem tGr_measureTo {l : Launch} {G : wG} {s : wM} {x1 : Int32} {s1 : wM} (h : fGr_measureTo s x1 = some s1) : wMet l G yX1_measureTo cX1_measureTo 4 none 1 [.ref (G.1 28), .int x1] s (wQv G s1) := by
  refine wMet_of (own := RX1) (by decide +kernel) rfl (Nat.le_of_ble_eq_true rfl) ?_
  intro X hX hQ hN hl
  show WB G X 0 [(0, .ref (G.1 28)), (1, .int x1)] [] s
  unfold fGr_measureTo at h
  refine wb_aload_n 0 hX dX1_measureTo_0 rfl (pq := 1) rfl ?_
  refine wb_getR hX fl_239 sh_28 rfl dX1_measureTo_1 (pq := 4) rfl ?_
  refine wb_iconst (v := iI (-1)) hX dX1_measureTo_4 rfl (pq := 5) rfl ?_
  refine wb_callSv [.ref (G.1 30), .int (iI (-1))] hX ml_866 (tFillI sh_30) (by decide) rfl rfl (Nat.le_of_ble_eq_true rfl) dX1_measureTo_5 (pq := 8) rfl ?_
  refine wb_mem (fun s_1 es_1 => ?_)
  have h := nmM_s h s_1 es_1
  refine wb_aload_n 0 hX dX1_measureTo_8 rfl (pq := 9) rfl ?_
  refine wb_getR hX fl_239 sh_28 rfl dX1_measureTo_9 (pq := 12) rfl ?_
  refine wb_iload_n 1 hX dX1_measureTo_12 rfl (pq := 13) rfl ?_
  refine wb_iconst (v := iI (0)) hX dX1_measureTo_13 rfl (pq := 14) rfl ?_
  obtain ⟨hi_2, h⟩ := chk_some h
  refine wb_iast hX sh_30 hi_2 dX1_measureTo_14 (pq := 15) rfl ?_
  refine wb_mem (fun s_3 es_3 => ?_)
  have h := nmM_s h s_3 es_3
  refine wb_iconst (v := iI (0)) hX dX1_measureTo_15 rfl (pq := 16) rfl ?_
  refine wb_istore_n (loc' := [(2, .int (iI (0))), (0, .ref (G.1 28)), (1, .int x1)]) hX hN dX1_measureTo_16 (by decide) rfl (pq := 17) rfl ?_
  refine wb_sub [1, 0] (loc' := [(0, .ref (G.1 28)), (2, .int (iI (0)))]) rfl ?_
  exact tGr_measureTo_L17 hX hQ hN 100000 _ _ h
set_option maxHeartbeats 4000000 in
set_option maxRecDepth 100000 in
theorem tGr_nearer_J36 {G : wG} {X : wX} {k2 : Int32 → Option (Int32)} {x1 : Int32} {x2 : Int32} {x3 : Int32} {s : wM} {r0 : Int32} (hX : wOK G X cX1_nearer RX1 (some .int) 0) (hQ : wRt G X (wQi G r0 s)) (hN : wNl X = 4) (hk2 : ∀ (x3 : Int32), k2 x3 = some r0 → WB G X 2 [(0, .ref (G.1 28)), (1, .int x1), (2, .int x2), (3, .int x3)] [] s) (h : fGr_nearer_J36 k2 x1 x2 x3 s = some r0) : WB G X 36 [(0, .ref (G.1 28)), (1, .int x1), (2, .int x2), (3, .int x3)] [] s := by
  unfold fGr_nearer_J36 at h
  refine wb_iinc (v := (x3 + iI (1))) (loc' := [(3, .int (x3 + iI (1))), (0, .ref (G.1 28)), (1, .int x1), (2, .int x2)]) 3 hX hN dX1_nearer_36 rfl rfl (by decide) rfl (pq := 39) rfl ?_
  refine wb_goto (tgt := 2) hX dX1_nearer_39 (by decide) ?_
  refine wb_sub [1, 2, 3, 0] (loc' := [(0, .ref (G.1 28)), (1, .int x1), (2, .int x2), (3, .int (x3 + iI (1)))]) rfl ?_
  exact hk2 _ h
set_option maxHeartbeats 4000000 in
set_option maxRecDepth 100000 in
theorem tGr_nearer_L2 {G : wG} {X : wX} {x1 : Int32} {x2 : Int32} {s : wM} {r0 : Int32} (hX : wOK G X cX1_nearer RX1 (some .int) 0) (hQ : wRt G X (wQi G r0 s)) (hN : wNl X = 4) : ∀ (n : Nat) (x3 : Int32), wh1 (fGr_nearer_L2 x1 x2 s) n x3 = some r0 → WB G X 2 [(0, .ref (G.1 28)), (1, .int x1), (2, .int x2), (3, .int x3)] [] s := by
  intro n
  induction n with
  | zero => intro x3 h; cases h
  | succ n hk2 =>
    intro x3 h
    have h : fGr_nearer_L2 x1 x2 s x3 (wh1 (fGr_nearer_L2 x1 x2 s) n) = some r0 := h
    unfold fGr_nearer_L2 at h
    refine wb_iload_n 3 hX dX1_nearer_2 rfl (pq := 3) rfl ?_
    refine wb_aload_n 0 hX dX1_nearer_3 rfl (pq := 4) rfl ?_
    refine wb_getI hX fl_241 sh_28 rfl dX1_nearer_4 (pq := 7) rfl ?_
    refine wb_icmp_ge (tgt := 42) hX dX1_nearer_7 (by decide) (fun c_1 => ?_) (pq := 10) rfl (fun c_1 => ?_)
    · have h := ite_t c_1 h
      refine wb_iload_n 1 hX dX1_nearer_42 rfl (pq := 43) rfl ?_
      exact wb_iretP hX hQ h dX1_nearer_43
    · have h := ite_f c_1 h
      refine wb_aload_n 0 hX dX1_nearer_10 rfl (pq := 11) rfl ?_
      refine wb_getR hX fl_243 sh_28 rfl dX1_nearer_11 (pq := 14) rfl ?_
      refine wb_iload_n 1 hX dX1_nearer_14 rfl (pq := 15) rfl ?_
      obtain ⟨hi_2, h⟩ := chk_some h
      refine wb_iald hX sh_31 hi_2 dX1_nearer_15 (pq := 16) rfl ?_
      refine wb_iload_n 3 hX dX1_nearer_16 rfl (pq := 17) rfl ?_
      refine wb_ishr hX dX1_nearer_17 (pq := 18) rfl ?_
      refine wb_iconst (v := iI (1)) hX dX1_nearer_18 rfl (pq := 19) rfl ?_
      refine wb_iand hX dX1_nearer_19 (pq := 20) rfl ?_
      refine wb_iconst (v := iI (1)) hX dX1_nearer_20 rfl (pq := 21) rfl ?_
      refine wb_icmp_ne (tgt := 36) hX dX1_nearer_21 (by decide) (pq := 24) rfl (fun c_3 => ?_) (fun c_3 => ?_)
      · have h := ite_t c_3 h
        refine wb_aload_n 0 hX dX1_nearer_24 rfl (pq := 25) rfl ?_
        refine wb_getR hX fl_239 sh_28 rfl dX1_nearer_25 (pq := 28) rfl ?_
        refine wb_iload_n 3 hX dX1_nearer_28 rfl (pq := 29) rfl ?_
        obtain ⟨hi_4, h⟩ := chk_some h
        refine wb_iald hX sh_30 hi_4 dX1_nearer_29 (pq := 30) rfl ?_
        refine wb_iload_n 2 hX dX1_nearer_30 rfl (pq := 31) rfl ?_
        refine wb_icmp_ne (tgt := 36) hX dX1_nearer_31 (by decide) (pq := 34) rfl (fun c_5 => ?_) (fun c_5 => ?_)
        · have h := ite_t c_5 h
          refine wb_iload_n 3 hX dX1_nearer_34 rfl (pq := 35) rfl ?_
          exact wb_iretP hX hQ h dX1_nearer_35
        · have h := ite_f c_5 h
          exact tGr_nearer_J36 hX hQ hN hk2 h
      · have h := ite_f c_3 h
        exact tGr_nearer_J36 hX hQ hN hk2 h
set_option maxHeartbeats 4000000 in
set_option maxRecDepth 100000 in
theorem tGr_nearer {l : Launch} {G : wG} {s : wM} {x1 : Int32} {x2 : Int32} {r0 : Int32} (h : fGr_nearer s x1 x2 = some r0) : wMet l G yX1_nearer cX1_nearer 4 (some .int) 0 [.ref (G.1 28), .int x1, .int x2] s (wQi G r0 s) := by
  refine wMet_of (own := RX1) (by decide +kernel) rfl (Nat.le_of_ble_eq_true rfl) ?_
  intro X hX hQ hN hl
  show WB G X 0 [(0, .ref (G.1 28)), (1, .int x1), (2, .int x2)] [] s
  unfold fGr_nearer at h
  refine wb_iconst (v := iI (0)) hX dX1_nearer_0 rfl (pq := 1) rfl ?_
  refine wb_istore_n (loc' := [(3, .int (iI (0))), (0, .ref (G.1 28)), (1, .int x1), (2, .int x2)]) hX hN dX1_nearer_1 (by decide) rfl (pq := 2) rfl ?_
  refine wb_sub [1, 2, 3, 0] (loc' := [(0, .ref (G.1 28)), (1, .int x1), (2, .int x2), (3, .int (iI (0)))]) rfl ?_
  exact tGr_nearer_L2 hX hQ hN 100000 _ h
set_option maxHeartbeats 4000000 in
set_option maxRecDepth 100000 in
theorem tLand_has_J17 {G : wG} {X : wX} {v0 : Int32} {s : wM} {r0 : Int32} (hX : wOK G X cX2_has RX2 (some .boolean) 0) (hQ : wRt G X (wQi G r0 s)) (hN : wNl X = 2) (h : fLand_has_J17 v0 s = some r0) : WB G X 17 [] [.int v0] s := by
  unfold fLand_has_J17 at h
  obtain ⟨hz_1, h⟩ := chkZ_some h
  exact wb_zretP hX hQ h hz_1.1 dX2_has_17
set_option maxHeartbeats 4000000 in
set_option maxRecDepth 100000 in
theorem tLand_has_J16 {G : wG} {X : wX} {s : wM} {r0 : Int32} (hX : wOK G X cX2_has RX2 (some .boolean) 0) (hQ : wRt G X (wQi G r0 s)) (hN : wNl X = 2) (h : fLand_has_J16 s = some r0) : WB G X 16 [] [] s := by
  unfold fLand_has_J16 at h
  refine wb_iconst (v := iI (0)) hX dX2_has_16 rfl (pq := 17) rfl ?_
  exact tLand_has_J17 hX hQ hN h
set_option maxHeartbeats 4000000 in
set_option maxRecDepth 100000 in
theorem tLand_has {l : Launch} {G : wG} {s : wM} {x1 : Int32} {r0 : Int32} (h : fLand_has s x1 = some r0) : wMet l G yX2_has cX2_has 2 (some .boolean) 0 [.ref (G.1 7), .int x1] s (wQi G r0 s) := by
  refine wMet_of (own := RX2) (by decide +kernel) rfl (Nat.le_of_ble_eq_true rfl) ?_
  intro X hX hQ hN hl
  show WB G X 0 [(0, .ref (G.1 7)), (1, .int x1)] [] s
  unfold fLand_has at h
  refine wb_iload_n 1 hX dX2_has_0 rfl (pq := 1) rfl ?_
  refine wb_if_lt (tgt := 16) hX dX2_has_1 (by decide) (fun c_1 => ?_) (pq := 4) rfl (fun c_1 => ?_)
  · have h := ite_t c_1 h
    refine wb_sub [] (loc' := []) rfl ?_
    exact tLand_has_J16 hX hQ hN h
  · have h := ite_f c_1 h
    refine wb_iload_n 1 hX dX2_has_4 rfl (pq := 5) rfl ?_
    refine wb_aload_n 0 hX dX2_has_5 rfl (pq := 6) rfl ?_
    refine wb_getI hX fl_104 sh_7 rfl dX2_has_6 (pq := 9) rfl ?_
    refine wb_icmp_ge (tgt := 16) hX dX2_has_9 (by decide) (fun c_2 => ?_) (pq := 12) rfl (fun c_2 => ?_)
    · have h := ite_t c_2 h
      refine wb_sub [] (loc' := []) rfl ?_
      exact tLand_has_J16 hX hQ hN h
    · have h := ite_f c_2 h
      refine wb_iconst (v := iI (1)) hX dX2_has_12 rfl (pq := 13) rfl ?_
      refine wb_goto (tgt := 17) hX dX2_has_13 (by decide) ?_
      refine wb_sub [] (loc' := []) rfl ?_
      exact tLand_has_J17 hX hQ hN h
set_option maxHeartbeats 4000000 in
set_option maxRecDepth 100000 in
theorem tLand_hasTwo_J26 {G : wG} {X : wX} {v0 : Int32} {s : wM} {r0 : Int32} (hX : wOK G X cX2_hasTwo RX2 (some .boolean) 1) (hQ : wRt G X (wQi G r0 s)) (hN : wNl X = 3) (h : fLand_hasTwo_J26 v0 s = some r0) : WB G X 26 [] [.int v0] s := by
  unfold fLand_hasTwo_J26 at h
  obtain ⟨hz_1, h⟩ := chkZ_some h
  exact wb_zretP hX hQ h hz_1.1 dX2_hasTwo_26
set_option maxHeartbeats 4000000 in
set_option maxRecDepth 100000 in
theorem tLand_hasTwo_J25 {G : wG} {X : wX} {s : wM} {r0 : Int32} (hX : wOK G X cX2_hasTwo RX2 (some .boolean) 1) (hQ : wRt G X (wQi G r0 s)) (hN : wNl X = 3) (h : fLand_hasTwo_J25 s = some r0) : WB G X 25 [] [] s := by
  unfold fLand_hasTwo_J25 at h
  refine wb_iconst (v := iI (0)) hX dX2_hasTwo_25 rfl (pq := 26) rfl ?_
  exact tLand_hasTwo_J26 hX hQ hN h
set_option maxHeartbeats 4000000 in
set_option maxRecDepth 100000 in
theorem tLand_hasTwo {l : Launch} {G : wG} {s : wM} {x1 : Int32} {x2 : Int32} {r0 : Int32} (h : fLand_hasTwo s x1 x2 = some r0) : wMet l G yX2_hasTwo cX2_hasTwo 3 (some .boolean) 1 [.ref (G.1 7), .int x1, .int x2] s (wQi G r0 s) := by
  refine wMet_of (own := RX2) (by decide +kernel) rfl (Nat.le_of_ble_eq_true rfl) ?_
  intro X hX hQ hN hl
  show WB G X 0 [(0, .ref (G.1 7)), (1, .int x1), (2, .int x2)] [] s
  unfold fLand_hasTwo at h
  refine wb_aload_n 0 hX dX2_hasTwo_0 rfl (pq := 1) rfl ?_
  refine wb_iload_n 1 hX dX2_hasTwo_1 rfl (pq := 2) rfl ?_
  obtain ⟨q_2, hc_1, h⟩ := bind_s h
  refine wb_callVi (r0 := q_2) (s1 := s) [.int x1] hX sh_7 ml_455 (tLand_has hc_1) (by decide) rfl rfl (Nat.le_of_ble_eq_true rfl) dX2_hasTwo_2 (pq := 5) rfl ?_
  refine wb_if_eq (tgt := 25) hX dX2_hasTwo_5 (by decide) (fun c_3 => ?_) (pq := 8) rfl (fun c_3 => ?_)
  · have h := ite_t c_3 h
    refine wb_sub [] (loc' := []) rfl ?_
    exact tLand_hasTwo_J25 hX hQ hN h
  · have h := ite_f c_3 h
    refine wb_aload_n 0 hX dX2_hasTwo_8 rfl (pq := 9) rfl ?_
    refine wb_iload_n 2 hX dX2_hasTwo_9 rfl (pq := 10) rfl ?_
    obtain ⟨q_5, hc_4, h⟩ := bind_s h
    refine wb_callVi (r0 := q_5) (s1 := s) [.int x2] hX sh_7 ml_455 (tLand_has hc_4) (by decide) rfl rfl (Nat.le_of_ble_eq_true rfl) dX2_hasTwo_10 (pq := 13) rfl ?_
    refine wb_if_eq (tgt := 25) hX dX2_hasTwo_13 (by decide) (fun c_6 => ?_) (pq := 16) rfl (fun c_6 => ?_)
    · have h := ite_t c_6 h
      refine wb_sub [] (loc' := []) rfl ?_
      exact tLand_hasTwo_J25 hX hQ hN h
    · have h := ite_f c_6 h
      refine wb_iload_n 1 hX dX2_hasTwo_16 rfl (pq := 17) rfl ?_
      refine wb_iload_n 2 hX dX2_hasTwo_17 rfl (pq := 18) rfl ?_
      refine wb_icmp_eq (tgt := 25) hX dX2_hasTwo_18 (by decide) (fun c_7 => ?_) (pq := 21) rfl (fun c_7 => ?_)
      · have h := ite_t c_7 h
        refine wb_sub [] (loc' := []) rfl ?_
        exact tLand_hasTwo_J25 hX hQ hN h
      · have h := ite_f c_7 h
        refine wb_iconst (v := iI (1)) hX dX2_hasTwo_21 rfl (pq := 22) rfl ?_
        refine wb_goto (tgt := 26) hX dX2_hasTwo_22 (by decide) ?_
        refine wb_sub [] (loc' := []) rfl ?_
        exact tLand_hasTwo_J26 hX hQ hN h
set_option maxHeartbeats 4000000 in
set_option maxRecDepth 100000 in
theorem tLand_everyone {l : Launch} {G : wG} {s : wM} {r0 : Int32} (h : fLand_everyone s = some r0) : wMet l G yX2_everyone cX2_everyone 1 (some .int) 0 [.ref (G.1 7)] s (wQi G r0 s) := by
  refine wMet_of (own := RX2) (by decide +kernel) rfl (Nat.le_of_ble_eq_true rfl) ?_
  intro X hX hQ hN hl
  show WB G X 0 [(0, .ref (G.1 7))] [] s
  unfold fLand_everyone at h
  refine wb_iconst (v := iI (1)) hX dX2_everyone_0 rfl (pq := 1) rfl ?_
  refine wb_aload_n 0 hX dX2_everyone_1 rfl (pq := 2) rfl ?_
  refine wb_getI hX fl_104 sh_7 rfl dX2_everyone_2 (pq := 5) rfl ?_
  refine wb_ishl hX dX2_everyone_5 (pq := 6) rfl ?_
  refine wb_iconst (v := iI (1)) hX dX2_everyone_6 rfl (pq := 7) rfl ?_
  refine wb_isub hX dX2_everyone_7 (pq := 8) rfl ?_
  exact wb_iretP hX hQ h dX2_everyone_8
set_option maxHeartbeats 4000000 in
set_option maxRecDepth 100000 in
theorem tLand_hasAll_J16 {G : wG} {X : wX} {v0 : Int32} {s : wM} {r0 : Int32} (hX : wOK G X cX2_hasAll RX2 (some .boolean) 1) (hQ : wRt G X (wQi G r0 s)) (hN : wNl X = 2) (h : fLand_hasAll_J16 v0 s = some r0) : WB G X 16 [] [.int v0] s := by
  unfold fLand_hasAll_J16 at h
  obtain ⟨hz_1, h⟩ := chkZ_some h
  exact wb_zretP hX hQ h hz_1.1 dX2_hasAll_16
set_option maxHeartbeats 4000000 in
set_option maxRecDepth 100000 in
theorem tLand_hasAll {l : Launch} {G : wG} {s : wM} {x1 : Int32} {r0 : Int32} (h : fLand_hasAll s x1 = some r0) : wMet l G yX2_hasAll cX2_hasAll 2 (some .boolean) 1 [.ref (G.1 7), .int x1] s (wQi G r0 s) := by
  refine wMet_of (own := RX2) (by decide +kernel) rfl (Nat.le_of_ble_eq_true rfl) ?_
  intro X hX hQ hN hl
  show WB G X 0 [(0, .ref (G.1 7)), (1, .int x1)] [] s
  unfold fLand_hasAll at h
  refine wb_iload_n 1 hX dX2_hasAll_0 rfl (pq := 1) rfl ?_
  refine wb_aload_n 0 hX dX2_hasAll_1 rfl (pq := 2) rfl ?_
  obtain ⟨q_2, hc_1, h⟩ := bind_s h
  refine wb_callVi (r0 := q_2) (s1 := s) [] hX sh_7 ml_559 (tLand_everyone hc_1) (by decide) rfl rfl (Nat.le_of_ble_eq_true rfl) dX2_hasAll_2 (pq := 5) rfl ?_
  refine wb_iconst (v := iI (-1)) hX dX2_hasAll_5 rfl (pq := 6) rfl ?_
  refine wb_ixor hX dX2_hasAll_6 (pq := 7) rfl ?_
  refine wb_iand hX dX2_hasAll_7 (pq := 8) rfl ?_
  refine wb_if_ne (tgt := 15) hX dX2_hasAll_8 (by decide) (pq := 11) rfl (fun c_3 => ?_) (fun c_3 => ?_)
  · have h := ite_t c_3 h
    refine wb_iconst (v := iI (1)) hX dX2_hasAll_11 rfl (pq := 12) rfl ?_
    refine wb_goto (tgt := 16) hX dX2_hasAll_12 (by decide) ?_
    refine wb_sub [] (loc' := []) rfl ?_
    exact tLand_hasAll_J16 hX hQ hN h
  · have h := ite_f c_3 h
    refine wb_iconst (v := iI (0)) hX dX2_hasAll_15 rfl (pq := 16) rfl ?_
    refine wb_sub [] (loc' := []) rfl ?_
    exact tLand_hasAll_J16 hX hQ hN h
set_option maxHeartbeats 4000000 in
set_option maxRecDepth 100000 in
theorem tLand_settle {l : Launch} {G : wG} {s : wM} {x1 : Int32} {x2 : Int32} {r0 : Int32} {s1 : wM} (h : fLand_settle s x1 x2 = some (r0, s1)) : wMet l G yX2_settle cX2_settle 3 (some .int) 0 [.ref (G.1 7), .int x1, .int x2] s (wQi G r0 s1) := by
  refine wMet_of (own := RX2) (by decide +kernel) rfl (Nat.le_of_ble_eq_true rfl) ?_
  intro X hX hQ hN hl
  show WB G X 0 [(0, .ref (G.1 7)), (1, .int x1), (2, .int x2)] [] s
  unfold fLand_settle at h
  refine wb_aload_n 0 hX dX2_settle_0 rfl (pq := 1) rfl ?_
  refine wb_getI hX fl_104 sh_7 rfl dX2_settle_1 (pq := 4) rfl ?_
  refine wb_bipush (v := iI (9)) hX dX2_settle_4 (by decide) (pq := 6) rfl ?_
  refine wb_icmp_ne (tgt := 11) hX dX2_settle_6 (by decide) (pq := 9) rfl (fun c_1 => ?_) (fun c_1 => ?_)
  · have h := ite_t c_1 h
    refine wb_iconst (v := iI (-1)) hX dX2_settle_9 rfl (pq := 10) rfl ?_
    exact wb_iret hX hQ h dX2_settle_10
  · have h := ite_f c_1 h
    refine wb_aload_n 0 hX dX2_settle_11 rfl (pq := 12) rfl ?_
    refine wb_getR hX fl_88 sh_7 rfl dX2_settle_12 (pq := 15) rfl ?_
    refine wb_aload_n 0 hX dX2_settle_15 rfl (pq := 16) rfl ?_
    refine wb_getI hX fl_104 sh_7 rfl dX2_settle_16 (pq := 19) rfl ?_
    refine wb_iload_n 1 hX dX2_settle_19 rfl (pq := 20) rfl ?_
    obtain ⟨hi_2, h⟩ := chk_some h
    refine wb_iast hX sh_8 hi_2 dX2_settle_20 (pq := 21) rfl ?_
    refine wb_mem (fun s_3 es_3 => ?_)
    have h := nmM_s h s_3 es_3
    refine wb_aload_n 0 hX dX2_settle_21 rfl (pq := 22) rfl ?_
    refine wb_getR hX fl_92 sh_7 rfl dX2_settle_22 (pq := 25) rfl ?_
    refine wb_aload_n 0 hX dX2_settle_25 rfl (pq := 26) rfl ?_
    refine wb_getI hX fl_104 sh_7 rfl dX2_settle_26 (pq := 29) rfl ?_
    refine wb_iload_n 2 hX dX2_settle_29 rfl (pq := 30) rfl ?_
    obtain ⟨hi_4, h⟩ := chk_some h
    refine wb_iast hX sh_9 hi_4 dX2_settle_30 (pq := 31) rfl ?_
    refine wb_mem (fun s_5 es_5 => ?_)
    have h := nmM_s h s_5 es_5
    refine wb_aload_n 0 hX dX2_settle_31 rfl (pq := 32) rfl ?_
    refine wb_dup hX dX2_settle_32 rfl (pq := 33) rfl ?_
    refine wb_getI hX fl_104 sh_7 rfl dX2_settle_33 (pq := 36) rfl ?_
    refine wb_iconst (v := iI (1)) hX dX2_settle_36 rfl (pq := 37) rfl ?_
    refine wb_iadd hX dX2_settle_37 (pq := 38) rfl ?_
    refine wb_putI hX fp_104 sh_7 rfl dX2_settle_38 rfl rfl (pq := 41) rfl ?_
    refine wb_mem (fun s_6 es_6 => ?_)
    have h := nmM_s h s_6 es_6
    refine wb_aload_n 0 hX dX2_settle_41 rfl (pq := 42) rfl ?_
    refine wb_getI hX fl_104 sh_7 rfl dX2_settle_42 (pq := 45) rfl ?_
    refine wb_iconst (v := iI (1)) hX dX2_settle_45 rfl (pq := 46) rfl ?_
    refine wb_isub hX dX2_settle_46 (pq := 47) rfl ?_
    exact wb_iret hX hQ h dX2_settle_47
set_option maxHeartbeats 4000000 in
set_option maxRecDepth 100000 in
theorem tLand_join {l : Launch} {G : wG} {s : wM} {x1 : Int32} {x2 : Int32} {x3 : Int32} {s1 : wM} (h : fLand_join s x1 x2 x3 = some s1) : wMet l G yX2_join cX2_join 4 none 0 [.ref (G.1 7), .int x1, .int x2, .int x3] s (wQv G s1) := by
  refine wMet_of (own := RX2) (by decide +kernel) rfl (Nat.le_of_ble_eq_true rfl) ?_
  intro X hX hQ hN hl
  show WB G X 0 [(0, .ref (G.1 7)), (1, .int x1), (2, .int x2), (3, .int x3)] [] s
  unfold fLand_join at h
  refine wb_aload_n 0 hX dX2_join_0 rfl (pq := 1) rfl ?_
  refine wb_getR hX fl_113 sh_7 rfl dX2_join_1 (pq := 4) rfl ?_
  refine wb_iload_n 1 hX dX2_join_4 rfl (pq := 5) rfl ?_
  refine wb_bipush (v := iI (9)) hX dX2_join_5 (by decide) (pq := 7) rfl ?_
  refine wb_imul hX dX2_join_7 (pq := 8) rfl ?_
  refine wb_iload_n 2 hX dX2_join_8 rfl (pq := 9) rfl ?_
  refine wb_iadd hX dX2_join_9 (pq := 10) rfl ?_
  refine wb_iload_n 3 hX dX2_join_10 rfl (pq := 11) rfl ?_
  obtain ⟨hi_1, h⟩ := chk_some h
  refine wb_iast hX sh_12 hi_1 dX2_join_11 (pq := 12) rfl ?_
  refine wb_mem (fun s_2 es_2 => ?_)
  have h := nmM_s h s_2 es_2
  refine wb_aload_n 0 hX dX2_join_12 rfl (pq := 13) rfl ?_
  refine wb_getR hX fl_113 sh_7 rfl dX2_join_13 (pq := 16) rfl ?_
  refine wb_iload_n 2 hX dX2_join_16 rfl (pq := 17) rfl ?_
  refine wb_bipush (v := iI (9)) hX dX2_join_17 (by decide) (pq := 19) rfl ?_
  refine wb_imul hX dX2_join_19 (pq := 20) rfl ?_
  refine wb_iload_n 1 hX dX2_join_20 rfl (pq := 21) rfl ?_
  refine wb_iadd hX dX2_join_21 (pq := 22) rfl ?_
  refine wb_iload_n 3 hX dX2_join_22 rfl (pq := 23) rfl ?_
  obtain ⟨hi_3, h⟩ := chk_some h
  refine wb_iast hX sh_12 hi_3 dX2_join_23 (pq := 24) rfl ?_
  refine wb_mem (fun s_4 es_4 => ?_)
  have h := nmM_s h s_4 es_4
  exact wb_vret hX hQ h dX2_join_24
set_option maxHeartbeats 4000000 in
set_option maxRecDepth 100000 in
theorem tLand_touchingPairs_L4 {G : wG} {X : wX} {s : wM} {r0 : Int32} (hX : wOK G X cX2_touchingPairs RX2 (some .int) 2) (hQ : wRt G X (wQi G r0 s)) (hN : wNl X = 3) : ∀ (n : Nat) (x1 : Int32) (x2 : Int32), wh2 (fLand_touchingPairs_L4 s) n x1 x2 = some r0 → WB G X 4 [(0, .ref (G.1 7)), (1, .int x1), (2, .int x2)] [] s := by
  intro n
  induction n with
  | zero => intro x1 x2 h; cases h
  | succ n hk4 =>
    intro x1 x2 h
    have h : fLand_touchingPairs_L4 s x1 x2 (wh2 (fLand_touchingPairs_L4 s) n) = some r0 := h
    unfold fLand_touchingPairs_L4 at h
    refine wb_iload_n 2 hX dX2_touchingPairs_4 rfl (pq := 5) rfl ?_
    refine wb_aload_n 0 hX dX2_touchingPairs_5 rfl (pq := 6) rfl ?_
    refine wb_getI hX fl_104 sh_7 rfl dX2_touchingPairs_6 (pq := 9) rfl ?_
    refine wb_icmp_ge (tgt := 29) hX dX2_touchingPairs_9 (by decide) (fun c_1 => ?_) (pq := 12) rfl (fun c_1 => ?_)
    · have h := ite_t c_1 h
      refine wb_iload_n 1 hX dX2_touchingPairs_29 rfl (pq := 30) rfl ?_
      refine wb_iconst (v := iI (2)) hX dX2_touchingPairs_30 rfl (pq := 31) rfl ?_
      refine wb_idiv hX dX2_touchingPairs_31 (by decide) (pq := 32) rfl ?_
      exact wb_iretP hX hQ h dX2_touchingPairs_32
    · have h := ite_f c_1 h
      refine wb_iload_n 1 hX dX2_touchingPairs_12 rfl (pq := 13) rfl ?_
      refine wb_aload_n 0 hX dX2_touchingPairs_13 rfl (pq := 14) rfl ?_
      refine wb_iload_n 2 hX dX2_touchingPairs_14 rfl (pq := 15) rfl ?_
      obtain ⟨q_3, hc_2, h⟩ := bind_s h
      refine wb_callVi (r0 := q_3) (s1 := s) [.int x2] hX sh_7 ml_1028 (tLand_touching hc_2) (by decide) rfl rfl (Nat.le_of_ble_eq_true rfl) dX2_touchingPairs_15 (pq := 18) rfl ?_
      obtain ⟨q_5, hc_4, h⟩ := bind_s h
      refine wb_callSi (r0 := q_5) (s1 := s) [.int q_3] hX ml_744 (tJ_bitCount hc_4) (by decide) rfl rfl (Nat.le_of_ble_eq_true rfl) dX2_touchingPairs_18 (pq := 21) rfl ?_
      refine wb_iadd hX dX2_touchingPairs_21 (pq := 22) rfl ?_
      refine wb_istore_n (loc' := [(1, .int (x1 + q_5)), (0, .ref (G.1 7)), (2, .int x2)]) hX hN dX2_touchingPairs_22 (by decide) rfl (pq := 23) rfl ?_
      refine wb_iinc (v := (x2 + iI (1))) (loc' := [(2, .int (x2 + iI (1))), (1, .int (x1 + q_5)), (0, .ref (G.1 7))]) 2 hX hN dX2_touchingPairs_23 rfl rfl (by decide) rfl (pq := 26) rfl ?_
      refine wb_goto (tgt := 4) hX dX2_touchingPairs_26 (by decide) ?_
      refine wb_sub [2, 1, 0] (loc' := [(0, .ref (G.1 7)), (1, .int (x1 + q_5)), (2, .int (x2 + iI (1)))]) rfl ?_
      exact hk4 _ _ h
set_option maxHeartbeats 4000000 in
set_option maxRecDepth 100000 in
theorem tLand_touchingPairs {l : Launch} {G : wG} {s : wM} {r0 : Int32} (h : fLand_touchingPairs s = some r0) : wMet l G yX2_touchingPairs cX2_touchingPairs 3 (some .int) 2 [.ref (G.1 7)] s (wQi G r0 s) := by
  refine wMet_of (own := RX2) (by decide +kernel) rfl (Nat.le_of_ble_eq_true rfl) ?_
  intro X hX hQ hN hl
  show WB G X 0 [(0, .ref (G.1 7))] [] s
  unfold fLand_touchingPairs at h
  refine wb_iconst (v := iI (0)) hX dX2_touchingPairs_0 rfl (pq := 1) rfl ?_
  refine wb_istore_n (loc' := [(1, .int (iI (0))), (0, .ref (G.1 7))]) hX hN dX2_touchingPairs_1 (by decide) rfl (pq := 2) rfl ?_
  refine wb_iconst (v := iI (0)) hX dX2_touchingPairs_2 rfl (pq := 3) rfl ?_
  refine wb_istore_n (loc' := [(2, .int (iI (0))), (1, .int (iI (0))), (0, .ref (G.1 7))]) hX hN dX2_touchingPairs_3 (by decide) rfl (pq := 4) rfl ?_
  refine wb_sub [2, 1, 0] (loc' := [(0, .ref (G.1 7)), (1, .int (iI (0))), (2, .int (iI (0)))]) rfl ?_
  exact tLand_touchingPairs_L4 hX hQ hN 100000 _ _ h
set_option maxHeartbeats 4000000 in
set_option maxRecDepth 100000 in
theorem tLand_isNear_J20 {G : wG} {X : wX} {v0 : Int32} {s : wM} {r0 : Int32} (hX : wOK G X cX2_isNear RX2 (some .boolean) 0) (hQ : wRt G X (wQi G r0 s)) (hN : wNl X = 3) (h : fLand_isNear_J20 v0 s = some r0) : WB G X 20 [] [.int v0] s := by
  unfold fLand_isNear_J20 at h
  obtain ⟨hz_1, h⟩ := chkZ_some h
  exact wb_zretP hX hQ h hz_1.1 dX2_isNear_20
set_option maxHeartbeats 4000000 in
set_option maxRecDepth 100000 in
theorem tLand_isNear {l : Launch} {G : wG} {s : wM} {x1 : Int32} {x2 : Int32} {r0 : Int32} (h : fLand_isNear s x1 x2 = some r0) : wMet l G yX2_isNear cX2_isNear 3 (some .boolean) 0 [.ref (G.1 7), .int x1, .int x2] s (wQi G r0 s) := by
  refine wMet_of (own := RX2) (by decide +kernel) rfl (Nat.le_of_ble_eq_true rfl) ?_
  intro X hX hQ hN hl
  show WB G X 0 [(0, .ref (G.1 7)), (1, .int x1), (2, .int x2)] [] s
  unfold fLand_isNear at h
  refine wb_iload_n 1 hX dX2_isNear_0 rfl (pq := 1) rfl ?_
  refine wb_iload_n 2 hX dX2_isNear_1 rfl (pq := 2) rfl ?_
  refine wb_isub hX dX2_isNear_2 (pq := 3) rfl ?_
  refine wb_mabs hX k_641 k_587 k_14 k_588 (Nat.le_of_ble_eq_true rfl) dX2_isNear_3 (pq := 6) rfl ?_
  refine wb_aload_n 0 hX dX2_isNear_6 rfl (pq := 7) rfl ?_
  refine wb_getR hX fl_99 sh_7 rfl dX2_isNear_7 (pq := 10) rfl ?_
  refine wb_iconst (v := iI (0)) hX dX2_isNear_10 rfl (pq := 11) rfl ?_
  refine wb_iald hX sh_11 (by unfold vp_in; decide) dX2_isNear_11 (pq := 12) rfl ?_
  refine wb_icmp_ge (tgt := 19) hX dX2_isNear_12 (by decide) (fun c_1 => ?_) (pq := 15) rfl (fun c_1 => ?_)
  · have h := ite_t c_1 h
    refine wb_iconst (v := iI (0)) hX dX2_isNear_19 rfl (pq := 20) rfl ?_
    refine wb_sub [] (loc' := []) rfl ?_
    exact tLand_isNear_J20 hX hQ hN h
  · have h := ite_f c_1 h
    refine wb_iconst (v := iI (1)) hX dX2_isNear_15 rfl (pq := 16) rfl ?_
    refine wb_goto (tgt := 20) hX dX2_isNear_16 (by decide) ?_
    refine wb_sub [] (loc' := []) rfl ?_
    exact tLand_isNear_J20 hX hQ hN h
set_option maxHeartbeats 4000000 in
set_option maxRecDepth 100000 in
theorem tLand_evenWith_J49 {G : wG} {X : wX} {k4 : Int32 → Int32 → Option (Int32)} {x1 : Int32} {x3 : Int32} {v0 : Int32} {v1 : Int32} {s : wM} {r0 : Int32} (hX : wOK G X cX2_evenWith RX2 (some .int) 1) (hQ : wRt G X (wQi G r0 s)) (hN : wNl X = 4) (hk4 : ∀ (x2 : Int32) (x3 : Int32), k4 x2 x3 = some r0 → WB G X 4 [(0, .ref (G.1 7)), (1, .int x1), (2, .int x2), (3, .int x3)] [] s) (h : fLand_evenWith_J49 k4 x1 x3 v0 v1 s = some r0) : WB G X 49 [(0, .ref (G.1 7)), (1, .int x1), (3, .int x3)] [.int v0, .int v1] s := by
  unfold fLand_evenWith_J49 at h
  refine wb_ior hX dX2_evenWith_49 (pq := 50) rfl ?_
  refine wb_istore_n (loc' := [(2, .int (v1 ||| v0)), (0, .ref (G.1 7)), (1, .int x1), (3, .int x3)]) hX hN dX2_evenWith_50 (by decide) rfl (pq := 51) rfl ?_
  refine wb_iinc (v := (x3 + iI (1))) (loc' := [(3, .int (x3 + iI (1))), (2, .int (v1 ||| v0)), (0, .ref (G.1 7)), (1, .int x1)]) 3 hX hN dX2_evenWith_51 rfl rfl (by decide) rfl (pq := 54) rfl ?_
  refine wb_goto (tgt := 4) hX dX2_evenWith_54 (by decide) ?_
  refine wb_sub [2, 3, 1, 0] (loc' := [(0, .ref (G.1 7)), (1, .int x1), (2, .int (v1 ||| v0)), (3, .int (x3 + iI (1)))]) rfl ?_
  exact hk4 _ _ h
set_option maxHeartbeats 4000000 in
set_option maxRecDepth 100000 in
theorem tLand_evenWith_J48 {G : wG} {X : wX} {k4 : Int32 → Int32 → Option (Int32)} {x1 : Int32} {x3 : Int32} {v0 : Int32} {s : wM} {r0 : Int32} (hX : wOK G X cX2_evenWith RX2 (some .int) 1) (hQ : wRt G X (wQi G r0 s)) (hN : wNl X = 4) (hk4 : ∀ (x2 : Int32) (x3 : Int32), k4 x2 x3 = some r0 → WB G X 4 [(0, .ref (G.1 7)), (1, .int x1), (2, .int x2), (3, .int x3)] [] s) (h : fLand_evenWith_J48 k4 x1 x3 v0 s = some r0) : WB G X 48 [(0, .ref (G.1 7)), (1, .int x1), (3, .int x3)] [.int v0] s := by
  unfold fLand_evenWith_J48 at h
  refine wb_iconst (v := iI (0)) hX dX2_evenWith_48 rfl (pq := 49) rfl ?_
  exact tLand_evenWith_J49 hX hQ hN hk4 h
set_option maxHeartbeats 4000000 in
set_option maxRecDepth 100000 in
theorem tLand_evenWith_L4 {G : wG} {X : wX} {x1 : Int32} {s : wM} {r0 : Int32} (hX : wOK G X cX2_evenWith RX2 (some .int) 1) (hQ : wRt G X (wQi G r0 s)) (hN : wNl X = 4) : ∀ (n : Nat) (x2 : Int32) (x3 : Int32), wh2 (fLand_evenWith_L4 x1 s) n x2 x3 = some r0 → WB G X 4 [(0, .ref (G.1 7)), (1, .int x1), (2, .int x2), (3, .int x3)] [] s := by
  intro n
  induction n with
  | zero => intro x2 x3 h; cases h
  | succ n hk4 =>
    intro x2 x3 h
    have h : fLand_evenWith_L4 x1 s x2 x3 (wh2 (fLand_evenWith_L4 x1 s) n) = some r0 := h
    unfold fLand_evenWith_L4 at h
    refine wb_iload_n 3 hX dX2_evenWith_4 rfl (pq := 5) rfl ?_
    refine wb_aload_n 0 hX dX2_evenWith_5 rfl (pq := 6) rfl ?_
    refine wb_getI hX fl_104 sh_7 rfl dX2_evenWith_6 (pq := 9) rfl ?_
    refine wb_icmp_ge (tgt := 57) hX dX2_evenWith_9 (by decide) (fun c_1 => ?_) (pq := 12) rfl (fun c_1 => ?_)
    · have h := ite_t c_1 h
      refine wb_iload_n 2 hX dX2_evenWith_57 rfl (pq := 58) rfl ?_
      exact wb_iretP hX hQ h dX2_evenWith_58
    · have h := ite_f c_1 h
      refine wb_iload_n 2 hX dX2_evenWith_12 rfl (pq := 13) rfl ?_
      refine wb_aload_n 0 hX dX2_evenWith_13 rfl (pq := 14) rfl ?_
      refine wb_iload_n 1 hX dX2_evenWith_14 rfl (pq := 15) rfl ?_
      refine wb_iload_n 3 hX dX2_evenWith_15 rfl (pq := 16) rfl ?_
      obtain ⟨q_3, hc_2, h⟩ := bind_s h
      refine wb_callVi (r0 := q_3) (s1 := s) [.int x1, .int x3] hX sh_7 ml_506 (tLand_between hc_2) (by decide) rfl rfl (Nat.le_of_ble_eq_true rfl) dX2_evenWith_16 (pq := 19) rfl ?_
      refine wb_iconst (v := iI (-1)) hX dX2_evenWith_19 rfl (pq := 20) rfl ?_
      refine wb_icmp_eq (tgt := 48) hX dX2_evenWith_20 (by decide) (fun c_4 => ?_) (pq := 23) rfl (fun c_4 => ?_)
      · have h := ite_t c_4 h
        refine wb_sub [0, 1, 3] (loc' := [(0, .ref (G.1 7)), (1, .int x1), (3, .int x3)]) rfl ?_
        exact tLand_evenWith_J48 hX hQ hN hk4 h
      · have h := ite_f c_4 h
        refine wb_aload_n 0 hX dX2_evenWith_23 rfl (pq := 24) rfl ?_
        refine wb_aload_n 0 hX dX2_evenWith_24 rfl (pq := 25) rfl ?_
        refine wb_getR hX fl_88 sh_7 rfl dX2_evenWith_25 (pq := 28) rfl ?_
        refine wb_iload_n 1 hX dX2_evenWith_28 rfl (pq := 29) rfl ?_
        obtain ⟨hi_5, h⟩ := chk_some h
        refine wb_iald hX sh_8 hi_5 dX2_evenWith_29 (pq := 30) rfl ?_
        refine wb_aload_n 0 hX dX2_evenWith_30 rfl (pq := 31) rfl ?_
        refine wb_getR hX fl_88 sh_7 rfl dX2_evenWith_31 (pq := 34) rfl ?_
        refine wb_iload_n 3 hX dX2_evenWith_34 rfl (pq := 35) rfl ?_
        obtain ⟨hi_6, h⟩ := chk_some h
        refine wb_iald hX sh_8 hi_6 dX2_evenWith_35 (pq := 36) rfl ?_
        obtain ⟨q_8, hc_7, h⟩ := bind_s h
        refine wb_callVi (r0 := q_8) (s1 := s) [.int (s.1 8 x1.toNatClampNeg), .int (s.1 8 x3.toNatClampNeg)] hX sh_7 ml_637 (tLand_isNear hc_7) (by decide) rfl rfl (Nat.le_of_ble_eq_true rfl) dX2_evenWith_36 (pq := 39) rfl ?_
        refine wb_if_eq (tgt := 48) hX dX2_evenWith_39 (by decide) (fun c_9 => ?_) (pq := 42) rfl (fun c_9 => ?_)
        · have h := ite_t c_9 h
          refine wb_sub [0, 1, 3] (loc' := [(0, .ref (G.1 7)), (1, .int x1), (3, .int x3)]) rfl ?_
          exact tLand_evenWith_J48 hX hQ hN hk4 h
        · have h := ite_f c_9 h
          refine wb_iconst (v := iI (1)) hX dX2_evenWith_42 rfl (pq := 43) rfl ?_
          refine wb_iload_n 3 hX dX2_evenWith_43 rfl (pq := 44) rfl ?_
          refine wb_ishl hX dX2_evenWith_44 (pq := 45) rfl ?_
          refine wb_goto (tgt := 49) hX dX2_evenWith_45 (by decide) ?_
          refine wb_sub [0, 1, 3] (loc' := [(0, .ref (G.1 7)), (1, .int x1), (3, .int x3)]) rfl ?_
          exact tLand_evenWith_J49 hX hQ hN hk4 h
set_option maxHeartbeats 4000000 in
set_option maxRecDepth 100000 in
theorem tLand_evenWith {l : Launch} {G : wG} {s : wM} {x1 : Int32} {r0 : Int32} (h : fLand_evenWith s x1 = some r0) : wMet l G yX2_evenWith cX2_evenWith 4 (some .int) 1 [.ref (G.1 7), .int x1] s (wQi G r0 s) := by
  refine wMet_of (own := RX2) (by decide +kernel) rfl (Nat.le_of_ble_eq_true rfl) ?_
  intro X hX hQ hN hl
  show WB G X 0 [(0, .ref (G.1 7)), (1, .int x1)] [] s
  unfold fLand_evenWith at h
  refine wb_iconst (v := iI (0)) hX dX2_evenWith_0 rfl (pq := 1) rfl ?_
  refine wb_istore_n (loc' := [(2, .int (iI (0))), (0, .ref (G.1 7)), (1, .int x1)]) hX hN dX2_evenWith_1 (by decide) rfl (pq := 2) rfl ?_
  refine wb_iconst (v := iI (0)) hX dX2_evenWith_2 rfl (pq := 3) rfl ?_
  refine wb_istore_n (loc' := [(3, .int (iI (0))), (2, .int (iI (0))), (0, .ref (G.1 7)), (1, .int x1)]) hX hN dX2_evenWith_3 (by decide) rfl (pq := 4) rfl ?_
  refine wb_sub [2, 3, 1, 0] (loc' := [(0, .ref (G.1 7)), (1, .int x1), (2, .int (iI (0))), (3, .int (iI (0)))]) rfl ?_
  exact tLand_evenWith_L4 hX hQ hN 100000 _ _ h
set_option maxHeartbeats 4000000 in
set_option maxRecDepth 100000 in
theorem tLand_isFree_J35 {G : wG} {X : wX} {k2 : Int32 → Option (Int32)} {x1 : Int32} {x2 : Int32} {x3 : Int32} {s : wM} {r0 : Int32} (hX : wOK G X cX2_isFree RX2 (some .boolean) 1) (hQ : wRt G X (wQi G r0 s)) (hN : wNl X = 4) (hk2 : ∀ (x3 : Int32), k2 x3 = some r0 → WB G X 2 [(0, .ref (G.1 7)), (1, .int x1), (2, .int x2), (3, .int x3)] [] s) (h : fLand_isFree_J35 k2 x1 x2 x3 s = some r0) : WB G X 35 [(0, .ref (G.1 7)), (1, .int x1), (2, .int x2), (3, .int x3)] [] s := by
  unfold fLand_isFree_J35 at h
  refine wb_iinc (v := (x3 + iI (1))) (loc' := [(3, .int (x3 + iI (1))), (0, .ref (G.1 7)), (1, .int x1), (2, .int x2)]) 3 hX hN dX2_isFree_35 rfl rfl (by decide) rfl (pq := 38) rfl ?_
  refine wb_goto (tgt := 2) hX dX2_isFree_38 (by decide) ?_
  refine wb_sub [1, 2, 3, 0] (loc' := [(0, .ref (G.1 7)), (1, .int x1), (2, .int x2), (3, .int (x3 + iI (1)))]) rfl ?_
  exact hk2 _ h
set_option maxHeartbeats 4000000 in
set_option maxRecDepth 100000 in
theorem tLand_isFree_L2 {G : wG} {X : wX} {x1 : Int32} {x2 : Int32} {s : wM} {r0 : Int32} (hX : wOK G X cX2_isFree RX2 (some .boolean) 1) (hQ : wRt G X (wQi G r0 s)) (hN : wNl X = 4) : ∀ (n : Nat) (x3 : Int32), wh1 (fLand_isFree_L2 x1 x2 s) n x3 = some r0 → WB G X 2 [(0, .ref (G.1 7)), (1, .int x1), (2, .int x2), (3, .int x3)] [] s := by
  intro n
  induction n with
  | zero => intro x3 h; cases h
  | succ n hk2 =>
    intro x3 h
    have h : fLand_isFree_L2 x1 x2 s x3 (wh1 (fLand_isFree_L2 x1 x2 s) n) = some r0 := h
    unfold fLand_isFree_L2 at h
    refine wb_iload_n 3 hX dX2_isFree_2 rfl (pq := 3) rfl ?_
    refine wb_aload_n 0 hX dX2_isFree_3 rfl (pq := 4) rfl ?_
    refine wb_getI hX fl_104 sh_7 rfl dX2_isFree_4 (pq := 7) rfl ?_
    refine wb_icmp_ge (tgt := 41) hX dX2_isFree_7 (by decide) (fun c_1 => ?_) (pq := 10) rfl (fun c_1 => ?_)
    · have h := ite_t c_1 h
      refine wb_iconst (v := iI (1)) hX dX2_isFree_41 rfl (pq := 42) rfl ?_
      exact wb_zretP hX hQ h nar01.2.1 dX2_isFree_42
    · have h := ite_f c_1 h
      refine wb_iload_n 2 hX dX2_isFree_10 rfl (pq := 11) rfl ?_
      refine wb_iload_n 3 hX dX2_isFree_11 rfl (pq := 12) rfl ?_
      refine wb_ishr hX dX2_isFree_12 (pq := 13) rfl ?_
      refine wb_iconst (v := iI (1)) hX dX2_isFree_13 rfl (pq := 14) rfl ?_
      refine wb_iand hX dX2_isFree_14 (pq := 15) rfl ?_
      refine wb_iconst (v := iI (1)) hX dX2_isFree_15 rfl (pq := 16) rfl ?_
      refine wb_icmp_ne (tgt := 35) hX dX2_isFree_16 (by decide) (pq := 19) rfl (fun c_2 => ?_) (fun c_2 => ?_)
      · have h := ite_t c_2 h
        refine wb_aload_n 0 hX dX2_isFree_19 rfl (pq := 20) rfl ?_
        refine wb_iload_n 1 hX dX2_isFree_20 rfl (pq := 21) rfl ?_
        refine wb_aload_n 0 hX dX2_isFree_21 rfl (pq := 22) rfl ?_
        refine wb_getR hX fl_88 sh_7 rfl dX2_isFree_22 (pq := 25) rfl ?_
        refine wb_iload_n 3 hX dX2_isFree_25 rfl (pq := 26) rfl ?_
        obtain ⟨hi_3, h⟩ := chk_some h
        refine wb_iald hX sh_8 hi_3 dX2_isFree_26 (pq := 27) rfl ?_
        obtain ⟨q_5, hc_4, h⟩ := bind_s h
        refine wb_callVi (r0 := q_5) (s1 := s) [.int x1, .int (s.1 8 x3.toNatClampNeg)] hX sh_7 ml_637 (tLand_isNear hc_4) (by decide) rfl rfl (Nat.le_of_ble_eq_true rfl) dX2_isFree_27 (pq := 30) rfl ?_
        refine wb_if_eq (tgt := 35) hX dX2_isFree_30 (by decide) (fun c_6 => ?_) (pq := 33) rfl (fun c_6 => ?_)
        · have h := ite_t c_6 h
          exact tLand_isFree_J35 hX hQ hN hk2 h
        · have h := ite_f c_6 h
          refine wb_iconst (v := iI (0)) hX dX2_isFree_33 rfl (pq := 34) rfl ?_
          exact wb_zretP hX hQ h nar01.1.1 dX2_isFree_34
      · have h := ite_f c_2 h
        exact tLand_isFree_J35 hX hQ hN hk2 h
set_option maxHeartbeats 4000000 in
set_option maxRecDepth 100000 in
theorem tLand_isFree {l : Launch} {G : wG} {s : wM} {x1 : Int32} {x2 : Int32} {r0 : Int32} (h : fLand_isFree s x1 x2 = some r0) : wMet l G yX2_isFree cX2_isFree 4 (some .boolean) 1 [.ref (G.1 7), .int x1, .int x2] s (wQi G r0 s) := by
  refine wMet_of (own := RX2) (by decide +kernel) rfl (Nat.le_of_ble_eq_true rfl) ?_
  intro X hX hQ hN hl
  show WB G X 0 [(0, .ref (G.1 7)), (1, .int x1), (2, .int x2)] [] s
  unfold fLand_isFree at h
  refine wb_iconst (v := iI (0)) hX dX2_isFree_0 rfl (pq := 1) rfl ?_
  refine wb_istore_n (loc' := [(3, .int (iI (0))), (0, .ref (G.1 7)), (1, .int x1), (2, .int x2)]) hX hN dX2_isFree_1 (by decide) rfl (pq := 2) rfl ?_
  refine wb_sub [1, 2, 3, 0] (loc' := [(0, .ref (G.1 7)), (1, .int x1), (2, .int x2), (3, .int (iI (0)))]) rfl ?_
  exact tLand_isFree_L2 hX hQ hN 100000 _ h
set_option maxHeartbeats 4000000 in
set_option maxRecDepth 100000 in
theorem tLand_canCarry_J57 {G : wG} {X : wX} {v0 : Int32} {s : wM} {r0 : Int32} (hX : wOK G X cX2_canCarry RX2 (some .boolean) 2) (hQ : wRt G X (wQi G r0 s)) (hN : wNl X = 3) (h : fLand_canCarry_J57 v0 s = some r0) : WB G X 57 [] [.int v0] s := by
  unfold fLand_canCarry_J57 at h
  obtain ⟨hz_1, h⟩ := chkZ_some h
  exact wb_zretP hX hQ h hz_1.1 dX2_canCarry_57
set_option maxHeartbeats 4000000 in
set_option maxRecDepth 100000 in
theorem tLand_canCarry_J56 {G : wG} {X : wX} {s : wM} {r0 : Int32} (hX : wOK G X cX2_canCarry RX2 (some .boolean) 2) (hQ : wRt G X (wQi G r0 s)) (hN : wNl X = 3) (h : fLand_canCarry_J56 s = some r0) : WB G X 56 [] [] s := by
  unfold fLand_canCarry_J56 at h
  refine wb_iconst (v := iI (0)) hX dX2_canCarry_56 rfl (pq := 57) rfl ?_
  exact tLand_canCarry_J57 hX hQ hN h
set_option maxHeartbeats 4000000 in
set_option maxRecDepth 100000 in
theorem tLand_canCarry {l : Launch} {G : wG} {s : wM} {x1 : Int32} {x2 : Int32} {r0 : Int32} (h : fLand_canCarry s x1 x2 = some r0) : wMet l G yX2_canCarry cX2_canCarry 3 (some .boolean) 2 [.ref (G.1 7), .int x1, .int x2] s (wQi G r0 s) := by
  refine wMet_of (own := RX2) (by decide +kernel) rfl (Nat.le_of_ble_eq_true rfl) ?_
  intro X hX hQ hN hl
  show WB G X 0 [(0, .ref (G.1 7)), (1, .int x1), (2, .int x2)] [] s
  unfold fLand_canCarry at h
  refine wb_aload_n 0 hX dX2_canCarry_0 rfl (pq := 1) rfl ?_
  refine wb_iload_n 1 hX dX2_canCarry_1 rfl (pq := 2) rfl ?_
  refine wb_iload_n 2 hX dX2_canCarry_2 rfl (pq := 3) rfl ?_
  obtain ⟨q_2, hc_1, h⟩ := bind_s h
  refine wb_callVi (r0 := q_2) (s1 := s) [.int x1, .int x2] hX sh_7 ml_505 (tLand_hasTwo hc_1) (by decide) rfl rfl (Nat.le_of_ble_eq_true rfl) dX2_canCarry_3 (pq := 6) rfl ?_
  refine wb_if_eq (tgt := 56) hX dX2_canCarry_6 (by decide) (fun c_3 => ?_) (pq := 9) rfl (fun c_3 => ?_)
  · have h := ite_t c_3 h
    refine wb_sub [] (loc' := []) rfl ?_
    exact tLand_canCarry_J56 hX hQ hN h
  · have h := ite_f c_3 h
    refine wb_aload_n 0 hX dX2_canCarry_9 rfl (pq := 10) rfl ?_
    refine wb_iload_n 1 hX dX2_canCarry_10 rfl (pq := 11) rfl ?_
    refine wb_iload_n 2 hX dX2_canCarry_11 rfl (pq := 12) rfl ?_
    obtain ⟨q_5, hc_4, h⟩ := bind_s h
    refine wb_callVi (r0 := q_5) (s1 := s) [.int x1, .int x2] hX sh_7 ml_506 (tLand_between hc_4) (by decide) rfl rfl (Nat.le_of_ble_eq_true rfl) dX2_canCarry_12 (pq := 15) rfl ?_
    refine wb_iconst (v := iI (-1)) hX dX2_canCarry_15 rfl (pq := 16) rfl ?_
    refine wb_icmp_eq (tgt := 56) hX dX2_canCarry_16 (by decide) (fun c_6 => ?_) (pq := 19) rfl (fun c_6 => ?_)
    · have h := ite_t c_6 h
      refine wb_sub [] (loc' := []) rfl ?_
      exact tLand_canCarry_J56 hX hQ hN h
    · have h := ite_f c_6 h
      refine wb_aload_n 0 hX dX2_canCarry_19 rfl (pq := 20) rfl ?_
      refine wb_getR hX fl_88 sh_7 rfl dX2_canCarry_20 (pq := 23) rfl ?_
      refine wb_iload_n 1 hX dX2_canCarry_23 rfl (pq := 24) rfl ?_
      obtain ⟨hi_7, h⟩ := chk_some h
      refine wb_iald hX sh_8 hi_7 dX2_canCarry_24 (pq := 25) rfl ?_
      refine wb_aload_n 0 hX dX2_canCarry_25 rfl (pq := 26) rfl ?_
      refine wb_getR hX fl_99 sh_7 rfl dX2_canCarry_26 (pq := 29) rfl ?_
      refine wb_iconst (v := iI (2)) hX dX2_canCarry_29 rfl (pq := 30) rfl ?_
      refine wb_iald hX sh_11 (by unfold vp_in; decide) dX2_canCarry_30 (pq := 31) rfl ?_
      refine wb_icmp_lt (tgt := 56) hX dX2_canCarry_31 (by decide) (fun c_8 => ?_) (pq := 34) rfl (fun c_8 => ?_)
      · have h := ite_t c_8 h
        refine wb_sub [] (loc' := []) rfl ?_
        exact tLand_canCarry_J56 hX hQ hN h
      · have h := ite_f c_8 h
        refine wb_aload_n 0 hX dX2_canCarry_34 rfl (pq := 35) rfl ?_
        refine wb_getR hX fl_88 sh_7 rfl dX2_canCarry_35 (pq := 38) rfl ?_
        refine wb_iload_n 2 hX dX2_canCarry_38 rfl (pq := 39) rfl ?_
        obtain ⟨hi_9, h⟩ := chk_some h
        refine wb_iald hX sh_8 hi_9 dX2_canCarry_39 (pq := 40) rfl ?_
        refine wb_bipush (v := iI (99)) hX dX2_canCarry_40 (by decide) (pq := 42) rfl ?_
        refine wb_aload_n 0 hX dX2_canCarry_42 rfl (pq := 43) rfl ?_
        refine wb_getR hX fl_99 sh_7 rfl dX2_canCarry_43 (pq := 46) rfl ?_
        refine wb_iconst (v := iI (2)) hX dX2_canCarry_46 rfl (pq := 47) rfl ?_
        refine wb_iald hX sh_11 (by unfold vp_in; decide) dX2_canCarry_47 (pq := 48) rfl ?_
        refine wb_isub hX dX2_canCarry_48 (pq := 49) rfl ?_
        refine wb_icmp_gt (tgt := 56) hX dX2_canCarry_49 (by decide) (fun c_10 => ?_) (pq := 52) rfl (fun c_10 => ?_)
        · have h := ite_t c_10 h
          refine wb_sub [] (loc' := []) rfl ?_
          exact tLand_canCarry_J56 hX hQ hN h
        · have h := ite_f c_10 h
          refine wb_iconst (v := iI (1)) hX dX2_canCarry_52 rfl (pq := 53) rfl ?_
          refine wb_goto (tgt := 57) hX dX2_canCarry_53 (by decide) ?_
          refine wb_sub [] (loc' := []) rfl ?_
          exact tLand_canCarry_J57 hX hQ hN h
set_option maxHeartbeats 4000000 in
set_option maxRecDepth 100000 in
theorem tLand_bring {l : Launch} {G : wG} {s : wM} {x1 : Int32} {x2 : Int32} {s1 : wM} (h : fLand_bring s x1 x2 = some s1) : wMet l G yX2_bring cX2_bring 3 none 0 [.ref (G.1 7), .int x1, .int x2] s (wQv G s1) := by
  refine wMet_of (own := RX2) (by decide +kernel) rfl (Nat.le_of_ble_eq_true rfl) ?_
  intro X hX hQ hN hl
  show WB G X 0 [(0, .ref (G.1 7)), (1, .int x1), (2, .int x2)] [] s
  unfold fLand_bring at h
  refine wb_aload_n 0 hX dX2_bring_0 rfl (pq := 1) rfl ?_
  refine wb_getR hX fl_88 sh_7 rfl dX2_bring_1 (pq := 4) rfl ?_
  refine wb_iload_n 1 hX dX2_bring_4 rfl (pq := 5) rfl ?_
  refine wb_dup2 hX dX2_bring_5 rfl rfl (pq := 6) rfl ?_
  obtain ⟨hi_1, h⟩ := chk_some h
  refine wb_iald hX sh_8 hi_1 dX2_bring_6 (pq := 7) rfl ?_
  refine wb_aload_n 0 hX dX2_bring_7 rfl (pq := 8) rfl ?_
  refine wb_getR hX fl_99 sh_7 rfl dX2_bring_8 (pq := 11) rfl ?_
  refine wb_iconst (v := iI (2)) hX dX2_bring_11 rfl (pq := 12) rfl ?_
  refine wb_iald hX sh_11 (by unfold vp_in; decide) dX2_bring_12 (pq := 13) rfl ?_
  refine wb_isub hX dX2_bring_13 (pq := 14) rfl ?_
  refine wb_iast hX sh_8 hi_1 dX2_bring_14 (pq := 15) rfl ?_
  refine wb_mem (fun s_2 es_2 => ?_)
  have h := nmM_s h s_2 es_2
  refine wb_aload_n 0 hX dX2_bring_15 rfl (pq := 16) rfl ?_
  refine wb_getR hX fl_88 sh_7 rfl dX2_bring_16 (pq := 19) rfl ?_
  refine wb_iload_n 2 hX dX2_bring_19 rfl (pq := 20) rfl ?_
  refine wb_dup2 hX dX2_bring_20 rfl rfl (pq := 21) rfl ?_
  obtain ⟨hi_3, h⟩ := chk_some h
  refine wb_iald hX sh_8 hi_3 dX2_bring_21 (pq := 22) rfl ?_
  refine wb_aload_n 0 hX dX2_bring_22 rfl (pq := 23) rfl ?_
  refine wb_getR hX fl_99 sh_7 rfl dX2_bring_23 (pq := 26) rfl ?_
  refine wb_iconst (v := iI (2)) hX dX2_bring_26 rfl (pq := 27) rfl ?_
  refine wb_iald hX sh_11 (by unfold vp_in; decide) dX2_bring_27 (pq := 28) rfl ?_
  refine wb_iadd hX dX2_bring_28 (pq := 29) rfl ?_
  refine wb_iast hX sh_8 hi_3 dX2_bring_29 (pq := 30) rfl ?_
  refine wb_mem (fun s_4 es_4 => ?_)
  have h := nmM_s h s_4 es_4
  exact wb_vret hX hQ h dX2_bring_30
set_option maxHeartbeats 4000000 in
set_option maxRecDepth 100000 in
theorem tLand_evensAfter {l : Launch} {G : wG} {s : wM} {x1 : Int32} {x2 : Int32} {r0 : Int32} {s1 : wM} (h : fLand_evensAfter s x1 x2 = some (r0, s1)) : wMet l G yX2_evensAfter cX2_evensAfter 4 (some .int) 2 [.ref (G.1 7), .int x1, .int x2] s (wQi G r0 s1) := by
  refine wMet_of (own := RX2) (by decide +kernel) rfl (Nat.le_of_ble_eq_true rfl) ?_
  intro X hX hQ hN hl
  show WB G X 0 [(0, .ref (G.1 7)), (1, .int x1), (2, .int x2)] [] s
  unfold fLand_evensAfter at h
  refine wb_iload_n 2 hX dX2_evensAfter_0 rfl (pq := 1) rfl ?_
  refine wb_iconst (v := iI (-1)) hX dX2_evensAfter_1 rfl (pq := 2) rfl ?_
  refine wb_icmp_ne (tgt := 14) hX dX2_evensAfter_2 (by decide) (pq := 5) rfl (fun c_1 => ?_) (fun c_1 => ?_)
  · have h := ite_t c_1 h
    refine wb_aload_n 0 hX dX2_evensAfter_5 rfl (pq := 6) rfl ?_
    refine wb_iload_n 1 hX dX2_evensAfter_6 rfl (pq := 7) rfl ?_
    obtain ⟨q_3, hc_2, h⟩ := bind_s h
    refine wb_callVi (r0 := q_3) (s1 := s) [.int x1] hX sh_7 ml_743 (tLand_evenWith hc_2) (by decide) rfl rfl (Nat.le_of_ble_eq_true rfl) dX2_evensAfter_7 (pq := 10) rfl ?_
    obtain ⟨q_5, hc_4, h⟩ := bind_s h
    refine wb_callSi (r0 := q_5) (s1 := s) [.int q_3] hX ml_744 (tJ_bitCount hc_4) (by decide) rfl rfl (Nat.le_of_ble_eq_true rfl) dX2_evensAfter_10 (pq := 13) rfl ?_
    exact wb_iret hX hQ h dX2_evensAfter_13
  · have h := ite_f c_1 h
    refine wb_aload_n 0 hX dX2_evensAfter_14 rfl (pq := 15) rfl ?_
    refine wb_iload_n 1 hX dX2_evensAfter_15 rfl (pq := 16) rfl ?_
    refine wb_iload_n 2 hX dX2_evensAfter_16 rfl (pq := 17) rfl ?_
    obtain ⟨q_7, hc_6, h⟩ := bind_s h
    refine wb_callVv (s1 := q_7) [.int x1, .int x2] hX sh_7 ml_750 (tLand_bring hc_6) (by decide) rfl rfl (Nat.le_of_ble_eq_true rfl) dX2_evensAfter_17 (pq := 20) rfl ?_
    refine wb_aload_n 0 hX dX2_evensAfter_20 rfl (pq := 21) rfl ?_
    refine wb_iload_n 1 hX dX2_evensAfter_21 rfl (pq := 22) rfl ?_
    obtain ⟨q_9, hc_8, h⟩ := bind_s h
    refine wb_callVi (r0 := q_9) (s1 := q_7) [.int x1] hX sh_7 ml_743 (tLand_evenWith hc_8) (by decide) rfl rfl (Nat.le_of_ble_eq_true rfl) dX2_evensAfter_22 (pq := 25) rfl ?_
    obtain ⟨q_11, hc_10, h⟩ := bind_s h
    refine wb_callSi (r0 := q_11) (s1 := q_7) [.int q_9] hX ml_744 (tJ_bitCount hc_10) (by decide) rfl rfl (Nat.le_of_ble_eq_true rfl) dX2_evensAfter_25 (pq := 28) rfl ?_
    refine wb_istore_n (loc' := [(3, .int q_11), (0, .ref (G.1 7)), (1, .int x1), (2, .int x2)]) hX hN dX2_evensAfter_28 (by decide) rfl (pq := 29) rfl ?_
    refine wb_aload_n 1 hX dX2_evensAfter_29 rfl (pq := 30) rfl ?_
    refine wb_iload_n 3 hX dX2_evensAfter_30 rfl (pq := 31) rfl ?_
    refine wb_iload_n 2 hX dX2_evensAfter_31 rfl (pq := 32) rfl ?_
    obtain ⟨q_13, hc_12, h⟩ := bind_s h
    refine wb_callVv (s1 := q_13) [.int x2, .int x1] hX sh_7 ml_750 (tLand_bring hc_12) (by decide) rfl rfl (Nat.le_of_ble_eq_true rfl) dX2_evensAfter_32 (pq := 35) rfl ?_
    refine wb_iload_n 0 hX dX2_evensAfter_35 rfl (pq := 36) rfl ?_
    exact wb_iret hX hQ h dX2_evensAfter_36
set_option maxHeartbeats 4000000 in
set_option maxRecDepth 100000 in
theorem tLand_bestFor_J53 {G : wG} {X : wX} {k12 : Int32 → Int32 → Int32 → wM → Option (Int32 × wM)} {x1 : Int32} {x2 : Int32} {x3 : Int32} {x4 : Int32} {s : wM} {r0 : Int32} {s1 : wM} (hX : wOK G X cX2_bestFor RX2 (some .int) 3) (hQ : wRt G X (wQi G r0 s1)) (hN : wNl X = 5) (hk12 : ∀ (x2 : Int32) (x3 : Int32) (x4 : Int32) (s : wM), k12 x2 x3 x4 s = some (r0, s1) → WB G X 12 [(0, .ref (G.1 7)), (1, .int x1), (2, .int x2), (3, .int x3), (4, .int x4)] [] s) (h : fLand_bestFor_J53 k12 x1 x2 x3 x4 s = some (r0, s1)) : WB G X 53 [(0, .ref (G.1 7)), (1, .int x1), (2, .int x2), (3, .int x3), (4, .int x4)] [] s := by
  unfold fLand_bestFor_J53 at h
  refine wb_iinc (v := (x4 + iI (1))) (loc' := [(4, .int (x4 + iI (1))), (0, .ref (G.1 7)), (1, .int x1), (2, .int x2), (3, .int x3)]) 4 hX hN dX2_bestFor_53 rfl rfl (by decide) rfl (pq := 56) rfl ?_
  refine wb_goto (tgt := 12) hX dX2_bestFor_56 (by decide) ?_
  refine wb_sub [1, 2, 3, 4, 0] (loc' := [(0, .ref (G.1 7)), (1, .int x1), (2, .int x2), (3, .int x3), (4, .int (x4 + iI (1)))]) rfl ?_
  exact hk12 _ _ _ _ h
set_option maxHeartbeats 4000000 in
set_option maxRecDepth 100000 in
theorem tLand_bestFor_L12 {G : wG} {X : wX} {x1 : Int32} {r0 : Int32} {s1 : wM} (hX : wOK G X cX2_bestFor RX2 (some .int) 3) (hQ : wRt G X (wQi G r0 s1)) (hN : wNl X = 5) : ∀ (n : Nat) (x2 : Int32) (x3 : Int32) (x4 : Int32) (s : wM), wh4 (fLand_bestFor_L12 x1) n x2 x3 x4 s = some (r0, s1) → WB G X 12 [(0, .ref (G.1 7)), (1, .int x1), (2, .int x2), (3, .int x3), (4, .int x4)] [] s := by
  intro n
  induction n with
  | zero => intro x2 x3 x4 s h; cases h
  | succ n hk12 =>
    intro x2 x3 x4 s h
    have h : fLand_bestFor_L12 x1 x2 x3 x4 s (wh4 (fLand_bestFor_L12 x1) n) = some (r0, s1) := h
    unfold fLand_bestFor_L12 at h
    refine wb_iload 4 hX dX2_bestFor_12 rfl (pq := 14) rfl ?_
    refine wb_aload_n 0 hX dX2_bestFor_14 rfl (pq := 15) rfl ?_
    refine wb_getI hX fl_104 sh_7 rfl dX2_bestFor_15 (pq := 18) rfl ?_
    refine wb_icmp_ge (tgt := 59) hX dX2_bestFor_18 (by decide) (fun c_1 => ?_) (pq := 21) rfl (fun c_1 => ?_)
    · have h := ite_t c_1 h
      refine wb_iload_n 2 hX dX2_bestFor_59 rfl (pq := 60) rfl ?_
      exact wb_iret hX hQ h dX2_bestFor_60
    · have h := ite_f c_1 h
      refine wb_aload_n 0 hX dX2_bestFor_21 rfl (pq := 22) rfl ?_
      refine wb_iload_n 1 hX dX2_bestFor_22 rfl (pq := 23) rfl ?_
      refine wb_iload 4 hX dX2_bestFor_23 rfl (pq := 25) rfl ?_
      obtain ⟨q_3, hc_2, h⟩ := bind_s h
      refine wb_callVi (r0 := q_3) (s1 := s) [.int x1, .int x4] hX sh_7 ml_751 (tLand_canCarry hc_2) (by decide) rfl rfl (Nat.le_of_ble_eq_true rfl) dX2_bestFor_25 (pq := 28) rfl ?_
      refine wb_if_eq (tgt := 53) hX dX2_bestFor_28 (by decide) (fun c_4 => ?_) (pq := 31) rfl (fun c_4 => ?_)
      · have h := ite_t c_4 h
        exact tLand_bestFor_J53 hX hQ hN hk12 h
      · have h := ite_f c_4 h
        refine wb_aload_n 0 hX dX2_bestFor_31 rfl (pq := 32) rfl ?_
        refine wb_iload_n 1 hX dX2_bestFor_32 rfl (pq := 33) rfl ?_
        refine wb_iload 4 hX dX2_bestFor_33 rfl (pq := 35) rfl ?_
        obtain ⟨q_6, hc_5, h⟩ := bind_s h
        refine wb_callVi (r0 := q_6.1) (s1 := q_6.2) [.int x1, .int x4] hX sh_7 ml_739 (tLand_evensAfter hc_5) (by decide) rfl rfl (Nat.le_of_ble_eq_true rfl) dX2_bestFor_35 (pq := 38) rfl ?_
        refine wb_iload_n 3 hX dX2_bestFor_38 rfl (pq := 39) rfl ?_
        refine wb_icmp_ge (tgt := 53) hX dX2_bestFor_39 (by decide) (fun c_7 => ?_) (pq := 42) rfl (fun c_7 => ?_)
        · have h := ite_t c_7 h
          exact tLand_bestFor_J53 hX hQ hN hk12 h
        · have h := ite_f c_7 h
          refine wb_iload 4 hX dX2_bestFor_42 rfl (pq := 44) rfl ?_
          refine wb_istore_n (loc' := [(2, .int x4), (0, .ref (G.1 7)), (1, .int x1), (3, .int x3), (4, .int x4)]) hX hN dX2_bestFor_44 (by decide) rfl (pq := 45) rfl ?_
          refine wb_aload_n 1 hX dX2_bestFor_45 rfl (pq := 46) rfl ?_
          refine wb_iload_n 2 hX dX2_bestFor_46 rfl (pq := 47) rfl ?_
          refine wb_iload 4 hX dX2_bestFor_47 rfl (pq := 49) rfl ?_
          obtain ⟨q_9, hc_8, h⟩ := bind_s h
          refine wb_callVi (r0 := q_9.1) (s1 := q_9.2) [.int x1, .int x4] hX sh_7 ml_739 (tLand_evensAfter hc_8) (by decide) rfl rfl (Nat.le_of_ble_eq_true rfl) dX2_bestFor_49 (pq := 52) rfl ?_
          refine wb_istore_n (loc' := [(3, .int q_9.1), (2, .int x4), (0, .ref (G.1 7)), (1, .int x1), (4, .int x4)]) hX hN dX2_bestFor_52 (by decide) rfl (pq := 53) rfl ?_
          refine wb_sub [2, 3, 1, 0, 4] (loc' := [(0, .ref (G.1 7)), (1, .int x1), (2, .int x4), (3, .int q_9.1), (4, .int x4)]) rfl ?_
          exact tLand_bestFor_J53 hX hQ hN hk12 h
set_option maxHeartbeats 4000000 in
set_option maxRecDepth 100000 in
theorem tLand_bestFor {l : Launch} {G : wG} {s : wM} {x1 : Int32} {r0 : Int32} {s1 : wM} (h : fLand_bestFor s x1 = some (r0, s1)) : wMet l G yX2_bestFor cX2_bestFor 5 (some .int) 3 [.ref (G.1 7), .int x1] s (wQi G r0 s1) := by
  refine wMet_of (own := RX2) (by decide +kernel) rfl (Nat.le_of_ble_eq_true rfl) ?_
  intro X hX hQ hN hl
  show WB G X 0 [(0, .ref (G.1 7)), (1, .int x1)] [] s
  unfold fLand_bestFor at h
  refine wb_iconst (v := iI (-1)) hX dX2_bestFor_0 rfl (pq := 1) rfl ?_
  refine wb_istore_n (loc' := [(2, .int (iI (-1))), (0, .ref (G.1 7)), (1, .int x1)]) hX hN dX2_bestFor_1 (by decide) rfl (pq := 2) rfl ?_
  refine wb_aload_n 1 hX dX2_bestFor_2 rfl (pq := 3) rfl ?_
  refine wb_iload_n 2 hX dX2_bestFor_3 rfl (pq := 4) rfl ?_
  refine wb_iconst (v := iI (-1)) hX dX2_bestFor_4 rfl (pq := 5) rfl ?_
  obtain ⟨q_2, hc_1, h⟩ := bind_s h
  refine wb_callVi (r0 := q_2.1) (s1 := q_2.2) [.int x1, .int (iI (-1))] hX sh_7 ml_739 (tLand_evensAfter hc_1) (by decide) rfl rfl (Nat.le_of_ble_eq_true rfl) dX2_bestFor_5 (pq := 8) rfl ?_
  refine wb_istore_n (loc' := [(3, .int q_2.1), (2, .int (iI (-1))), (0, .ref (G.1 7)), (1, .int x1)]) hX hN dX2_bestFor_8 (by decide) rfl (pq := 9) rfl ?_
  refine wb_iconst (v := iI (0)) hX dX2_bestFor_9 rfl (pq := 10) rfl ?_
  refine wb_istore (loc' := [(4, .int (iI (0))), (3, .int q_2.1), (2, .int (iI (-1))), (0, .ref (G.1 7)), (1, .int x1)]) hX hN dX2_bestFor_10 (by decide) rfl (pq := 12) rfl ?_
  refine wb_sub [3, 4, 2, 1, 0] (loc' := [(0, .ref (G.1 7)), (1, .int x1), (2, .int (iI (-1))), (3, .int q_2.1), (4, .int (iI (0)))]) rfl ?_
  exact tLand_bestFor_L12 hX hQ hN 100000 _ _ _ _ h
