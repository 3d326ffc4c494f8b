set_option maxHeartbeats 4000000 in
set_option maxRecDepth 100000 in
theorem tW_farm {l : Launch} {G : wG} {s : wM} {x1 : Int32} {x2 : Int32} {o0 : Option Int32} (hl : l.stackTraces = false) (h : fW_farm s x1 x2 = some o0) : wMetX l G yX10_farm cX10_farm 3 (some .int) 6 [.ref (G.1 0), .int x1, .int x2] s o0 := by
  refine wMetX_of (own := RX10) hl (by decide +kernel) rfl (Nat.le_of_ble_eq_true rfl) (by decide) ?_
  intro X hX hO hQ hN
  show WB G X 0 [(0, .ref (G.1 0)), (1, .int x1), (2, .int x2)] [] s
  unfold fW_farm at h
  refine wb_aload_n 0 hX dX10_farm_0 rfl (pq := 1) rfl ?_
  refine wb_getR hX fl_333 sh_0 rfl dX10_farm_1 (pq := 4) rfl ?_
  refine wb_iload_n 1 hX dX10_farm_4 rfl (pq := 5) rfl ?_
  obtain ⟨q_2, hc_1, h⟩ := bind_s h
  refine wb_callVi (r0 := q_2) (s1 := s) [.int x1] hX sh_7 ml_478 (tLand_has hc_1) (by decide) rfl rfl (Nat.le_of_ble_eq_true rfl) dX10_farm_5 (pq := 8) rfl ?_
  refine wb_if_ne (tgt := 21) hX dX10_farm_8 (by decide) (pq := 11) rfl (fun c_3 => ?_) (fun c_3 => ?_)
  · have h := ite_t c_3 h
    exact wb_throw (fun hs => hs.1) hX hO hQ h dX10_farm_11 dX10_farm_14 dX10_farm_15 dX10_farm_17 dX10_farm_20
  · have h := ite_f c_3 h
    refine wb_iload_n 2 hX dX10_farm_21 rfl (pq := 22) rfl ?_
    by_cases c_4 : x2 = iI (0)
    · have h := ite_t c_4 h
      refine wb_tabIn (tgt := 56) (off := 34) hX dX10_farm_22 (by rw [c_4]; decide) (by rw [c_4]; decide) (by rw [c_4]; decide) (by decide) ?_
      refine wb_aload_n 0 hX dX10_farm_56 rfl (pq := 57) rfl ?_
      refine wb_getR hX fl_333 sh_0 rfl dX10_farm_57 (pq := 60) rfl ?_
      refine wb_getR hX fl_91 sh_7 rfl dX10_farm_60 (pq := 63) rfl ?_
      refine wb_iload_n 1 hX dX10_farm_63 rfl (pq := 64) rfl ?_
      obtain ⟨hi_5, h⟩ := chk_some h
      refine wb_iald hX sh_8 hi_5 dX10_farm_64 (pq := 65) rfl ?_
      exact wb_xret hX hO hQ h dX10_farm_65
    · have h := ite_f c_4 h
      by_cases c_6 : x2 = iI (1)
      · have h := ite_t c_6 h
        refine wb_tabIn (tgt := 66) (off := 44) hX dX10_farm_22 (by rw [c_6]; decide) (by rw [c_6]; decide) (by rw [c_6]; decide) (by decide) ?_
        refine wb_aload_n 0 hX dX10_farm_66 rfl (pq := 67) rfl ?_
        refine wb_getR hX fl_333 sh_0 rfl dX10_farm_67 (pq := 70) rfl ?_
        refine wb_getR hX fl_95 sh_7 rfl dX10_farm_70 (pq := 73) rfl ?_
        refine wb_iload_n 1 hX dX10_farm_73 rfl (pq := 74) rfl ?_
        obtain ⟨hi_7, h⟩ := chk_some h
        refine wb_iald hX sh_9 hi_7 dX10_farm_74 (pq := 75) rfl ?_
        exact wb_xret hX hO hQ h dX10_farm_75
      · have h := ite_f c_6 h
        by_cases c_8 : x2 = iI (2)
        · have h := ite_t c_8 h
          refine wb_tabIn (tgt := 76) (off := 54) hX dX10_farm_22 (by rw [c_8]; decide) (by rw [c_8]; decide) (by rw [c_8]; decide) (by decide) ?_
          refine wb_aload_n 0 hX dX10_farm_76 rfl (pq := 77) rfl ?_
          refine wb_getR hX fl_333 sh_0 rfl dX10_farm_77 (pq := 80) rfl ?_
          refine wb_iload_n 1 hX dX10_farm_80 rfl (pq := 81) rfl ?_
          obtain ⟨q_10, hc_9, h⟩ := bind_s h
          refine wb_callVi (r0 := q_10) (s1 := s) [.int x1] hX sh_7 ml_765 (tLand_touching hc_9) (by decide) rfl rfl (Nat.le_of_ble_eq_true rfl) dX10_farm_81 (pq := 84) rfl ?_
          exact wb_xret hX hO hQ h dX10_farm_84
        · have h := ite_f c_8 h
          by_cases c_11 : x2 = iI (3)
          · have h := ite_t c_11 h
            refine wb_tabIn (tgt := 85) (off := 63) hX dX10_farm_22 (by rw [c_11]; decide) (by rw [c_11]; decide) (by rw [c_11]; decide) (by decide) ?_
            refine wb_aload_n 0 hX dX10_farm_85 rfl (pq := 86) rfl ?_
            refine wb_getR hX fl_333 sh_0 rfl dX10_farm_86 (pq := 89) rfl ?_
            refine wb_iload_n 1 hX dX10_farm_89 rfl (pq := 90) rfl ?_
            obtain ⟨q_13, hc_12, h⟩ := bind_s h
            refine wb_callVi (r0 := q_13) (s1 := s) [.int x1] hX sh_7 ml_633 (tLand_evenWith hc_12) (by decide) rfl rfl (Nat.le_of_ble_eq_true rfl) dX10_farm_90 (pq := 93) rfl ?_
            exact wb_xret hX hO hQ h dX10_farm_93
          · have h := ite_f c_11 h
            by_cases c_14 : x2 = iI (4)
            · have h := ite_t c_14 h
              refine wb_tabIn (tgt := 94) (off := 72) hX dX10_farm_22 (by rw [c_14]; decide) (by rw [c_14]; decide) (by rw [c_14]; decide) (by decide) ?_
              refine wb_aload_n 0 hX dX10_farm_94 rfl (pq := 95) rfl ?_
              refine wb_getR hX fl_333 sh_0 rfl dX10_farm_95 (pq := 98) rfl ?_
              refine wb_getR hX fl_98 sh_7 rfl dX10_farm_98 (pq := 101) rfl ?_
              refine wb_iload_n 1 hX dX10_farm_101 rfl (pq := 102) rfl ?_
              obtain ⟨hi_15, h⟩ := chk_some h
              refine wb_iald hX sh_10 hi_15 dX10_farm_102 (pq := 103) rfl ?_
              exact wb_xret hX hO hQ h dX10_farm_103
            · have h := ite_f c_14 h
              have tc_4 := lv_neT (a := 0) c_4 (by decide)
              have tc_6 := lv_neT (a := 1) c_6 (by decide)
              have tc_8 := lv_neT (a := 2) c_8 (by decide)
              have tc_11 := lv_neT (a := 3) c_11 (by decide)
              have tc_14 := lv_neT (a := 4) c_14 (by decide)
              refine wb_tabOut (tgt := 104) hX dX10_farm_22 (by omega) (by decide) ?_
              exact wb_throw (fun hs => hs.2.1) hX hO hQ h dX10_farm_104 dX10_farm_107 dX10_farm_108 dX10_farm_110 dX10_farm_113
set_option maxHeartbeats 4000000 in
set_option maxRecDepth 100000 in
theorem tW_row_J15 {G : wG} {X : wX} {s : wM} {o0 : Option Int32} (hX : wOK G X cX10_row RX10 (some .int) 6) (hO : wOX G X) (hQ : wRtX G X o0 s) (hN : wNl X = 2) (h : fW_row_J15 s = some o0) : WB G X 15 [] [] s := by
  unfold fW_row_J15 at h
  exact wb_throwW (fun hs => hs.2.2.1) hX hO hQ h dX10_row_15 dX10_row_18 dX10_row_19 dX10_row_22 dX10_row_25
set_option maxHeartbeats 4000000 in
set_option maxRecDepth 100000 in
theorem tW_row {l : Launch} {G : wG} {s : wM} {x1 : Int32} {o0 : Option Int32} (hl : l.stackTraces = false) (h : fW_row s x1 = some o0) : wMetX l G yX10_row cX10_row 2 (some .int) 6 [.ref (G.1 0), .int x1] s o0 := by
  refine wMetX_of (own := RX10) hl (by decide +kernel) rfl (Nat.le_of_ble_eq_true rfl) (by decide) ?_
  intro X hX hO hQ hN
  show WB G X 0 [(0, .ref (G.1 0)), (1, .int x1)] [] s
  unfold fW_row at h
  refine wb_iload_n 1 hX dX10_row_0 rfl (pq := 1) rfl ?_
  refine wb_if_lt (tgt := 15) hX dX10_row_1 (by decide) (fun c_1 => ?_) (pq := 4) rfl (fun c_1 => ?_)
  · have h := ite_t c_1 h
    refine wb_sub [] (loc' := []) rfl ?_
    exact tW_row_J15 hX hO hQ hN h
  · have h := ite_f c_1 h
    refine wb_iload_n 1 hX dX10_row_4 rfl (pq := 5) rfl ?_
    refine wb_aload_n 0 hX dX10_row_5 rfl (pq := 6) rfl ?_
    refine wb_getR hX fl_337 sh_0 rfl dX10_row_6 (pq := 9) rfl ?_
    refine wb_getI hX fl_262 sh_32 rfl dX10_row_9 (pq := 12) rfl ?_
    refine wb_icmp_lt (tgt := 26) hX dX10_row_12 (by decide) (fun c_2 => ?_) (pq := 15) rfl (fun c_2 => ?_)
    · have h := ite_t c_2 h
      refine wb_aload_n 0 hX dX10_row_26 rfl (pq := 27) rfl ?_
      refine wb_getR hX fl_337 sh_0 rfl dX10_row_27 (pq := 30) rfl ?_
      refine wb_getR hX fl_260 sh_32 rfl dX10_row_30 (pq := 33) rfl ?_
      refine wb_iload_n 1 hX dX10_row_33 rfl (pq := 34) rfl ?_
      obtain ⟨hi_3, h⟩ := chk_some h
      refine wb_iald hX sh_33 hi_3 dX10_row_34 (pq := 35) rfl ?_
      exact wb_xret hX hO hQ h dX10_row_35
    · have h := ite_f c_2 h
      refine wb_sub [] (loc' := []) rfl ?_
      exact tW_row_J15 hX hO hQ hN h
