set_option maxHeartbeats 4000000 in
set_option maxRecDepth 100000 in
theorem tM_keep_L95 {G : wG} {X : wX} {x2 : Int32} {r0 : Int32} {s1 : wM} (hX : wOK G X cX11_keep RX11 (some .boolean) 1) (hQ : wRt G X (wQi G r0 s1)) (hN : wNl X = 4) : ∀ (n : Nat) (x3 : Int32) (s : wM), wh2 (fM_keep_L95 x2) n x3 s = some (r0, s1) → WB G X 95 [(0, .ref (G.1 161)), (2, .int x2), (3, .int x3)] [] s := by
  intro n
  induction n with
  | zero => intro x3 s h; cases h
  | succ n hk95 =>
    intro x3 s h
    have h : fM_keep_L95 x2 x3 s (wh2 (fM_keep_L95 x2) n) = some (r0, s1) := h
    unfold fM_keep_L95 at h
    refine wb_iload_n 2 hX dX11_keep_95 rfl (pq := 96) rfl ?_
    refine wb_iconst (v := iI (3)) hX dX11_keep_96 rfl (pq := 97) rfl ?_
    refine wb_icmp_ge (tgt := 123) hX dX11_keep_97 (by decide) (fun c_1 => ?_) (pq := 100) rfl (fun c_1 => ?_)
    · have h := ite_t c_1 h
      refine wb_aload_n 0 hX dX11_keep_123 rfl (pq := 124) rfl ?_
      refine wb_getR hX fl_1566 sh_161 rfl dX11_keep_124 (pq := 127) rfl ?_
      refine wb_iload_n 1 hX dX11_keep_127 rfl (pq := 128) rfl ?_
      refine wb_bipush (v := iI (27)) hX dX11_keep_128 (by decide) (pq := 130) rfl ?_
      refine wb_iadd hX dX11_keep_130 (pq := 131) rfl ?_
      refine wb_iconst (v := iI (3)) hX dX11_keep_131 rfl (pq := 132) rfl ?_
      refine wb_iadd hX dX11_keep_132 (pq := 133) rfl ?_
      refine wb_aload_n 0 hX dX11_keep_133 rfl (pq := 134) rfl ?_
      refine wb_getI hX fl_1528 sh_161 rfl dX11_keep_134 (pq := 137) rfl ?_
      obtain ⟨hi_2, h⟩ := chk_some h
      refine wb_iast hX sh_195 hi_2 dX11_keep_137 (pq := 138) rfl ?_
      refine wb_mem (fun s_3 es_3 => ?_)
      have h := nmM_s h s_3 es_3
      refine wb_aload_n 0 hX dX11_keep_138 rfl (pq := 139) rfl ?_
      refine wb_getR hX fl_1566 sh_161 rfl dX11_keep_139 (pq := 142) rfl ?_
      refine wb_iload_n 1 hX dX11_keep_142 rfl (pq := 143) rfl ?_
      refine wb_bipush (v := iI (27)) hX dX11_keep_143 (by decide) (pq := 145) rfl ?_
      refine wb_iadd hX dX11_keep_145 (pq := 146) rfl ?_
      refine wb_iconst (v := iI (4)) hX dX11_keep_146 rfl (pq := 147) rfl ?_
      refine wb_iadd hX dX11_keep_147 (pq := 148) rfl ?_
      refine wb_aload_n 0 hX dX11_keep_148 rfl (pq := 149) rfl ?_
      refine wb_getI hX fl_1521 sh_161 rfl dX11_keep_149 (pq := 152) rfl ?_
      obtain ⟨hi_4, h⟩ := chk_some h
      refine wb_iast hX sh_195 hi_4 dX11_keep_152 (pq := 153) rfl ?_
      refine wb_mem (fun s_5 es_5 => ?_)
      have h := nmM_s h s_5 es_5
      refine wb_iconst (v := iI (1)) hX dX11_keep_153 rfl (pq := 154) rfl ?_
      exact wb_zret hX hQ h nar01.2.1 dX11_keep_154
    · have h := ite_f c_1 h
      refine wb_aload_n 0 hX dX11_keep_100 rfl (pq := 101) rfl ?_
      refine wb_getR hX fl_1566 sh_161 rfl dX11_keep_101 (pq := 104) rfl ?_
      refine wb_iload_n 1 hX dX11_keep_104 rfl (pq := 105) rfl ?_
      refine wb_bipush (v := iI (27)) hX dX11_keep_105 (by decide) (pq := 107) rfl ?_
      refine wb_iadd hX dX11_keep_107 (pq := 108) rfl ?_
      refine wb_iload_n 2 hX dX11_keep_108 rfl (pq := 109) rfl ?_
      refine wb_iadd hX dX11_keep_109 (pq := 110) rfl ?_
      refine wb_aload_n 0 hX dX11_keep_110 rfl (pq := 111) rfl ?_
      refine wb_getR hX fl_1527 sh_161 rfl dX11_keep_111 (pq := 114) rfl ?_
      refine wb_iload_n 2 hX dX11_keep_114 rfl (pq := 115) rfl ?_
      obtain ⟨hi_6, h⟩ := chk_some h
      refine wb_iald hX sh_168 hi_6 dX11_keep_115 (pq := 116) rfl ?_
      obtain ⟨hi_7, h⟩ := chk_some h
      refine wb_iast hX sh_195 hi_7 dX11_keep_116 (pq := 117) rfl ?_
      refine wb_mem (fun s_8 es_8 => ?_)
      have h := nmM_s h s_8 es_8
      refine wb_iinc (v := (x3 + iI (1))) (loc' := [(3, .int (x3 + iI (1))), (0, .ref (G.1 161)), (2, .int x2)]) 2 hX hN dX11_keep_117 rfl rfl (by decide) rfl (pq := 120) rfl ?_
      refine wb_goto (tgt := 95) hX dX11_keep_120 (by decide) ?_
      refine wb_sub [1, 2, 0] (loc' := [(0, .ref (G.1 161)), (2, .int x2), (3, .int (x3 + iI (1)))]) rfl ?_
      exact hk95 _ _ h
set_option maxHeartbeats 4000000 in
set_option maxRecDepth 100000 in
theorem tM_keep_L33 {G : wG} {X : wX} {x2 : Int32} {r0 : Int32} {s1 : wM} (hX : wOK G X cX11_keep RX11 (some .boolean) 1) (hQ : wRt G X (wQi G r0 s1)) (hN : wNl X = 4) : ∀ (n : Nat) (x3 : Int32) (s : wM), wh2 (fM_keep_L33 x2) n x3 s = some (r0, s1) → WB G X 33 [(0, .ref (G.1 161)), (2, .int x2), (3, .int x3)] [] s := by
  intro n
  induction n with
  | zero => intro x3 s h; cases h
  | succ n hk33 =>
    intro x3 s h
    have h : fM_keep_L33 x2 x3 s (wh2 (fM_keep_L33 x2) n) = some (r0, s1) := h
    unfold fM_keep_L33 at h
    refine wb_iload_n 2 hX dX11_keep_33 rfl (pq := 34) rfl ?_
    refine wb_bipush (v := iI (9)) hX dX11_keep_34 (by decide) (pq := 36) rfl ?_
    refine wb_icmp_ge (tgt := 93) hX dX11_keep_36 (by decide) (fun c_1 => ?_) (pq := 39) rfl (fun c_1 => ?_)
    · have h := ite_t c_1 h
      refine wb_iconst (v := iI (0)) hX dX11_keep_93 rfl (pq := 94) rfl ?_
      refine wb_istore_n (loc' := [(3, .int (iI (0))), (0, .ref (G.1 161)), (2, .int x2)]) hX hN dX11_keep_94 (by decide) rfl (pq := 95) rfl ?_
      refine wb_sub [1, 2, 0] (loc' := [(0, .ref (G.1 161)), (2, .int x2), (3, .int (iI (0)))]) rfl ?_
      exact tM_keep_L95 hX hQ hN 100000 _ _ h
    · have h := ite_f c_1 h
      refine wb_aload_n 0 hX dX11_keep_39 rfl (pq := 40) rfl ?_
      refine wb_getR hX fl_1566 sh_161 rfl dX11_keep_40 (pq := 43) rfl ?_
      refine wb_iload_n 1 hX dX11_keep_43 rfl (pq := 44) rfl ?_
      refine wb_iload_n 2 hX dX11_keep_44 rfl (pq := 45) rfl ?_
      refine wb_iadd hX dX11_keep_45 (pq := 46) rfl ?_
      refine wb_aload_n 0 hX dX11_keep_46 rfl (pq := 47) rfl ?_
      refine wb_getR hX fl_1522 sh_161 rfl dX11_keep_47 (pq := 50) rfl ?_
      refine wb_iload_n 2 hX dX11_keep_50 rfl (pq := 51) rfl ?_
      obtain ⟨hi_2, h⟩ := chk_some h
      refine wb_iald hX sh_163 hi_2 dX11_keep_51 (pq := 52) rfl ?_
      obtain ⟨hi_3, h⟩ := chk_some h
      refine wb_iast hX sh_195 hi_3 dX11_keep_52 (pq := 53) rfl ?_
      refine wb_mem (fun s_4 es_4 => ?_)
      have h := nmM_s h s_4 es_4
      refine wb_aload_n 0 hX dX11_keep_53 rfl (pq := 54) rfl ?_
      refine wb_getR hX fl_1566 sh_161 rfl dX11_keep_54 (pq := 57) rfl ?_
      refine wb_iload_n 1 hX dX11_keep_57 rfl (pq := 58) rfl ?_
      refine wb_bipush (v := iI (9)) hX dX11_keep_58 (by decide) (pq := 60) rfl ?_
      refine wb_iadd hX dX11_keep_60 (pq := 61) rfl ?_
      refine wb_iload_n 2 hX dX11_keep_61 rfl (pq := 62) rfl ?_
      refine wb_iadd hX dX11_keep_62 (pq := 63) rfl ?_
      refine wb_aload_n 0 hX dX11_keep_63 rfl (pq := 64) rfl ?_
      refine wb_getR hX fl_1523 sh_161 rfl dX11_keep_64 (pq := 67) rfl ?_
      refine wb_iload_n 2 hX dX11_keep_67 rfl (pq := 68) rfl ?_
      refine wb_iald hX sh_164 hi_2 dX11_keep_68 (pq := 69) rfl ?_
      obtain ⟨hi_5, h⟩ := chk_some h
      refine wb_iast hX sh_195 hi_5 dX11_keep_69 (pq := 70) rfl ?_
      refine wb_mem (fun s_6 es_6 => ?_)
      have h := nmM_s h s_6 es_6
      refine wb_aload_n 0 hX dX11_keep_70 rfl (pq := 71) rfl ?_
      refine wb_getR hX fl_1566 sh_161 rfl dX11_keep_71 (pq := 74) rfl ?_
      refine wb_iload_n 1 hX dX11_keep_74 rfl (pq := 75) rfl ?_
      refine wb_bipush (v := iI (18)) hX dX11_keep_75 (by decide) (pq := 77) rfl ?_
      refine wb_iadd hX dX11_keep_77 (pq := 78) rfl ?_
      refine wb_iload_n 2 hX dX11_keep_78 rfl (pq := 79) rfl ?_
      refine wb_iadd hX dX11_keep_79 (pq := 80) rfl ?_
      refine wb_aload_n 0 hX dX11_keep_80 rfl (pq := 81) rfl ?_
      refine wb_getR hX fl_1526 sh_161 rfl dX11_keep_81 (pq := 84) rfl ?_
      refine wb_iload_n 2 hX dX11_keep_84 rfl (pq := 85) rfl ?_
      refine wb_iald hX sh_167 hi_2 dX11_keep_85 (pq := 86) rfl ?_
      obtain ⟨hi_7, h⟩ := chk_some h
      refine wb_iast hX sh_195 hi_7 dX11_keep_86 (pq := 87) rfl ?_
      refine wb_mem (fun s_8 es_8 => ?_)
      have h := nmM_s h s_8 es_8
      refine wb_iinc (v := (x3 + iI (1))) (loc' := [(3, .int (x3 + iI (1))), (0, .ref (G.1 161)), (2, .int x2)]) 2 hX hN dX11_keep_87 rfl rfl (by decide) rfl (pq := 90) rfl ?_
      refine wb_goto (tgt := 33) hX dX11_keep_90 (by decide) ?_
      refine wb_sub [1, 2, 0] (loc' := [(0, .ref (G.1 161)), (2, .int x2), (3, .int (x3 + iI (1)))]) rfl ?_
      exact hk33 _ _ h
set_option maxHeartbeats 4000000 in
set_option maxRecDepth 100000 in
theorem tM_keep {l : Launch} {G : wG} {s : wM} {x1 : Int32} {r0 : Int32} {s1 : wM} (h : fM_keep s x1 = some (r0, s1)) : wMet l G yX11_keep cX11_keep 4 (some .boolean) 1 [.ref (G.1 161), .int x1] s (wQi G r0 s1) := by
  refine wMet_of (own := RX11) (by decide +kernel) rfl (Nat.le_of_ble_eq_true rfl) ?_
  intro X hX hQ hN hl
  show WB G X 0 [(0, .ref (G.1 161)), (1, .int x1)] [] s
  unfold fM_keep at h
  refine wb_aload_n 0 hX dX11_keep_0 rfl (pq := 1) rfl ?_
  refine wb_iconst (v := iI (0)) hX dX11_keep_1 rfl (pq := 2) rfl ?_
  refine wb_putI hX fp_1518 sh_161 rfl dX11_keep_2 rfl rfl (pq := 5) rfl ?_
  refine wb_mem (fun s_1 es_1 => ?_)
  have h := nmM_s h s_1 es_1
  refine wb_iload_n 1 hX dX11_keep_5 rfl (pq := 6) rfl ?_
  refine wb_i2l hX dX11_keep_6 (pq := 7) rfl ?_
  refine wb_lconst (v := (0 : Int64)) hX dX11_keep_7 rfl (pq := 8) rfl ?_
  refine wb_ldc2 (v := (2 : Int64)) hX k_1214 dX11_keep_8 (pq := 11) rfl ?_
  obtain ⟨q_3, hc_2, h⟩ := bind_s h
  refine wb_callSi (r0 := q_3) (s1 := s_1) [.long x1.toInt64, .long (0 : Int64), .long (2 : Int64)] hX ml_1124 (tM_in hc_2) (by decide) rfl rfl (Nat.le_of_ble_eq_true rfl) dX11_keep_11 (pq := 14) rfl ?_
  refine wb_if_ne (tgt := 19) hX dX11_keep_14 (by decide) (pq := 17) rfl (fun c_4 => ?_) (fun c_4 => ?_)
  · have h := ite_t c_4 h
    refine wb_iconst (v := iI (0)) hX dX11_keep_17 rfl (pq := 18) rfl ?_
    exact wb_zret hX hQ h nar01.1.1 dX11_keep_18
  · have h := ite_f c_4 h
    refine wb_aload_n 0 hX dX11_keep_19 rfl (pq := 20) rfl ?_
    refine wb_getR hX fl_1565 sh_161 rfl dX11_keep_20 (pq := 23) rfl ?_
    refine wb_iload_n 1 hX dX11_keep_23 rfl (pq := 24) rfl ?_
    refine wb_iconst (v := iI (1)) hX dX11_keep_24 rfl (pq := 25) rfl ?_
    obtain ⟨hi_5, h⟩ := chk_some h
    refine wb_zast hX sh_194 hi_5 nar01.2.2.2 dX11_keep_25 (pq := 26) rfl ?_
    refine wb_mem (fun s_6 es_6 => ?_)
    have h := nmM_s h s_6 es_6
    refine wb_bipush (v := iI (32)) hX dX11_keep_26 (by decide) (pq := 28) rfl ?_
    refine wb_iload_n 1 hX dX11_keep_28 rfl (pq := 29) rfl ?_
    refine wb_imul hX dX11_keep_29 (pq := 30) rfl ?_
    refine wb_istore_n (loc' := [(2, .int ((iI (32)) * x1)), (0, .ref (G.1 161)), (1, .int x1)]) hX hN dX11_keep_30 (by decide) rfl (pq := 31) rfl ?_
    refine wb_iconst (v := iI (0)) hX dX11_keep_31 rfl (pq := 32) rfl ?_
    refine wb_istore_n (loc' := [(3, .int (iI (0))), (2, .int ((iI (32)) * x1)), (0, .ref (G.1 161)), (1, .int x1)]) hX hN dX11_keep_32 (by decide) rfl (pq := 33) rfl ?_
    refine wb_sub [2, 1, 0] (loc' := [(0, .ref (G.1 161)), (2, .int ((iI (32)) * x1)), (3, .int (iI (0)))]) rfl ?_
    exact tM_keep_L33 hX hQ hN 100000 _ _ h
set_option maxHeartbeats 4000000 in
set_option maxRecDepth 100000 in
theorem tM_again_J47 {G : wG} {X : wX} {s : wM} {r0 : Int32} {s1 : wM} (hX : wOK G X cX11_again RX11 (some .boolean) 1) (hQ : wRt G X (wQi G r0 s1)) (hN : wNl X = 4) (h : fM_again_J47 s = some (r0, s1)) : WB G X 47 [] [] s := by
  unfold fM_again_J47 at h
  refine wb_iconst (v := iI (0)) hX dX11_again_47 rfl (pq := 48) rfl ?_
  exact wb_zret hX hQ h nar01.1.1 dX11_again_48
set_option maxHeartbeats 4000000 in
set_option maxRecDepth 100000 in
theorem tM_again_L118 {G : wG} {X : wX} {x2 : Int32} {r0 : Int32} {s1 : wM} (hX : wOK G X cX11_again RX11 (some .boolean) 1) (hQ : wRt G X (wQi G r0 s1)) (hN : wNl X = 4) : ∀ (n : Nat) (x3 : Int32) (s : wM), wh2 (fM_again_L118 x2) n x3 s = some (r0, s1) → WB G X 118 [(0, .ref (G.1 161)), (2, .int x2), (3, .int x3)] [] s := by
  intro n
  induction n with
  | zero => intro x3 s h; cases h
  | succ n hk118 =>
    intro x3 s h
    have h : fM_again_L118 x2 x3 s (wh2 (fM_again_L118 x2) n) = some (r0, s1) := h
    unfold fM_again_L118 at h
    refine wb_iload_n 2 hX dX11_again_118 rfl (pq := 119) rfl ?_
    refine wb_iconst (v := iI (3)) hX dX11_again_119 rfl (pq := 120) rfl ?_
    refine wb_icmp_ge (tgt := 146) hX dX11_again_120 (by decide) (fun c_1 => ?_) (pq := 123) rfl (fun c_1 => ?_)
    · have h := ite_t c_1 h
      refine wb_aload_n 0 hX dX11_again_146 rfl (pq := 147) rfl ?_
      refine wb_aload_n 0 hX dX11_again_147 rfl (pq := 148) rfl ?_
      refine wb_getR hX fl_1566 sh_161 rfl dX11_again_148 (pq := 151) rfl ?_
      refine wb_iload_n 1 hX dX11_again_151 rfl (pq := 152) rfl ?_
      refine wb_bipush (v := iI (27)) hX dX11_again_152 (by decide) (pq := 154) rfl ?_
      refine wb_iadd hX dX11_again_154 (pq := 155) rfl ?_
      refine wb_iconst (v := iI (3)) hX dX11_again_155 rfl (pq := 156) rfl ?_
      refine wb_iadd hX dX11_again_156 (pq := 157) rfl ?_
      obtain ⟨hi_2, h⟩ := chk_some h
      refine wb_iald hX sh_195 hi_2 dX11_again_157 (pq := 158) rfl ?_
      refine wb_putI hX fp_1528 sh_161 rfl dX11_again_158 rfl rfl (pq := 161) rfl ?_
      refine wb_mem (fun s_3 es_3 => ?_)
      have h := nmM_s h s_3 es_3
      refine wb_aload_n 0 hX dX11_again_161 rfl (pq := 162) rfl ?_
      refine wb_iconst (v := iI (0)) hX dX11_again_162 rfl (pq := 163) rfl ?_
      refine wb_putI hX fp_1538 sh_161 rfl dX11_again_163 rfl rfl (pq := 166) rfl ?_
      refine wb_mem (fun s_4 es_4 => ?_)
      have h := nmM_s h s_4 es_4
      refine wb_iconst (v := iI (1)) hX dX11_again_166 rfl (pq := 167) rfl ?_
      exact wb_zret hX hQ h nar01.2.1 dX11_again_167
    · have h := ite_f c_1 h
      refine wb_aload_n 0 hX dX11_again_123 rfl (pq := 124) rfl ?_
      refine wb_getR hX fl_1527 sh_161 rfl dX11_again_124 (pq := 127) rfl ?_
      refine wb_iload_n 2 hX dX11_again_127 rfl (pq := 128) rfl ?_
      refine wb_aload_n 0 hX dX11_again_128 rfl (pq := 129) rfl ?_
      refine wb_getR hX fl_1566 sh_161 rfl dX11_again_129 (pq := 132) rfl ?_
      refine wb_iload_n 1 hX dX11_again_132 rfl (pq := 133) rfl ?_
      refine wb_bipush (v := iI (27)) hX dX11_again_133 (by decide) (pq := 135) rfl ?_
      refine wb_iadd hX dX11_again_135 (pq := 136) rfl ?_
      refine wb_iload_n 2 hX dX11_again_136 rfl (pq := 137) rfl ?_
      refine wb_iadd hX dX11_again_137 (pq := 138) rfl ?_
      obtain ⟨hi_5, h⟩ := chk_some h
      refine wb_iald hX sh_195 hi_5 dX11_again_138 (pq := 139) rfl ?_
      obtain ⟨hi_6, h⟩ := chk_some h
      refine wb_iast hX sh_168 hi_6 dX11_again_139 (pq := 140) rfl ?_
      refine wb_mem (fun s_7 es_7 => ?_)
      have h := nmM_s h s_7 es_7
      refine wb_iinc (v := (x3 + iI (1))) (loc' := [(3, .int (x3 + iI (1))), (0, .ref (G.1 161)), (2, .int x2)]) 2 hX hN dX11_again_140 rfl rfl (by decide) rfl (pq := 143) rfl ?_
      refine wb_goto (tgt := 118) hX dX11_again_143 (by decide) ?_
      refine wb_sub [1, 2, 0] (loc' := [(0, .ref (G.1 161)), (2, .int x2), (3, .int (x3 + iI (1)))]) rfl ?_
      exact hk118 _ _ h
set_option maxHeartbeats 4000000 in
set_option maxRecDepth 100000 in
theorem tM_again_L56 {G : wG} {X : wX} {x2 : Int32} {r0 : Int32} {s1 : wM} (hX : wOK G X cX11_again RX11 (some .boolean) 1) (hQ : wRt G X (wQi G r0 s1)) (hN : wNl X = 4) : ∀ (n : Nat) (x3 : Int32) (s : wM), wh2 (fM_again_L56 x2) n x3 s = some (r0, s1) → WB G X 56 [(0, .ref (G.1 161)), (2, .int x2), (3, .int x3)] [] s := by
  intro n
  induction n with
  | zero => intro x3 s h; cases h
  | succ n hk56 =>
    intro x3 s h
    have h : fM_again_L56 x2 x3 s (wh2 (fM_again_L56 x2) n) = some (r0, s1) := h
    unfold fM_again_L56 at h
    refine wb_iload_n 2 hX dX11_again_56 rfl (pq := 57) rfl ?_
    refine wb_bipush (v := iI (9)) hX dX11_again_57 (by decide) (pq := 59) rfl ?_
    refine wb_icmp_ge (tgt := 116) hX dX11_again_59 (by decide) (fun c_1 => ?_) (pq := 62) rfl (fun c_1 => ?_)
    · have h := ite_t c_1 h
      refine wb_iconst (v := iI (0)) hX dX11_again_116 rfl (pq := 117) rfl ?_
      refine wb_istore_n (loc' := [(3, .int (iI (0))), (0, .ref (G.1 161)), (2, .int x2)]) hX hN dX11_again_117 (by decide) rfl (pq := 118) rfl ?_
      refine wb_sub [1, 2, 0] (loc' := [(0, .ref (G.1 161)), (2, .int x2), (3, .int (iI (0)))]) rfl ?_
      exact tM_again_L118 hX hQ hN 100000 _ _ h
    · have h := ite_f c_1 h
      refine wb_aload_n 0 hX dX11_again_62 rfl (pq := 63) rfl ?_
      refine wb_getR hX fl_1522 sh_161 rfl dX11_again_63 (pq := 66) rfl ?_
      refine wb_iload_n 2 hX dX11_again_66 rfl (pq := 67) rfl ?_
      refine wb_aload_n 0 hX dX11_again_67 rfl (pq := 68) rfl ?_
      refine wb_getR hX fl_1566 sh_161 rfl dX11_again_68 (pq := 71) rfl ?_
      refine wb_iload_n 1 hX dX11_again_71 rfl (pq := 72) rfl ?_
      refine wb_iload_n 2 hX dX11_again_72 rfl (pq := 73) rfl ?_
      refine wb_iadd hX dX11_again_73 (pq := 74) rfl ?_
      obtain ⟨hi_2, h⟩ := chk_some h
      refine wb_iald hX sh_195 hi_2 dX11_again_74 (pq := 75) rfl ?_
      obtain ⟨hi_3, h⟩ := chk_some h
      refine wb_iast hX sh_163 hi_3 dX11_again_75 (pq := 76) rfl ?_
      refine wb_mem (fun s_4 es_4 => ?_)
      have h := nmM_s h s_4 es_4
      refine wb_aload_n 0 hX dX11_again_76 rfl (pq := 77) rfl ?_
      refine wb_getR hX fl_1523 sh_161 rfl dX11_again_77 (pq := 80) rfl ?_
      refine wb_iload_n 2 hX dX11_again_80 rfl (pq := 81) rfl ?_
      refine wb_aload_n 0 hX dX11_again_81 rfl (pq := 82) rfl ?_
      refine wb_getR hX fl_1566 sh_161 rfl dX11_again_82 (pq := 85) rfl ?_
      refine wb_iload_n 1 hX dX11_again_85 rfl (pq := 86) rfl ?_
      refine wb_bipush (v := iI (9)) hX dX11_again_86 (by decide) (pq := 88) rfl ?_
      refine wb_iadd hX dX11_again_88 (pq := 89) rfl ?_
      refine wb_iload_n 2 hX dX11_again_89 rfl (pq := 90) rfl ?_
      refine wb_iadd hX dX11_again_90 (pq := 91) rfl ?_
      obtain ⟨hi_5, h⟩ := chk_some h
      refine wb_iald hX sh_195 hi_5 dX11_again_91 (pq := 92) rfl ?_
      refine wb_iast hX sh_164 hi_3 dX11_again_92 (pq := 93) rfl ?_
      refine wb_mem (fun s_6 es_6 => ?_)
      have h := nmM_s h s_6 es_6
      refine wb_aload_n 0 hX dX11_again_93 rfl (pq := 94) rfl ?_
      refine wb_getR hX fl_1526 sh_161 rfl dX11_again_94 (pq := 97) rfl ?_
      refine wb_iload_n 2 hX dX11_again_97 rfl (pq := 98) rfl ?_
      refine wb_aload_n 0 hX dX11_again_98 rfl (pq := 99) rfl ?_
      refine wb_getR hX fl_1566 sh_161 rfl dX11_again_99 (pq := 102) rfl ?_
      refine wb_iload_n 1 hX dX11_again_102 rfl (pq := 103) rfl ?_
      refine wb_bipush (v := iI (18)) hX dX11_again_103 (by decide) (pq := 105) rfl ?_
      refine wb_iadd hX dX11_again_105 (pq := 106) rfl ?_
      refine wb_iload_n 2 hX dX11_again_106 rfl (pq := 107) rfl ?_
      refine wb_iadd hX dX11_again_107 (pq := 108) rfl ?_
      obtain ⟨hi_7, h⟩ := chk_some h
      refine wb_iald hX sh_195 hi_7 dX11_again_108 (pq := 109) rfl ?_
      refine wb_iast hX sh_167 hi_3 dX11_again_109 (pq := 110) rfl ?_
      refine wb_mem (fun s_8 es_8 => ?_)
      have h := nmM_s h s_8 es_8
      refine wb_iinc (v := (x3 + iI (1))) (loc' := [(3, .int (x3 + iI (1))), (0, .ref (G.1 161)), (2, .int x2)]) 2 hX hN dX11_again_110 rfl rfl (by decide) rfl (pq := 113) rfl ?_
      refine wb_goto (tgt := 56) hX dX11_again_113 (by decide) ?_
      refine wb_sub [1, 2, 0] (loc' := [(0, .ref (G.1 161)), (2, .int x2), (3, .int (x3 + iI (1)))]) rfl ?_
      exact hk56 _ _ h
set_option maxHeartbeats 4000000 in
set_option maxRecDepth 100000 in
theorem tM_again {l : Launch} {G : wG} {s : wM} {x1 : Int32} {r0 : Int32} {s1 : wM} (h : fM_again s x1 = some (r0, s1)) : wMet l G yX11_again cX11_again 4 (some .boolean) 1 [.ref (G.1 161), .int x1] s (wQi G r0 s1) := by
  refine wMet_of (own := RX11) (by decide +kernel) rfl (Nat.le_of_ble_eq_true rfl) ?_
  intro X hX hQ hN hl
  show WB G X 0 [(0, .ref (G.1 161)), (1, .int x1)] [] s
  unfold fM_again at h
  refine wb_aload_n 0 hX dX11_again_0 rfl (pq := 1) rfl ?_
  refine wb_iconst (v := iI (0)) hX dX11_again_1 rfl (pq := 2) rfl ?_
  refine wb_putI hX fp_1518 sh_161 rfl dX11_again_2 rfl rfl (pq := 5) rfl ?_
  refine wb_mem (fun s_1 es_1 => ?_)
  have h := nmM_s h s_1 es_1
  refine wb_iload_n 1 hX dX11_again_5 rfl (pq := 6) rfl ?_
  refine wb_i2l hX dX11_again_6 (pq := 7) rfl ?_
  refine wb_lconst (v := (0 : Int64)) hX dX11_again_7 rfl (pq := 8) rfl ?_
  refine wb_ldc2 (v := (2 : Int64)) hX k_1214 dX11_again_8 (pq := 11) rfl ?_
  obtain ⟨q_3, hc_2, h⟩ := bind_s h
  refine wb_callSi (r0 := q_3) (s1 := s_1) [.long x1.toInt64, .long (0 : Int64), .long (2 : Int64)] hX ml_1124 (tM_in hc_2) (by decide) rfl rfl (Nat.le_of_ble_eq_true rfl) dX11_again_11 (pq := 14) rfl ?_
  refine wb_if_eq (tgt := 47) hX dX11_again_14 (by decide) (fun c_4 => ?_) (pq := 17) rfl (fun c_4 => ?_)
  · have h := ite_t c_4 h
    refine wb_sub [] (loc' := []) rfl ?_
    exact tM_again_J47 hX hQ hN h
  · have h := ite_f c_4 h
    refine wb_aload_n 0 hX dX11_again_17 rfl (pq := 18) rfl ?_
    refine wb_getR hX fl_1565 sh_161 rfl dX11_again_18 (pq := 21) rfl ?_
    refine wb_iload_n 1 hX dX11_again_21 rfl (pq := 22) rfl ?_
    obtain ⟨hi_5, h⟩ := chk_some h
    refine wb_zald hX sh_194 hi_5 dX11_again_22 (pq := 23) rfl ?_
    refine wb_if_eq (tgt := 47) hX dX11_again_23 (by decide) (fun c_6 => ?_) (pq := 26) rfl (fun c_6 => ?_)
    · have h := ite_t c_6 h
      refine wb_sub [] (loc' := []) rfl ?_
      exact tM_again_J47 hX hQ hN h
    · have h := ite_f c_6 h
      refine wb_aload_n 0 hX dX11_again_26 rfl (pq := 27) rfl ?_
      refine wb_getR hX fl_1566 sh_161 rfl dX11_again_27 (pq := 30) rfl ?_
      refine wb_bipush (v := iI (32)) hX dX11_again_30 (by decide) (pq := 32) rfl ?_
      refine wb_iload_n 1 hX dX11_again_32 rfl (pq := 33) rfl ?_
      refine wb_imul hX dX11_again_33 (pq := 34) rfl ?_
      refine wb_bipush (v := iI (27)) hX dX11_again_34 (by decide) (pq := 36) rfl ?_
      refine wb_iadd hX dX11_again_36 (pq := 37) rfl ?_
      refine wb_iconst (v := iI (4)) hX dX11_again_37 rfl (pq := 38) rfl ?_
      refine wb_iadd hX dX11_again_38 (pq := 39) rfl ?_
      obtain ⟨hi_7, h⟩ := chk_some h
      refine wb_iald hX sh_195 hi_7 dX11_again_39 (pq := 40) rfl ?_
      refine wb_aload_n 0 hX dX11_again_40 rfl (pq := 41) rfl ?_
      refine wb_getI hX fl_1521 sh_161 rfl dX11_again_41 (pq := 44) rfl ?_
      refine wb_icmp_eq (tgt := 49) hX dX11_again_44 (by decide) (fun c_8 => ?_) (pq := 47) rfl (fun c_8 => ?_)
      · have h := ite_t c_8 h
        refine wb_bipush (v := iI (32)) hX dX11_again_49 (by decide) (pq := 51) rfl ?_
        refine wb_iload_n 1 hX dX11_again_51 rfl (pq := 52) rfl ?_
        refine wb_imul hX dX11_again_52 (pq := 53) rfl ?_
        refine wb_istore_n (loc' := [(2, .int ((iI (32)) * x1)), (0, .ref (G.1 161)), (1, .int x1)]) hX hN dX11_again_53 (by decide) rfl (pq := 54) rfl ?_
        refine wb_iconst (v := iI (0)) hX dX11_again_54 rfl (pq := 55) rfl ?_
        refine wb_istore_n (loc' := [(3, .int (iI (0))), (2, .int ((iI (32)) * x1)), (0, .ref (G.1 161)), (1, .int x1)]) hX hN dX11_again_55 (by decide) rfl (pq := 56) rfl ?_
        refine wb_sub [2, 1, 0] (loc' := [(0, .ref (G.1 161)), (2, .int ((iI (32)) * x1)), (3, .int (iI (0)))]) rfl ?_
        exact tM_again_L56 hX hQ hN 100000 _ _ h
      · have h := ite_f c_8 h
        refine wb_sub [] (loc' := []) rfl ?_
        exact tM_again_J47 hX hQ hN h
set_option maxHeartbeats 4000000 in
set_option maxRecDepth 100000 in
theorem tM_sumOf_L4 {G : wG} {X : wX} {x1 : Nat} {s : wM} {r0 : Int32} (hX : wOK G X cX11_sumOf RX11 (some .int) 0) (hQ : wRt G X (wQi G r0 s)) (hN : wNl X = 4) (hx1 : wSh[x1]? = some (.inl (.int, 9, 0, 0))) : ∀ (n : Nat) (x2 : Int32) (x3 : Int32), wh2 (fM_sumOf_L4 x1 s) n x2 x3 = some r0 → WB G X 4 [(0, .ref (G.1 161)), (1, .ref (G.1 x1)), (2, .int x2), (3, .int x3)] [] s := by
  intro n
  induction n with
  | zero => intro x2 x3 h; cases h
  | succ n hk4 =>
    intro x2 x3 h
    have h : fM_sumOf_L4 x1 s x2 x3 (wh2 (fM_sumOf_L4 x1 s) n) = some r0 := h
    unfold fM_sumOf_L4 at h
    refine wb_iload_n 3 hX dX11_sumOf_4 rfl (pq := 5) rfl ?_
    refine wb_aload_n 0 hX dX11_sumOf_5 rfl (pq := 6) rfl ?_
    refine wb_getI hX fl_1521 sh_161 rfl dX11_sumOf_6 (pq := 9) rfl ?_
    refine wb_icmp_ge (tgt := 24) hX dX11_sumOf_9 (by decide) (fun c_1 => ?_) (pq := 12) rfl (fun c_1 => ?_)
    · have h := ite_t c_1 h
      refine wb_iload_n 2 hX dX11_sumOf_24 rfl (pq := 25) rfl ?_
      exact wb_iretP hX hQ h dX11_sumOf_25
    · have h := ite_f c_1 h
      refine wb_iload_n 2 hX dX11_sumOf_12 rfl (pq := 13) rfl ?_
      refine wb_aload_n 1 hX dX11_sumOf_13 rfl (pq := 14) rfl ?_
      refine wb_iload_n 3 hX dX11_sumOf_14 rfl (pq := 15) rfl ?_
      obtain ⟨hi_2, h⟩ := chk_some h
      refine wb_iald hX hx1 hi_2 dX11_sumOf_15 (pq := 16) rfl ?_
      refine wb_iadd hX dX11_sumOf_16 (pq := 17) rfl ?_
      refine wb_istore_n (loc' := [(2, .int (x2 + (s.1 x1 x3.toNatClampNeg))), (0, .ref (G.1 161)), (1, .ref (G.1 x1)), (3, .int x3)]) hX hN dX11_sumOf_17 (by decide) rfl (pq := 18) rfl ?_
      refine wb_iinc (v := (x3 + iI (1))) (loc' := [(3, .int (x3 + iI (1))), (2, .int (x2 + (s.1 x1 x3.toNatClampNeg))), (0, .ref (G.1 161)), (1, .ref (G.1 x1))]) 3 hX hN dX11_sumOf_18 rfl rfl (by decide) rfl (pq := 21) rfl ?_
      refine wb_goto (tgt := 4) hX dX11_sumOf_21 (by decide) ?_
      refine wb_sub [2, 3, 1, 0] (loc' := [(0, .ref (G.1 161)), (1, .ref (G.1 x1)), (2, .int (x2 + (s.1 x1 x3.toNatClampNeg))), (3, .int (x3 + iI (1)))]) rfl ?_
      exact hk4 _ _ h
set_option maxHeartbeats 4000000 in
set_option maxRecDepth 100000 in
theorem tM_sumOf {l : Launch} {G : wG} {s : wM} {x1 : Nat} {r0 : Int32} (hx1 : wSh[x1]? = some (.inl (.int, 9, 0, 0))) (h : fM_sumOf s x1 = some r0) : wMet l G yX11_sumOf cX11_sumOf 4 (some .int) 0 [.ref (G.1 161), .ref (G.1 x1)] s (wQi G r0 s) := by
  refine wMet_of (own := RX11) (by decide +kernel) rfl (Nat.le_of_ble_eq_true rfl) ?_
  intro X hX hQ hN hl
  show WB G X 0 [(0, .ref (G.1 161)), (1, .ref (G.1 x1))] [] s
  unfold fM_sumOf at h
  refine wb_iconst (v := iI (0)) hX dX11_sumOf_0 rfl (pq := 1) rfl ?_
  refine wb_istore_n (loc' := [(2, .int (iI (0))), (0, .ref (G.1 161)), (1, .ref (G.1 x1))]) hX hN dX11_sumOf_1 (by decide) rfl (pq := 2) rfl ?_
  refine wb_iconst (v := iI (0)) hX dX11_sumOf_2 rfl (pq := 3) rfl ?_
  refine wb_istore_n (loc' := [(3, .int (iI (0))), (2, .int (iI (0))), (0, .ref (G.1 161)), (1, .ref (G.1 x1))]) hX hN dX11_sumOf_3 (by decide) rfl (pq := 4) rfl ?_
  refine wb_sub [2, 3, 1, 0] (loc' := [(0, .ref (G.1 161)), (1, .ref (G.1 x1)), (2, .int (iI (0))), (3, .int (iI (0)))]) rfl ?_
  exact tM_sumOf_L4 hX hQ hN hx1 100000 _ _ h
set_option maxHeartbeats 4000000 in
set_option maxRecDepth 100000 in
theorem tM_pairsThere_L4 {G : wG} {X : wX} {s : wM} {r0 : Int32} (hX : wOK G X cX11_pairsThere RX11 (some .int) 1) (hQ : wRt G X (wQi G r0 s)) (hN : wNl X = 3) : ∀ (n : Nat) (x1 : Int32) (x2 : Int32), wh2 (fM_pairsThere_L4 s) n x1 x2 = some r0 → WB G X 4 [(0, .ref (G.1 161)), (1, .int x1), (2, .int x2)] [] s := by
  intro n
  induction n with
  | zero => intro x1 x2 h; cases h
  | succ n hk4 =>
    intro x1 x2 h
    have h : fM_pairsThere_L4 s x1 x2 (wh2 (fM_pairsThere_L4 s) n) = some r0 := h
    unfold fM_pairsThere_L4 at h
    refine wb_iload_n 2 hX dX11_pairsThere_4 rfl (pq := 5) rfl ?_
    refine wb_aload_n 0 hX dX11_pairsThere_5 rfl (pq := 6) rfl ?_
    refine wb_getI hX fl_1521 sh_161 rfl dX11_pairsThere_6 (pq := 9) rfl ?_
    refine wb_icmp_ge (tgt := 30) hX dX11_pairsThere_9 (by decide) (fun c_1 => ?_) (pq := 12) rfl (fun c_1 => ?_)
    · have h := ite_t c_1 h
      refine wb_iload_n 1 hX dX11_pairsThere_30 rfl (pq := 31) rfl ?_
      refine wb_iconst (v := iI (2)) hX dX11_pairsThere_31 rfl (pq := 32) rfl ?_
      refine wb_idiv hX dX11_pairsThere_32 (by decide) (pq := 33) rfl ?_
      exact wb_iretP hX hQ h dX11_pairsThere_33
    · have h := ite_f c_1 h
      refine wb_iload_n 1 hX dX11_pairsThere_12 rfl (pq := 13) rfl ?_
      refine wb_aload_n 0 hX dX11_pairsThere_13 rfl (pq := 14) rfl ?_
      refine wb_getR hX fl_1524 sh_161 rfl dX11_pairsThere_14 (pq := 17) rfl ?_
      refine wb_iload_n 2 hX dX11_pairsThere_17 rfl (pq := 18) rfl ?_
      obtain ⟨hi_2, h⟩ := chk_some h
      refine wb_iald hX sh_165 hi_2 dX11_pairsThere_18 (pq := 19) rfl ?_
      obtain ⟨q_4, hc_3, h⟩ := bind_s h
      refine wb_callSi (r0 := q_4) (s1 := s) [.int (s.1 165 x2.toNatClampNeg)] hX ml_1288 (tJ_bitCount hc_3) (by decide) rfl rfl (Nat.le_of_ble_eq_true rfl) dX11_pairsThere_19 (pq := 22) rfl ?_
      refine wb_iadd hX dX11_pairsThere_22 (pq := 23) rfl ?_
      refine wb_istore_n (loc' := [(1, .int (x1 + q_4)), (0, .ref (G.1 161)), (2, .int x2)]) hX hN dX11_pairsThere_23 (by decide) rfl (pq := 24) rfl ?_
      refine wb_iinc (v := (x2 + iI (1))) (loc' := [(2, .int (x2 + iI (1))), (1, .int (x1 + q_4)), (0, .ref (G.1 161))]) 2 hX hN dX11_pairsThere_24 rfl rfl (by decide) rfl (pq := 27) rfl ?_
      refine wb_goto (tgt := 4) hX dX11_pairsThere_27 (by decide) ?_
      refine wb_sub [2, 1, 0] (loc' := [(0, .ref (G.1 161)), (1, .int (x1 + q_4)), (2, .int (x2 + iI (1)))]) rfl ?_
      exact hk4 _ _ h
set_option maxHeartbeats 4000000 in
set_option maxRecDepth 100000 in
theorem tM_pairsThere {l : Launch} {G : wG} {s : wM} {r0 : Int32} (h : fM_pairsThere s = some r0) : wMet l G yX11_pairsThere cX11_pairsThere 3 (some .int) 1 [.ref (G.1 161)] s (wQi G r0 s) := by
  refine wMet_of (own := RX11) (by decide +kernel) rfl (Nat.le_of_ble_eq_true rfl) ?_
  intro X hX hQ hN hl
  show WB G X 0 [(0, .ref (G.1 161))] [] s
  unfold fM_pairsThere at h
  refine wb_iconst (v := iI (0)) hX dX11_pairsThere_0 rfl (pq := 1) rfl ?_
  refine wb_istore_n (loc' := [(1, .int (iI (0))), (0, .ref (G.1 161))]) hX hN dX11_pairsThere_1 (by decide) rfl (pq := 2) rfl ?_
  refine wb_iconst (v := iI (0)) hX dX11_pairsThere_2 rfl (pq := 3) rfl ?_
  refine wb_istore_n (loc' := [(2, .int (iI (0))), (1, .int (iI (0))), (0, .ref (G.1 161))]) hX hN dX11_pairsThere_3 (by decide) rfl (pq := 4) rfl ?_
  refine wb_sub [2, 1, 0] (loc' := [(0, .ref (G.1 161)), (1, .int (iI (0))), (2, .int (iI (0)))]) rfl ?_
  exact tM_pairsThere_L4 hX hQ hN 100000 _ _ h
set_option maxHeartbeats 4000000 in
set_option maxRecDepth 100000 in
theorem tM_count {l : Launch} {G : wG} {s : wM} {x1 : Int32} {r0 : Int32} {s1 : wM} (h : fM_count s x1 = some (r0, s1)) : wMet l G yX11_count cX11_count 2 (some .int) 2 [.ref (G.1 161), .int x1] s (wQi G r0 s1) := by
  refine wMet_of (own := RX11) (by decide +kernel) rfl (Nat.le_of_ble_eq_true rfl) ?_
  intro X hX hQ hN hl
  show WB G X 0 [(0, .ref (G.1 161)), (1, .int x1)] [] s
  unfold fM_count at h
  refine wb_aload_n 0 hX dX11_count_0 rfl (pq := 1) rfl ?_
  refine wb_iconst (v := iI (0)) hX dX11_count_1 rfl (pq := 2) rfl ?_
  refine wb_putI hX fp_1518 sh_161 rfl dX11_count_2 rfl rfl (pq := 5) rfl ?_
  refine wb_mem (fun s_1 es_1 => ?_)
  have h := nmM_s h s_1 es_1
  refine wb_iload_n 1 hX dX11_count_5 rfl (pq := 6) rfl ?_
  by_cases c_2 : x1 = iI (0)
  · have h := ite_t c_2 h
    refine wb_tabIn (tgt := 56) (off := 50) hX dX11_count_6 (by rw [c_2]; decide) (by rw [c_2]; decide) (by rw [c_2]; decide) (by decide) ?_
    refine wb_aload_n 0 hX dX11_count_56 rfl (pq := 57) rfl ?_
    refine wb_getI hX fl_1521 sh_161 rfl dX11_count_57 (pq := 60) rfl ?_
    exact wb_iret hX hQ h dX11_count_60
  · have h := ite_f c_2 h
    by_cases c_3 : x1 = iI (1)
    · have h := ite_t c_3 h
      refine wb_tabIn (tgt := 61) (off := 55) hX dX11_count_6 (by rw [c_3]; decide) (by rw [c_3]; decide) (by rw [c_3]; decide) (by decide) ?_
      refine wb_aload_n 0 hX dX11_count_61 rfl (pq := 62) rfl ?_
      refine wb_getI hX fl_1528 sh_161 rfl dX11_count_62 (pq := 65) rfl ?_
      exact wb_iret hX hQ h dX11_count_65
    · have h := ite_f c_3 h
      by_cases c_4 : x1 = iI (2)
      · have h := ite_t c_4 h
        refine wb_tabIn (tgt := 66) (off := 60) hX dX11_count_6 (by rw [c_4]; decide) (by rw [c_4]; decide) (by rw [c_4]; decide) (by decide) ?_
        refine wb_aload_n 0 hX dX11_count_66 rfl (pq := 67) rfl ?_
        refine wb_aload_n 0 hX dX11_count_67 rfl (pq := 68) rfl ?_
        refine wb_getR hX fl_1522 sh_161 rfl dX11_count_68 (pq := 71) rfl ?_
        obtain ⟨q_6, hc_5, h⟩ := bind_s h
        refine wb_callVi (r0 := q_6) (s1 := s_1) [.ref (G.1 163)] hX sh_161 ml_1505 (tM_sumOf sh_163 hc_5) (by decide) rfl rfl (Nat.le_of_ble_eq_true rfl) dX11_count_71 (pq := 74) rfl ?_
        exact wb_iret hX hQ h dX11_count_74
      · have h := ite_f c_4 h
        by_cases c_7 : x1 = iI (3)
        · have h := ite_t c_7 h
          refine wb_tabIn (tgt := 75) (off := 69) hX dX11_count_6 (by rw [c_7]; decide) (by rw [c_7]; decide) (by rw [c_7]; decide) (by decide) ?_
          refine wb_aload_n 0 hX dX11_count_75 rfl (pq := 76) rfl ?_
          refine wb_aload_n 0 hX dX11_count_76 rfl (pq := 77) rfl ?_
          refine wb_getR hX fl_1526 sh_161 rfl dX11_count_77 (pq := 80) rfl ?_
          obtain ⟨q_9, hc_8, h⟩ := bind_s h
          refine wb_callVi (r0 := q_9) (s1 := s_1) [.ref (G.1 167)] hX sh_161 ml_1505 (tM_sumOf sh_167 hc_8) (by decide) rfl rfl (Nat.le_of_ble_eq_true rfl) dX11_count_80 (pq := 83) rfl ?_
          exact wb_iret hX hQ h dX11_count_83
        · have h := ite_f c_7 h
          by_cases c_10 : x1 = iI (4)
          · have h := ite_t c_10 h
            refine wb_tabIn (tgt := 84) (off := 78) hX dX11_count_6 (by rw [c_10]; decide) (by rw [c_10]; decide) (by rw [c_10]; decide) (by decide) ?_
            refine wb_aload_n 0 hX dX11_count_84 rfl (pq := 85) rfl ?_
            obtain ⟨q_12, hc_11, h⟩ := bind_s h
            refine wb_callVi (r0 := q_12) (s1 := s_1) [] hX sh_161 ml_1509 (tM_pairsThere hc_11) (by decide) rfl rfl (Nat.le_of_ble_eq_true rfl) dX11_count_85 (pq := 88) rfl ?_
            exact wb_iret hX hQ h dX11_count_88
          · have h := ite_f c_10 h
            by_cases c_13 : x1 = iI (5)
            · have h := ite_t c_13 h
              refine wb_tabIn (tgt := 89) (off := 83) hX dX11_count_6 (by rw [c_13]; decide) (by rw [c_13]; decide) (by rw [c_13]; decide) (by decide) ?_
              refine wb_aload_n 0 hX dX11_count_89 rfl (pq := 90) rfl ?_
              refine wb_getI hX fl_1538 sh_161 rfl dX11_count_90 (pq := 93) rfl ?_
              exact wb_iret hX hQ h dX11_count_93
            · have h := ite_f c_13 h
              by_cases c_14 : x1 = iI (6)
              · have h := ite_t c_14 h
                refine wb_tabIn (tgt := 94) (off := 88) hX dX11_count_6 (by rw [c_14]; decide) (by rw [c_14]; decide) (by rw [c_14]; decide) (by decide) ?_
                refine wb_aload_n 0 hX dX11_count_94 rfl (pq := 95) rfl ?_
                refine wb_getI hX fl_1561 sh_161 rfl dX11_count_95 (pq := 98) rfl ?_
                exact wb_iret hX hQ h dX11_count_98
              · have h := ite_f c_14 h
                by_cases c_15 : x1 = iI (7)
                · have h := ite_t c_15 h
                  refine wb_tabIn (tgt := 99) (off := 93) hX dX11_count_6 (by rw [c_15]; decide) (by rw [c_15]; decide) (by rw [c_15]; decide) (by decide) ?_
                  refine wb_aload_n 0 hX dX11_count_99 rfl (pq := 100) rfl ?_
                  refine wb_getI hX fl_1519 sh_161 rfl dX11_count_100 (pq := 103) rfl ?_
                  exact wb_iret hX hQ h dX11_count_103
                · have h := ite_f c_15 h
                  by_cases c_16 : x1 = iI (8)
                  · have h := ite_t c_16 h
                    refine wb_tabIn (tgt := 104) (off := 98) hX dX11_count_6 (by rw [c_16]; decide) (by rw [c_16]; decide) (by rw [c_16]; decide) (by decide) ?_
                    refine wb_aload_n 0 hX dX11_count_104 rfl (pq := 105) rfl ?_
                    refine wb_getI hX fl_1530 sh_161 rfl dX11_count_105 (pq := 108) rfl ?_
                    exact wb_iret hX hQ h dX11_count_108
                  · have h := ite_f c_16 h
                    have tc_2 := lv_neT (a := 0) c_2 (by decide)
                    have tc_3 := lv_neT (a := 1) c_3 (by decide)
                    have tc_4 := lv_neT (a := 2) c_4 (by decide)
                    have tc_7 := lv_neT (a := 3) c_7 (by decide)
                    have tc_10 := lv_neT (a := 4) c_10 (by decide)
                    have tc_13 := lv_neT (a := 5) c_13 (by decide)
                    have tc_14 := lv_neT (a := 6) c_14 (by decide)
                    have tc_15 := lv_neT (a := 7) c_15 (by decide)
                    have tc_16 := lv_neT (a := 8) c_16 (by decide)
                    refine wb_tabOut (tgt := 109) hX dX11_count_6 (by omega) (by decide) ?_
                    refine wb_iconst (v := iI (-1)) hX dX11_count_109 rfl (pq := 110) rfl ?_
                    exact wb_iret hX hQ h dX11_count_110
set_option maxHeartbeats 4000000 in
set_option maxRecDepth 100000 in
theorem tM_row {l : Launch} {G : wG} {s : wM} {x1 : Int32} {r0 : Int32} {s1 : wM} (h : fM_row s x1 = some (r0, s1)) : wMet l G yX11_row cX11_row 2 (some .int) 1 [.ref (G.1 161), .int x1] s (wQi G r0 s1) := by
  refine wMet_of (own := RX11) (by decide +kernel) rfl (Nat.le_of_ble_eq_true rfl) ?_
  intro X hX hQ hN hl
  show WB G X 0 [(0, .ref (G.1 161)), (1, .int x1)] [] s
  unfold fM_row at h
  refine wb_aload_n 0 hX dX11_row_0 rfl (pq := 1) rfl ?_
  refine wb_iconst (v := iI (0)) hX dX11_row_1 rfl (pq := 2) rfl ?_
  refine wb_putI hX fp_1518 sh_161 rfl dX11_row_2 rfl rfl (pq := 5) rfl ?_
  refine wb_mem (fun s_1 es_1 => ?_)
  have h := nmM_s h s_1 es_1
  refine wb_iload_n 1 hX dX11_row_5 rfl (pq := 6) rfl ?_
  refine wb_i2l hX dX11_row_6 (pq := 7) rfl ?_
  refine wb_lconst (v := (0 : Int64)) hX dX11_row_7 rfl (pq := 8) rfl ?_
  refine wb_aload_n 0 hX dX11_row_8 rfl (pq := 9) rfl ?_
  refine wb_getI hX fl_1519 sh_161 rfl dX11_row_9 (pq := 12) rfl ?_
  refine wb_iconst (v := iI (1)) hX dX11_row_12 rfl (pq := 13) rfl ?_
  refine wb_isub hX dX11_row_13 (pq := 14) rfl ?_
  refine wb_i2l hX dX11_row_14 (pq := 15) rfl ?_
  obtain ⟨q_3, hc_2, h⟩ := bind_s h
  refine wb_callSi (r0 := q_3) (s1 := s_1) [.long x1.toInt64, .long (0 : Int64), .long (((s_1.1 161 1) - (iI (1))).toInt64)] hX ml_1124 (tM_in hc_2) (by decide) rfl rfl (Nat.le_of_ble_eq_true rfl) dX11_row_15 (pq := 18) rfl ?_
  refine wb_if_ne (tgt := 28) hX dX11_row_18 (by decide) (pq := 21) rfl (fun c_4 => ?_) (fun c_4 => ?_)
  · have h := ite_t c_4 h
    refine wb_aload_n 0 hX dX11_row_21 rfl (pq := 22) rfl ?_
    refine wb_iconst (v := iI (1)) hX dX11_row_22 rfl (pq := 23) rfl ?_
    refine wb_putI hX fp_1518 sh_161 rfl dX11_row_23 rfl rfl (pq := 26) rfl ?_
    refine wb_mem (fun s_5 es_5 => ?_)
    have h := nmM_s h s_5 es_5
    refine wb_iconst (v := iI (0)) hX dX11_row_26 rfl (pq := 27) rfl ?_
    exact wb_iret hX hQ h dX11_row_27
  · have h := ite_f c_4 h
    refine wb_aload_n 0 hX dX11_row_28 rfl (pq := 29) rfl ?_
    refine wb_getR hX fl_1520 sh_161 rfl dX11_row_29 (pq := 32) rfl ?_
    refine wb_iload_n 1 hX dX11_row_32 rfl (pq := 33) rfl ?_
    obtain ⟨hi_6, h⟩ := chk_some h
    refine wb_iald hX sh_162 hi_6 dX11_row_33 (pq := 34) rfl ?_
    exact wb_iret hX hQ h dX11_row_34
