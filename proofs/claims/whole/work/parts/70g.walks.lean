set_option maxHeartbeats 4000000 in
set_option maxRecDepth 100000 in
theorem tM_mercy_L58 {G : wG} {X : wX} {k41 : Int32 → wM → Option (Int32 × wM)} {x1 : Int32} {x2 : Int32} {r0 : Int32} {s1 : wM} (hX : wOK G X cX11_mercy RX11 (some .int) 3) (hQ : wRt G X (wQi G r0 s1)) (hN : wNl X = 7) (hk41 : ∀ (x2 : Int32) (s : wM), k41 x2 s = some (r0, s1) → WB G X 41 [(0, .ref (G.1 161)), (1, .int x1), (2, .int x2)] [] s) : ∀ (n : Nat) (x3 : Int32) (s : wM), wh2 (fM_mercy_L58 k41 x1 x2) n x3 s = some (r0, s1) → WB G X 58 [(0, .ref (G.1 161)), (1, .int x1), (2, .int x2), (3, .int x3)] [] s := by
  intro n
  induction n with
  | zero => intro x3 s h; cases h
  | succ n hk58 =>
    intro x3 s h
    have h : fM_mercy_L58 k41 x1 x2 x3 s (wh2 (fM_mercy_L58 k41 x1 x2) n) = some (r0, s1) := h
    unfold fM_mercy_L58 at h
    refine wb_iload_n 3 hX dX11_mercy_58 rfl (pq := 59) rfl ?_
    refine wb_aload_n 0 hX dX11_mercy_59 rfl (pq := 60) rfl ?_
    refine wb_getI hX fl_1521 sh_161 rfl dX11_mercy_60 (pq := 63) rfl ?_
    refine wb_icmp_ge (tgt := 90) hX dX11_mercy_63 (by decide) (fun c_1 => ?_) (pq := 66) rfl (fun c_1 => ?_)
    · have h := ite_t c_1 h
      refine wb_iinc (v := (x2 + iI (1))) (loc' := [(2, .int (x2 + iI (1))), (0, .ref (G.1 161)), (1, .int x1), (3, .int x3)]) 2 hX hN dX11_mercy_90 rfl rfl (by decide) rfl (pq := 93) rfl ?_
      refine wb_goto (tgt := 41) hX dX11_mercy_93 (by decide) ?_
      refine wb_sub [1, 2, 0] (loc' := [(0, .ref (G.1 161)), (1, .int x1), (2, .int (x2 + iI (1)))]) rfl ?_
      exact hk41 _ _ h
    · have h := ite_f c_1 h
      refine wb_aload_n 0 hX dX11_mercy_66 rfl (pq := 67) rfl ?_
      refine wb_getR hX fl_1558 sh_161 rfl dX11_mercy_67 (pq := 70) rfl ?_
      refine wb_iload_n 3 hX dX11_mercy_70 rfl (pq := 71) rfl ?_
      refine wb_dup2 hX dX11_mercy_71 rfl rfl (pq := 72) rfl ?_
      obtain ⟨hi_2, h⟩ := chk_some h
      refine wb_iald hX sh_188 hi_2 dX11_mercy_72 (pq := 73) rfl ?_
      refine wb_aload_n 0 hX dX11_mercy_73 rfl (pq := 74) rfl ?_
      refine wb_aload_n 0 hX dX11_mercy_74 rfl (pq := 75) rfl ?_
      refine wb_getR hX fl_1557 sh_161 rfl dX11_mercy_75 (pq := 78) rfl ?_
      refine wb_iload_n 3 hX dX11_mercy_78 rfl (pq := 79) rfl ?_
      obtain ⟨q_4, hc_3, h⟩ := bind_s h
      refine wb_callVi (r0 := q_4) (s1 := s) [.ref (G.1 187), .int x3] hX sh_161 ml_1179 (tM_evenWith sh_187 hc_3) (by decide) rfl rfl (Nat.le_of_ble_eq_true rfl) dX11_mercy_79 (pq := 82) rfl ?_
      refine wb_ior hX dX11_mercy_82 (pq := 83) rfl ?_
      refine wb_iast hX sh_188 hi_2 dX11_mercy_83 (pq := 84) rfl ?_
      refine wb_mem (fun s_5 es_5 => ?_)
      have h := nmM_s h s_5 es_5
      refine wb_iinc (v := (x3 + iI (1))) (loc' := [(3, .int (x3 + iI (1))), (0, .ref (G.1 161)), (1, .int x1), (2, .int x2)]) 3 hX hN dX11_mercy_84 rfl rfl (by decide) rfl (pq := 87) rfl ?_
      refine wb_goto (tgt := 58) hX dX11_mercy_87 (by decide) ?_
      refine wb_sub [1, 2, 3, 0] (loc' := [(0, .ref (G.1 161)), (1, .int x1), (2, .int x2), (3, .int (x3 + iI (1)))]) rfl ?_
      exact hk58 _ _ h
set_option maxHeartbeats 4000000 in
set_option maxRecDepth 100000 in
theorem tM_mercy_J209 {G : wG} {X : wX} {k138 : Int32 → Int32 → Option (Int32 × wM)} {k165 : Int32 → Int32 → Option (Int32 × wM)} {x2 : Int32} {x3 : Int32} {x4 : Int32} {x6 : Int32} {v0 : Int32} {s : wM} {r0 : Int32} {s1 : wM} (hX : wOK G X cX11_mercy RX11 (some .int) 3) (hQ : wRt G X (wQi G r0 s1)) (hN : wNl X = 7) (hk138 : ∀ (x3 : Int32) (x4 : Int32), k138 x3 x4 = some (r0, s1) → WB G X 138 [(0, .ref (G.1 161)), (2, .int x2), (3, .int x3), (4, .int x4)] [] s) (hk165 : ∀ (x5 : Int32) (x6 : Int32), k165 x5 x6 = some (r0, s1) → WB G X 165 [(0, .ref (G.1 161)), (2, .int x2), (3, .int x3), (4, .int x4), (5, .int x5), (6, .int x6)] [] s) (h : fM_mercy_J209 k138 k165 x2 x3 x4 x6 v0 s = some (r0, s1)) : WB G X 209 [(0, .ref (G.1 161)), (2, .int x2), (3, .int x3), (4, .int x4), (6, .int x6)] [.int v0] s := by
  unfold fM_mercy_J209 at h
  refine wb_istore (loc' := [(5, .int v0), (0, .ref (G.1 161)), (2, .int x2), (3, .int x3), (4, .int x4), (6, .int x6)]) hX hN dX11_mercy_209 (by decide) rfl (pq := 211) rfl ?_
  refine wb_iinc (v := (x6 + iI (1))) (loc' := [(6, .int (x6 + iI (1))), (5, .int v0), (0, .ref (G.1 161)), (2, .int x2), (3, .int x3), (4, .int x4)]) 5 hX hN dX11_mercy_211 rfl rfl (by decide) rfl (pq := 214) rfl ?_
  refine wb_goto (tgt := 165) hX dX11_mercy_214 (by decide) ?_
  refine wb_sub [2, 3, 4, 5, 1, 0] (loc' := [(0, .ref (G.1 161)), (2, .int x2), (3, .int x3), (4, .int x4), (5, .int v0), (6, .int (x6 + iI (1)))]) rfl ?_
  exact hk165 _ _ h
set_option maxHeartbeats 4000000 in
set_option maxRecDepth 100000 in
theorem tM_mercy_J204 {G : wG} {X : wX} {k138 : Int32 → Int32 → Option (Int32 × wM)} {k165 : Int32 → Int32 → Option (Int32 × wM)} {x2 : Int32} {x3 : Int32} {x4 : Int32} {x6 : Int32} {s : wM} {r0 : Int32} {s1 : wM} (hX : wOK G X cX11_mercy RX11 (some .int) 3) (hQ : wRt G X (wQi G r0 s1)) (hN : wNl X = 7) (hk138 : ∀ (x3 : Int32) (x4 : Int32), k138 x3 x4 = some (r0, s1) → WB G X 138 [(0, .ref (G.1 161)), (2, .int x2), (3, .int x3), (4, .int x4)] [] s) (hk165 : ∀ (x5 : Int32) (x6 : Int32), k165 x5 x6 = some (r0, s1) → WB G X 165 [(0, .ref (G.1 161)), (2, .int x2), (3, .int x3), (4, .int x4), (5, .int x5), (6, .int x6)] [] s) (h : fM_mercy_J204 k138 k165 x2 x3 x4 x6 s = some (r0, s1)) : WB G X 204 [(0, .ref (G.1 161)), (2, .int x2), (3, .int x3), (4, .int x4), (6, .int x6)] [] s := by
  unfold fM_mercy_J204 at h
  refine wb_iconst (v := iI (1)) hX dX11_mercy_204 rfl (pq := 205) rfl ?_
  refine wb_goto (tgt := 209) hX dX11_mercy_205 (by decide) ?_
  exact tM_mercy_J209 hX hQ hN hk138 hk165 h
set_option maxHeartbeats 4000000 in
set_option maxRecDepth 100000 in
theorem tM_mercy_J228 {G : wG} {X : wX} {k138 : Int32 → Int32 → Option (Int32 × wM)} {x2 : Int32} {x4 : Int32} {v0 : Int32} {s : wM} {r0 : Int32} {s1 : wM} (hX : wOK G X cX11_mercy RX11 (some .int) 3) (hQ : wRt G X (wQi G r0 s1)) (hN : wNl X = 7) (hk138 : ∀ (x3 : Int32) (x4 : Int32), k138 x3 x4 = some (r0, s1) → WB G X 138 [(0, .ref (G.1 161)), (2, .int x2), (3, .int x3), (4, .int x4)] [] s) (h : fM_mercy_J228 k138 x2 x4 v0 s = some (r0, s1)) : WB G X 228 [(0, .ref (G.1 161)), (2, .int x2), (4, .int x4)] [.int v0] s := by
  unfold fM_mercy_J228 at h
  refine wb_istore_n (loc' := [(3, .int v0), (0, .ref (G.1 161)), (2, .int x2), (4, .int x4)]) hX hN dX11_mercy_228 (by decide) rfl (pq := 229) rfl ?_
  refine wb_iinc (v := (x4 + iI (-1))) (loc' := [(4, .int (x4 + iI (-1))), (3, .int v0), (0, .ref (G.1 161)), (2, .int x2)]) 3 hX hN dX11_mercy_229 rfl rfl (by decide) rfl (pq := 232) rfl ?_
  refine wb_goto (tgt := 138) hX dX11_mercy_232 (by decide) ?_
  refine wb_sub [2, 3, 1, 0] (loc' := [(0, .ref (G.1 161)), (2, .int x2), (3, .int v0), (4, .int (x4 + iI (-1)))]) rfl ?_
  exact hk138 _ _ h
set_option maxHeartbeats 4000000 in
set_option maxRecDepth 100000 in
theorem tM_mercy_J217 {G : wG} {X : wX} {k138 : Int32 → Int32 → Option (Int32 × wM)} {x2 : Int32} {x3 : Int32} {x4 : Int32} {x5 : Int32} {s : wM} {r0 : Int32} {s1 : wM} (hX : wOK G X cX11_mercy RX11 (some .int) 3) (hQ : wRt G X (wQi G r0 s1)) (hN : wNl X = 7) (hk138 : ∀ (x3 : Int32) (x4 : Int32), k138 x3 x4 = some (r0, s1) → WB G X 138 [(0, .ref (G.1 161)), (2, .int x2), (3, .int x3), (4, .int x4)] [] s) (h : fM_mercy_J217 k138 x2 x3 x4 x5 s = some (r0, s1)) : WB G X 217 [(0, .ref (G.1 161)), (2, .int x2), (3, .int x3), (4, .int x4), (5, .int x5)] [] s := by
  unfold fM_mercy_J217 at h
  refine wb_iload 4 hX dX11_mercy_217 rfl (pq := 219) rfl ?_
  refine wb_if_eq (tgt := 227) hX dX11_mercy_219 (by decide) (fun c_1 => ?_) (pq := 222) rfl (fun c_1 => ?_)
  · have h := ite_t c_1 h
    refine wb_iload_n 2 hX dX11_mercy_227 rfl (pq := 228) rfl ?_
    refine wb_sub [0, 1, 3] (loc' := [(0, .ref (G.1 161)), (2, .int x2), (4, .int x4)]) rfl ?_
    exact tM_mercy_J228 hX hQ hN hk138 h
  · have h := ite_f c_1 h
    refine wb_iload 3 hX dX11_mercy_222 rfl (pq := 224) rfl ?_
    refine wb_goto (tgt := 228) hX dX11_mercy_224 (by decide) ?_
    refine wb_sub [0, 1, 3] (loc' := [(0, .ref (G.1 161)), (2, .int x2), (4, .int x4)]) rfl ?_
    exact tM_mercy_J228 hX hQ hN hk138 h
set_option maxHeartbeats 4000000 in
set_option maxRecDepth 100000 in
theorem tM_mercy_L165 {G : wG} {X : wX} {k138 : Int32 → Int32 → Option (Int32 × wM)} {x2 : Int32} {x3 : Int32} {x4 : Int32} {s : wM} {r0 : Int32} {s1 : wM} (hX : wOK G X cX11_mercy RX11 (some .int) 3) (hQ : wRt G X (wQi G r0 s1)) (hN : wNl X = 7) (hk138 : ∀ (x3 : Int32) (x4 : Int32), k138 x3 x4 = some (r0, s1) → WB G X 138 [(0, .ref (G.1 161)), (2, .int x2), (3, .int x3), (4, .int x4)] [] s) : ∀ (n : Nat) (x5 : Int32) (x6 : Int32), wh2 (fM_mercy_L165 k138 x2 x3 x4 s) n x5 x6 = some (r0, s1) → WB G X 165 [(0, .ref (G.1 161)), (2, .int x2), (3, .int x3), (4, .int x4), (5, .int x5), (6, .int x6)] [] s := by
  intro n
  induction n with
  | zero => intro x5 x6 h; cases h
  | succ n hk165 =>
    intro x5 x6 h
    have h : fM_mercy_L165 k138 x2 x3 x4 s x5 x6 (wh2 (fM_mercy_L165 k138 x2 x3 x4 s) n) = some (r0, s1) := h
    unfold fM_mercy_L165 at h
    refine wb_iload 5 hX dX11_mercy_165 rfl (pq := 167) rfl ?_
    refine wb_aload_n 0 hX dX11_mercy_167 rfl (pq := 168) rfl ?_
    refine wb_getI hX fl_1521 sh_161 rfl dX11_mercy_168 (pq := 171) rfl ?_
    refine wb_icmp_ge (tgt := 217) hX dX11_mercy_171 (by decide) (fun c_1 => ?_) (pq := 174) rfl (fun c_1 => ?_)
    · have h := ite_t c_1 h
      refine wb_sub [0, 1, 2, 3, 4] (loc' := [(0, .ref (G.1 161)), (2, .int x2), (3, .int x3), (4, .int x4), (5, .int x5)]) rfl ?_
      exact tM_mercy_J217 hX hQ hN hk138 h
    · have h := ite_f c_1 h
      refine wb_iload 4 hX dX11_mercy_174 rfl (pq := 176) rfl ?_
      refine wb_if_eq (tgt := 217) hX dX11_mercy_176 (by decide) (fun c_2 => ?_) (pq := 179) rfl (fun c_2 => ?_)
      · have h := ite_t c_2 h
        refine wb_sub [0, 1, 2, 3, 4] (loc' := [(0, .ref (G.1 161)), (2, .int x2), (3, .int x3), (4, .int x4), (5, .int x5)]) rfl ?_
        exact tM_mercy_J217 hX hQ hN hk138 h
      · have h := ite_f c_2 h
        refine wb_iload 3 hX dX11_mercy_179 rfl (pq := 181) rfl ?_
        refine wb_iload 5 hX dX11_mercy_181 rfl (pq := 183) rfl ?_
        obtain ⟨q_4, hc_3, h⟩ := bind_s h
        refine wb_callSi (r0 := q_4) (s1 := s) [.int x4, .int x6] hX ml_1187 (tM_has hc_3) (by decide) rfl rfl (Nat.le_of_ble_eq_true rfl) dX11_mercy_183 (pq := 186) rfl ?_
        refine wb_if_ne (tgt := 204) hX dX11_mercy_186 (by decide) (pq := 189) rfl (fun c_5 => ?_) (fun c_5 => ?_)
        · have h := ite_t c_5 h
          refine wb_aload_n 0 hX dX11_mercy_189 rfl (pq := 190) rfl ?_
          refine wb_getR hX fl_1558 sh_161 rfl dX11_mercy_190 (pq := 193) rfl ?_
          refine wb_iload 5 hX dX11_mercy_193 rfl (pq := 195) rfl ?_
          obtain ⟨hi_6, h⟩ := chk_some h
          refine wb_iald hX sh_188 hi_6 dX11_mercy_195 (pq := 196) rfl ?_
          refine wb_iload 3 hX dX11_mercy_196 rfl (pq := 198) rfl ?_
          refine wb_iconst (v := iI (-1)) hX dX11_mercy_198 rfl (pq := 199) rfl ?_
          refine wb_ixor hX dX11_mercy_199 (pq := 200) rfl ?_
          refine wb_iand hX dX11_mercy_200 (pq := 201) rfl ?_
          refine wb_if_ne (tgt := 208) hX dX11_mercy_201 (by decide) (pq := 204) rfl (fun c_7 => ?_) (fun c_7 => ?_)
          · have h := ite_t c_7 h
            refine wb_sub [0, 1, 2, 3, 5] (loc' := [(0, .ref (G.1 161)), (2, .int x2), (3, .int x3), (4, .int x4), (6, .int x6)]) rfl ?_
            exact tM_mercy_J204 hX hQ hN hk138 hk165 h
          · have h := ite_f c_7 h
            refine wb_iconst (v := iI (0)) hX dX11_mercy_208 rfl (pq := 209) rfl ?_
            refine wb_sub [0, 1, 2, 3, 5] (loc' := [(0, .ref (G.1 161)), (2, .int x2), (3, .int x3), (4, .int x4), (6, .int x6)]) rfl ?_
            exact tM_mercy_J209 hX hQ hN hk138 hk165 h
        · have h := ite_f c_5 h
          refine wb_sub [0, 1, 2, 3, 5] (loc' := [(0, .ref (G.1 161)), (2, .int x2), (3, .int x3), (4, .int x4), (6, .int x6)]) rfl ?_
          exact tM_mercy_J204 hX hQ hN hk138 hk165 h
set_option maxHeartbeats 4000000 in
set_option maxRecDepth 100000 in
theorem tM_mercy_J160 {G : wG} {X : wX} {k138 : Int32 → Int32 → Option (Int32 × wM)} {x2 : Int32} {x3 : Int32} {x4 : Int32} {v0 : Int32} {s : wM} {r0 : Int32} {s1 : wM} (hX : wOK G X cX11_mercy RX11 (some .int) 3) (hQ : wRt G X (wQi G r0 s1)) (hN : wNl X = 7) (hk138 : ∀ (x3 : Int32) (x4 : Int32), k138 x3 x4 = some (r0, s1) → WB G X 138 [(0, .ref (G.1 161)), (2, .int x2), (3, .int x3), (4, .int x4)] [] s) (h : fM_mercy_J160 k138 x2 x3 x4 v0 s = some (r0, s1)) : WB G X 160 [(0, .ref (G.1 161)), (2, .int x2), (3, .int x3), (4, .int x4)] [.int v0] s := by
  unfold fM_mercy_J160 at h
  refine wb_istore (loc' := [(5, .int v0), (0, .ref (G.1 161)), (2, .int x2), (3, .int x3), (4, .int x4)]) hX hN dX11_mercy_160 (by decide) rfl (pq := 162) rfl ?_
  refine wb_iconst (v := iI (0)) hX dX11_mercy_162 rfl (pq := 163) rfl ?_
  refine wb_istore (loc' := [(6, .int (iI (0))), (5, .int v0), (0, .ref (G.1 161)), (2, .int x2), (3, .int x3), (4, .int x4)]) hX hN dX11_mercy_163 (by decide) rfl (pq := 165) rfl ?_
  refine wb_sub [2, 3, 4, 5, 1, 0] (loc' := [(0, .ref (G.1 161)), (2, .int x2), (3, .int x3), (4, .int x4), (5, .int v0), (6, .int (iI (0)))]) rfl ?_
  exact tM_mercy_L165 hX hQ hN hk138 100000 _ _ h
set_option maxHeartbeats 4000000 in
set_option maxRecDepth 100000 in
theorem tM_mercy_L138 {G : wG} {X : wX} {x2 : Int32} {s : wM} {r0 : Int32} {s1 : wM} (hX : wOK G X cX11_mercy RX11 (some .int) 3) (hQ : wRt G X (wQi G r0 s1)) (hN : wNl X = 7) : ∀ (n : Nat) (x3 : Int32) (x4 : Int32), wh2 (fM_mercy_L138 x2 s) n x3 x4 = some (r0, s1) → WB G X 138 [(0, .ref (G.1 161)), (2, .int x2), (3, .int x3), (4, .int x4)] [] s := by
  intro n
  induction n with
  | zero => intro x3 x4 h; cases h
  | succ n hk138 =>
    intro x3 x4 h
    have h : fM_mercy_L138 x2 s x3 x4 (wh2 (fM_mercy_L138 x2 s) n) = some (r0, s1) := h
    unfold fM_mercy_L138 at h
    refine wb_iload 3 hX dX11_mercy_138 rfl (pq := 140) rfl ?_
    refine wb_if_lt (tgt := 235) hX dX11_mercy_140 (by decide) (fun c_1 => ?_) (pq := 143) rfl (fun c_1 => ?_)
    · have h := ite_t c_1 h
      refine wb_aload_n 0 hX dX11_mercy_235 rfl (pq := 236) rfl ?_
      refine wb_iconst (v := iI (0)) hX dX11_mercy_236 rfl (pq := 237) rfl ?_
      refine wb_putI hX fp_1519 sh_161 rfl dX11_mercy_237 rfl rfl (pq := 240) rfl ?_
      refine wb_mem (fun s_2 es_2 => ?_)
      have h := nmM_s h s_2 es_2
      refine wb_aload_n 0 hX dX11_mercy_240 rfl (pq := 241) rfl ?_
      refine wb_iload_n 2 hX dX11_mercy_241 rfl (pq := 242) rfl ?_
      obtain ⟨q_4, hc_3, h⟩ := bind_s h
      refine wb_callVv (s1 := q_4) [.int x3] hX sh_161 ml_1263 (tM_enters hc_3) (by decide) rfl rfl (Nat.le_of_ble_eq_true rfl) dX11_mercy_242 (pq := 245) rfl ?_
      refine wb_iload_n 1 hX dX11_mercy_245 rfl (pq := 246) rfl ?_
      refine wb_iconst (v := iI (2)) hX dX11_mercy_246 rfl (pq := 247) rfl ?_
      refine wb_idiv hX dX11_mercy_247 (by decide) (pq := 248) rfl ?_
      exact wb_iret hX hQ h dX11_mercy_248
    · have h := ite_f c_1 h
      refine wb_iload 3 hX dX11_mercy_143 rfl (pq := 145) rfl ?_
      obtain ⟨q_6, hc_5, h⟩ := bind_s h
      refine wb_callSi (r0 := q_6) (s1 := s) [.int x4] hX ml_1288 (tJ_bitCount hc_5) (by decide) rfl rfl (Nat.le_of_ble_eq_true rfl) dX11_mercy_145 (pq := 148) rfl ?_
      refine wb_iload_n 2 hX dX11_mercy_148 rfl (pq := 149) rfl ?_
      obtain ⟨q_8, hc_7, h⟩ := bind_s h
      refine wb_callSi (r0 := q_8) (s1 := s) [.int x3] hX ml_1288 (tJ_bitCount hc_7) (by decide) rfl rfl (Nat.le_of_ble_eq_true rfl) dX11_mercy_149 (pq := 152) rfl ?_
      refine wb_icmp_gt (tgt := 159) hX dX11_mercy_152 (by decide) (fun c_9 => ?_) (pq := 155) rfl (fun c_9 => ?_)
      · have h := ite_t c_9 h
        refine wb_iconst (v := iI (0)) hX dX11_mercy_159 rfl (pq := 160) rfl ?_
        exact tM_mercy_J160 hX hQ hN hk138 h
      · have h := ite_f c_9 h
        refine wb_iconst (v := iI (1)) hX dX11_mercy_155 rfl (pq := 156) rfl ?_
        refine wb_goto (tgt := 160) hX dX11_mercy_156 (by decide) ?_
        exact tM_mercy_J160 hX hQ hN hk138 h
set_option maxHeartbeats 4000000 in
set_option maxRecDepth 100000 in
theorem tM_mercy_L100 {G : wG} {X : wX} {s : wM} {r0 : Int32} {s1 : wM} (hX : wOK G X cX11_mercy RX11 (some .int) 3) (hQ : wRt G X (wQi G r0 s1)) (hN : wNl X = 7) : ∀ (n : Nat) (x2 : Int32) (x3 : Int32), wh2 (fM_mercy_L100 s) n x2 x3 = some (r0, s1) → WB G X 100 [(0, .ref (G.1 161)), (2, .int x2), (3, .int x3)] [] s := by
  intro n
  induction n with
  | zero => intro x2 x3 h; cases h
  | succ n hk100 =>
    intro x2 x3 h
    have h : fM_mercy_L100 s x2 x3 (wh2 (fM_mercy_L100 s) n) = some (r0, s1) := h
    unfold fM_mercy_L100 at h
    refine wb_iload_n 2 hX dX11_mercy_100 rfl (pq := 101) rfl ?_
    refine wb_aload_n 0 hX dX11_mercy_101 rfl (pq := 102) rfl ?_
    refine wb_getI hX fl_1521 sh_161 rfl dX11_mercy_102 (pq := 105) rfl ?_
    refine wb_icmp_ge (tgt := 126) hX dX11_mercy_105 (by decide) (fun c_1 => ?_) (pq := 108) rfl (fun c_1 => ?_)
    · have h := ite_t c_1 h
      refine wb_iconst (v := iI (1)) hX dX11_mercy_126 rfl (pq := 127) rfl ?_
      refine wb_aload_n 0 hX dX11_mercy_127 rfl (pq := 128) rfl ?_
      refine wb_getI hX fl_1521 sh_161 rfl dX11_mercy_128 (pq := 131) rfl ?_
      refine wb_ishl hX dX11_mercy_131 (pq := 132) rfl ?_
      refine wb_iconst (v := iI (1)) hX dX11_mercy_132 rfl (pq := 133) rfl ?_
      refine wb_isub hX dX11_mercy_133 (pq := 134) rfl ?_
      refine wb_istore_n (loc' := [(3, .int ((iShl (iI (1)) (s.1 161 3)) - (iI (1)))), (0, .ref (G.1 161)), (2, .int x2)]) hX hN dX11_mercy_134 (by decide) rfl (pq := 135) rfl ?_
      refine wb_iload_n 0 hX dX11_mercy_135 rfl (pq := 136) rfl ?_
      refine wb_istore (loc' := [(4, .int ((iShl (iI (1)) (s.1 161 3)) - (iI (1)))), (3, .int ((iShl (iI (1)) (s.1 161 3)) - (iI (1)))), (0, .ref (G.1 161)), (2, .int x2)]) hX hN dX11_mercy_136 (by decide) rfl (pq := 138) rfl ?_
      refine wb_sub [2, 3, 1, 0] (loc' := [(0, .ref (G.1 161)), (2, .int x2), (3, .int ((iShl (iI (1)) (s.1 161 3)) - (iI (1)))), (4, .int ((iShl (iI (1)) (s.1 161 3)) - (iI (1))))]) rfl ?_
      exact tM_mercy_L138 hX hQ hN 100000 _ _ h
    · have h := ite_f c_1 h
      refine wb_iload_n 1 hX dX11_mercy_108 rfl (pq := 109) rfl ?_
      refine wb_aload_n 0 hX dX11_mercy_109 rfl (pq := 110) rfl ?_
      refine wb_getR hX fl_1558 sh_161 rfl dX11_mercy_110 (pq := 113) rfl ?_
      refine wb_iload_n 2 hX dX11_mercy_113 rfl (pq := 114) rfl ?_
      obtain ⟨hi_2, h⟩ := chk_some h
      refine wb_iald hX sh_188 hi_2 dX11_mercy_114 (pq := 115) rfl ?_
      obtain ⟨q_4, hc_3, h⟩ := bind_s h
      refine wb_callSi (r0 := q_4) (s1 := s) [.int (s.1 188 x3.toNatClampNeg)] hX ml_1288 (tJ_bitCount hc_3) (by decide) rfl rfl (Nat.le_of_ble_eq_true rfl) dX11_mercy_115 (pq := 118) rfl ?_
      refine wb_iadd hX dX11_mercy_118 (pq := 119) rfl ?_
      refine wb_istore_n (loc' := [(2, .int (x2 + q_4)), (0, .ref (G.1 161)), (3, .int x3)]) hX hN dX11_mercy_119 (by decide) rfl (pq := 120) rfl ?_
      refine wb_iinc (v := (x3 + iI (1))) (loc' := [(3, .int (x3 + iI (1))), (2, .int (x2 + q_4)), (0, .ref (G.1 161))]) 2 hX hN dX11_mercy_120 rfl rfl (by decide) rfl (pq := 123) rfl ?_
      refine wb_goto (tgt := 100) hX dX11_mercy_123 (by decide) ?_
      refine wb_sub [2, 1, 0] (loc' := [(0, .ref (G.1 161)), (2, .int (x2 + q_4)), (3, .int (x3 + iI (1)))]) rfl ?_
      exact hk100 _ _ h
set_option maxHeartbeats 4000000 in
set_option maxRecDepth 100000 in
theorem tM_mercy_L41 {G : wG} {X : wX} {x1 : Int32} {r0 : Int32} {s1 : wM} (hX : wOK G X cX11_mercy RX11 (some .int) 3) (hQ : wRt G X (wQi G r0 s1)) (hN : wNl X = 7) : ∀ (n : Nat) (x2 : Int32) (s : wM), wh2 (fM_mercy_L41 x1) n x2 s = some (r0, s1) → WB G X 41 [(0, .ref (G.1 161)), (1, .int x1), (2, .int x2)] [] s := by
  intro n
  induction n with
  | zero => intro x2 s h; cases h
  | succ n hk41 =>
    intro x2 s h
    have h : fM_mercy_L41 x1 x2 s (wh2 (fM_mercy_L41 x1) n) = some (r0, s1) := h
    unfold fM_mercy_L41 at h
    refine wb_iload_n 2 hX dX11_mercy_41 rfl (pq := 42) rfl ?_
    refine wb_iload_n 1 hX dX11_mercy_42 rfl (pq := 43) rfl ?_
    refine wb_icmp_ge (tgt := 96) hX dX11_mercy_43 (by decide) (fun c_1 => ?_) (pq := 46) rfl (fun c_1 => ?_)
    · have h := ite_t c_1 h
      refine wb_iconst (v := iI (0)) hX dX11_mercy_96 rfl (pq := 97) rfl ?_
      refine wb_istore_n (loc' := [(2, .int (iI (0))), (0, .ref (G.1 161)), (1, .int x1)]) hX hN dX11_mercy_97 (by decide) rfl (pq := 98) rfl ?_
      refine wb_iconst (v := iI (0)) hX dX11_mercy_98 rfl (pq := 99) rfl ?_
      refine wb_istore_n (loc' := [(3, .int (iI (0))), (2, .int (iI (0))), (0, .ref (G.1 161)), (1, .int x1)]) hX hN dX11_mercy_99 (by decide) rfl (pq := 100) rfl ?_
      refine wb_sub [2, 1, 0] (loc' := [(0, .ref (G.1 161)), (2, .int (iI (0))), (3, .int (iI (0)))]) rfl ?_
      exact tM_mercy_L100 hX hQ hN 100000 _ _ h
    · have h := ite_f c_1 h
      refine wb_aload_n 0 hX dX11_mercy_46 rfl (pq := 47) rfl ?_
      refine wb_aload_n 0 hX dX11_mercy_47 rfl (pq := 48) rfl ?_
      refine wb_getR hX fl_1557 sh_161 rfl dX11_mercy_48 (pq := 51) rfl ?_
      refine wb_iconst (v := iI (0)) hX dX11_mercy_51 rfl (pq := 52) rfl ?_
      refine wb_iconst (v := iI (0)) hX dX11_mercy_52 rfl (pq := 53) rfl ?_
      obtain ⟨q_3, hc_2, h⟩ := bind_s h
      refine wb_callVv (s1 := q_3) [.ref (G.1 187), .int (iI (0)), .int (iI (0))] hX sh_161 ml_1280 (tM_weekGoes sh_187 hc_2) (by decide) rfl rfl (Nat.le_of_ble_eq_true rfl) dX11_mercy_53 (pq := 56) rfl ?_
      refine wb_iconst (v := iI (0)) hX dX11_mercy_56 rfl (pq := 57) rfl ?_
      refine wb_istore_n (loc' := [(3, .int (iI (0))), (0, .ref (G.1 161)), (1, .int x1), (2, .int x2)]) hX hN dX11_mercy_57 (by decide) rfl (pq := 58) rfl ?_
      refine wb_sub [1, 2, 3, 0] (loc' := [(0, .ref (G.1 161)), (1, .int x1), (2, .int x2), (3, .int (iI (0)))]) rfl ?_
      exact tM_mercy_L58 hX hQ hN hk41 100000 _ _ h
set_option maxHeartbeats 4000000 in
set_option maxRecDepth 100000 in
theorem tM_mercy_L20 {G : wG} {X : wX} {x1 : Int32} {r0 : Int32} {s1 : wM} (hX : wOK G X cX11_mercy RX11 (some .int) 3) (hQ : wRt G X (wQi G r0 s1)) (hN : wNl X = 7) : ∀ (n : Nat) (x2 : Int32) (s : wM), wh2 (fM_mercy_L20 x1) n x2 s = some (r0, s1) → WB G X 20 [(0, .ref (G.1 161)), (1, .int x1), (2, .int x2)] [] s := by
  intro n
  induction n with
  | zero => intro x2 s h; cases h
  | succ n hk20 =>
    intro x2 s h
    have h : fM_mercy_L20 x1 x2 s (wh2 (fM_mercy_L20 x1) n) = some (r0, s1) := h
    unfold fM_mercy_L20 at h
    refine wb_iload_n 2 hX dX11_mercy_20 rfl (pq := 21) rfl ?_
    refine wb_bipush (v := iI (9)) hX dX11_mercy_21 (by decide) (pq := 23) rfl ?_
    refine wb_icmp_ge (tgt := 39) hX dX11_mercy_23 (by decide) (fun c_1 => ?_) (pq := 26) rfl (fun c_1 => ?_)
    · have h := ite_t c_1 h
      refine wb_iconst (v := iI (0)) hX dX11_mercy_39 rfl (pq := 40) rfl ?_
      refine wb_istore_n (loc' := [(2, .int (iI (0))), (0, .ref (G.1 161)), (1, .int x1)]) hX hN dX11_mercy_40 (by decide) rfl (pq := 41) rfl ?_
      refine wb_sub [1, 2, 0] (loc' := [(0, .ref (G.1 161)), (1, .int x1), (2, .int (iI (0)))]) rfl ?_
      exact tM_mercy_L41 hX hQ hN 100000 _ _ h
    · have h := ite_f c_1 h
      refine wb_aload_n 0 hX dX11_mercy_26 rfl (pq := 27) rfl ?_
      refine wb_getR hX fl_1558 sh_161 rfl dX11_mercy_27 (pq := 30) rfl ?_
      refine wb_iload_n 2 hX dX11_mercy_30 rfl (pq := 31) rfl ?_
      refine wb_iconst (v := iI (0)) hX dX11_mercy_31 rfl (pq := 32) rfl ?_
      obtain ⟨hi_2, h⟩ := chk_some h
      refine wb_iast hX sh_188 hi_2 dX11_mercy_32 (pq := 33) rfl ?_
      refine wb_mem (fun s_3 es_3 => ?_)
      have h := nmM_s h s_3 es_3
      refine wb_iinc (v := (x2 + iI (1))) (loc' := [(2, .int (x2 + iI (1))), (0, .ref (G.1 161)), (1, .int x1)]) 2 hX hN dX11_mercy_33 rfl rfl (by decide) rfl (pq := 36) rfl ?_
      refine wb_goto (tgt := 20) hX dX11_mercy_36 (by decide) ?_
      refine wb_sub [1, 2, 0] (loc' := [(0, .ref (G.1 161)), (1, .int x1), (2, .int (x2 + iI (1)))]) rfl ?_
      exact hk20 _ _ h
set_option maxHeartbeats 4000000 in
set_option maxRecDepth 100000 in
theorem tM_mercy {l : Launch} {G : wG} {s : wM} {x1 : Int32} {r0 : Int32} {s1 : wM} (h : fM_mercy s x1 = some (r0, s1)) : wMet l G yX11_mercy cX11_mercy 7 (some .int) 3 [.ref (G.1 161), .int x1] s (wQi G r0 s1) := by
  refine wMet_of (own := RX11) (by decide +kernel) rfl (Nat.le_of_ble_eq_true rfl) ?_
  intro X hX hQ hN hl
  show WB G X 0 [(0, .ref (G.1 161)), (1, .int x1)] [] s
  unfold fM_mercy at h
  refine wb_aload_n 0 hX dX11_mercy_0 rfl (pq := 1) rfl ?_
  refine wb_iconst (v := iI (0)) hX dX11_mercy_1 rfl (pq := 2) rfl ?_
  refine wb_putI hX fp_1518 sh_161 rfl dX11_mercy_2 rfl rfl (pq := 5) rfl ?_
  refine wb_mem (fun s_1 es_1 => ?_)
  have h := nmM_s h s_1 es_1
  refine wb_iload_n 1 hX dX11_mercy_5 rfl (pq := 6) rfl ?_
  obtain ⟨q_3, hc_2, h⟩ := bind_s h
  refine wb_callSi (r0 := q_3) (s1 := s_1) [.int x1] hX ml_1412 (tM_isHundred hc_2) (by decide) rfl rfl (Nat.le_of_ble_eq_true rfl) dX11_mercy_6 (pq := 9) rfl ?_
  refine wb_if_ne (tgt := 14) hX dX11_mercy_9 (by decide) (pq := 12) rfl (fun c_4 => ?_) (fun c_4 => ?_)
  · have h := ite_t c_4 h
    refine wb_iconst (v := iI (-1)) hX dX11_mercy_12 rfl (pq := 13) rfl ?_
    exact wb_iret hX hQ h dX11_mercy_13
  · have h := ite_f c_4 h
    refine wb_aload_n 0 hX dX11_mercy_14 rfl (pq := 15) rfl ?_
    obtain ⟨q_6, hc_5, h⟩ := bind_s h
    refine wb_callVv (s1 := q_6) [] hX sh_161 ml_1404 (tM_startsThen hc_5) (by decide) rfl rfl (Nat.le_of_ble_eq_true rfl) dX11_mercy_15 (pq := 18) rfl ?_
    refine wb_iconst (v := iI (0)) hX dX11_mercy_18 rfl (pq := 19) rfl ?_
    refine wb_istore_n (loc' := [(2, .int (iI (0))), (0, .ref (G.1 161)), (1, .int x1)]) hX hN dX11_mercy_19 (by decide) rfl (pq := 20) rfl ?_
    refine wb_sub [1, 2, 0] (loc' := [(0, .ref (G.1 161)), (1, .int x1), (2, .int (iI (0)))]) rfl ?_
    exact tM_mercy_L20 hX hQ hN 100000 _ _ h
set_option maxHeartbeats 4000000 in
set_option maxRecDepth 100000 in
theorem tM_drought_J97 {G : wG} {X : wX} {k27 : Int32 → wM → Option (Int32 × wM)} {k63 : Int32 → Int32 → Option (Int32 × wM)} {x1 : Int32} {x2 : Int32} {x4 : Int32} {v0 : Int32} {s : wM} {r0 : Int32} {s1 : wM} (hX : wOK G X cX11_drought RX11 (some .int) 3) (hQ : wRt G X (wQi G r0 s1)) (hN : wNl X = 5) (hk27 : ∀ (x2 : Int32) (s : wM), k27 x2 s = some (r0, s1) → WB G X 27 [(0, .ref (G.1 161)), (1, .int x1), (2, .int x2)] [] s) (hk63 : ∀ (x3 : Int32) (x4 : Int32), k63 x3 x4 = some (r0, s1) → WB G X 63 [(0, .ref (G.1 161)), (1, .int x1), (2, .int x2), (3, .int x3), (4, .int x4)] [] s) (h : fM_drought_J97 k27 k63 x1 x2 x4 v0 s = some (r0, s1)) : WB G X 97 [(0, .ref (G.1 161)), (1, .int x1), (2, .int x2), (4, .int x4)] [.int v0] s := by
  unfold fM_drought_J97 at h
  refine wb_istore_n (loc' := [(3, .int v0), (0, .ref (G.1 161)), (1, .int x1), (2, .int x2), (4, .int x4)]) hX hN dX11_drought_97 (by decide) rfl (pq := 98) rfl ?_
  refine wb_iinc (v := (x4 + iI (1))) (loc' := [(4, .int (x4 + iI (1))), (3, .int v0), (0, .ref (G.1 161)), (1, .int x1), (2, .int x2)]) 4 hX hN dX11_drought_98 rfl rfl (by decide) rfl (pq := 101) rfl ?_
  refine wb_goto (tgt := 63) hX dX11_drought_101 (by decide) ?_
  refine wb_sub [2, 3, 4, 1, 0] (loc' := [(0, .ref (G.1 161)), (1, .int x1), (2, .int x2), (3, .int v0), (4, .int (x4 + iI (1)))]) rfl ?_
  exact hk63 _ _ h
set_option maxHeartbeats 4000000 in
set_option maxRecDepth 100000 in
theorem tM_drought_J96 {G : wG} {X : wX} {k27 : Int32 → wM → Option (Int32 × wM)} {k63 : Int32 → Int32 → Option (Int32 × wM)} {x1 : Int32} {x2 : Int32} {x4 : Int32} {s : wM} {r0 : Int32} {s1 : wM} (hX : wOK G X cX11_drought RX11 (some .int) 3) (hQ : wRt G X (wQi G r0 s1)) (hN : wNl X = 5) (hk27 : ∀ (x2 : Int32) (s : wM), k27 x2 s = some (r0, s1) → WB G X 27 [(0, .ref (G.1 161)), (1, .int x1), (2, .int x2)] [] s) (hk63 : ∀ (x3 : Int32) (x4 : Int32), k63 x3 x4 = some (r0, s1) → WB G X 63 [(0, .ref (G.1 161)), (1, .int x1), (2, .int x2), (3, .int x3), (4, .int x4)] [] s) (h : fM_drought_J96 k27 k63 x1 x2 x4 s = some (r0, s1)) : WB G X 96 [(0, .ref (G.1 161)), (1, .int x1), (2, .int x2), (4, .int x4)] [] s := by
  unfold fM_drought_J96 at h
  refine wb_iconst (v := iI (0)) hX dX11_drought_96 rfl (pq := 97) rfl ?_
  exact tM_drought_J97 hX hQ hN hk27 hk63 h
set_option maxHeartbeats 4000000 in
set_option maxRecDepth 100000 in
theorem tM_drought_L63 {G : wG} {X : wX} {k27 : Int32 → wM → Option (Int32 × wM)} {x1 : Int32} {x2 : Int32} {s : wM} {r0 : Int32} {s1 : wM} (hX : wOK G X cX11_drought RX11 (some .int) 3) (hQ : wRt G X (wQi G r0 s1)) (hN : wNl X = 5) (hk27 : ∀ (x2 : Int32) (s : wM), k27 x2 s = some (r0, s1) → WB G X 27 [(0, .ref (G.1 161)), (1, .int x1), (2, .int x2)] [] s) : ∀ (n : Nat) (x3 : Int32) (x4 : Int32), wh2 (fM_drought_L63 k27 x1 x2 s) n x3 x4 = some (r0, s1) → WB G X 63 [(0, .ref (G.1 161)), (1, .int x1), (2, .int x2), (3, .int x3), (4, .int x4)] [] s := by
  intro n
  induction n with
  | zero => intro x3 x4 h; cases h
  | succ n hk63 =>
    intro x3 x4 h
    have h : fM_drought_L63 k27 x1 x2 s x3 x4 (wh2 (fM_drought_L63 k27 x1 x2 s) n) = some (r0, s1) := h
    unfold fM_drought_L63 at h
    refine wb_iload 4 hX dX11_drought_63 rfl (pq := 65) rfl ?_
    refine wb_aload_n 0 hX dX11_drought_65 rfl (pq := 66) rfl ?_
    refine wb_getI hX fl_1521 sh_161 rfl dX11_drought_66 (pq := 69) rfl ?_
    refine wb_icmp_ge (tgt := 104) hX dX11_drought_69 (by decide) (fun c_1 => ?_) (pq := 72) rfl (fun c_1 => ?_)
    · have h := ite_t c_1 h
      refine wb_iload_n 3 hX dX11_drought_104 rfl (pq := 105) rfl ?_
      refine wb_if_eq (tgt := 110) hX dX11_drought_105 (by decide) (fun c_2 => ?_) (pq := 108) rfl (fun c_2 => ?_)
      · have h := ite_t c_2 h
        refine wb_iinc (v := (x2 + iI (1))) (loc' := [(2, .int (x2 + iI (1))), (0, .ref (G.1 161)), (1, .int x1), (3, .int x3), (4, .int x4)]) 2 hX hN dX11_drought_110 rfl rfl (by decide) rfl (pq := 113) rfl ?_
        refine wb_goto (tgt := 27) hX dX11_drought_113 (by decide) ?_
        refine wb_sub [1, 2, 0] (loc' := [(0, .ref (G.1 161)), (1, .int x1), (2, .int (x2 + iI (1)))]) rfl ?_
        exact hk27 _ _ h
      · have h := ite_f c_2 h
        refine wb_iload_n 2 hX dX11_drought_108 rfl (pq := 109) rfl ?_
        exact wb_iret hX hQ h dX11_drought_109
    · have h := ite_f c_1 h
      refine wb_iload_n 3 hX dX11_drought_72 rfl (pq := 73) rfl ?_
      refine wb_if_eq (tgt := 96) hX dX11_drought_73 (by decide) (fun c_3 => ?_) (pq := 76) rfl (fun c_3 => ?_)
      · have h := ite_t c_3 h
        refine wb_sub [0, 1, 2, 4] (loc' := [(0, .ref (G.1 161)), (1, .int x1), (2, .int x2), (4, .int x4)]) rfl ?_
        exact tM_drought_J96 hX hQ hN hk27 hk63 h
      · have h := ite_f c_3 h
        refine wb_aload_n 0 hX dX11_drought_76 rfl (pq := 77) rfl ?_
        refine wb_getR hX fl_1557 sh_161 rfl dX11_drought_77 (pq := 80) rfl ?_
        refine wb_iload 4 hX dX11_drought_80 rfl (pq := 82) rfl ?_
        obtain ⟨hi_4, h⟩ := chk_some h
        refine wb_iald hX sh_187 hi_4 dX11_drought_82 (pq := 83) rfl ?_
        refine wb_aload_n 0 hX dX11_drought_83 rfl (pq := 84) rfl ?_
        refine wb_getR hX fl_1557 sh_161 rfl dX11_drought_84 (pq := 87) rfl ?_
        refine wb_iconst (v := iI (0)) hX dX11_drought_87 rfl (pq := 88) rfl ?_
        refine wb_iald hX sh_187 (by unfold vp_in; decide) dX11_drought_88 (pq := 89) rfl ?_
        refine wb_icmp_ne (tgt := 96) hX dX11_drought_89 (by decide) (pq := 92) rfl (fun c_5 => ?_) (fun c_5 => ?_)
        · have h := ite_t c_5 h
          refine wb_iconst (v := iI (1)) hX dX11_drought_92 rfl (pq := 93) rfl ?_
          refine wb_goto (tgt := 97) hX dX11_drought_93 (by decide) ?_
          refine wb_sub [0, 1, 2, 4] (loc' := [(0, .ref (G.1 161)), (1, .int x1), (2, .int x2), (4, .int x4)]) rfl ?_
          exact tM_drought_J97 hX hQ hN hk27 hk63 h
        · have h := ite_f c_5 h
          refine wb_sub [0, 1, 2, 4] (loc' := [(0, .ref (G.1 161)), (1, .int x1), (2, .int x2), (4, .int x4)]) rfl ?_
          exact tM_drought_J96 hX hQ hN hk27 hk63 h
set_option maxHeartbeats 4000000 in
set_option maxRecDepth 100000 in
theorem tM_drought_J116 {G : wG} {X : wX} {s : wM} {r0 : Int32} {s1 : wM} (hX : wOK G X cX11_drought RX11 (some .int) 3) (hQ : wRt G X (wQi G r0 s1)) (hN : wNl X = 5) (h : fM_drought_J116 s = some (r0, s1)) : WB G X 116 [] [] s := by
  unfold fM_drought_J116 at h
  refine wb_bipush (v := iI (-2)) hX dX11_drought_116 (by decide) (pq := 118) rfl ?_
  exact wb_iret hX hQ h dX11_drought_118
set_option maxHeartbeats 4000000 in
set_option maxRecDepth 100000 in
theorem tM_drought_L27 {G : wG} {X : wX} {x1 : Int32} {r0 : Int32} {s1 : wM} (hX : wOK G X cX11_drought RX11 (some .int) 3) (hQ : wRt G X (wQi G r0 s1)) (hN : wNl X = 5) : ∀ (n : Nat) (x2 : Int32) (s : wM), wh2 (fM_drought_L27 x1) n x2 s = some (r0, s1) → WB G X 27 [(0, .ref (G.1 161)), (1, .int x1), (2, .int x2)] [] s := by
  intro n
  induction n with
  | zero => intro x2 s h; cases h
  | succ n hk27 =>
    intro x2 s h
    have h : fM_drought_L27 x1 x2 s (wh2 (fM_drought_L27 x1) n) = some (r0, s1) := h
    unfold fM_drought_L27 at h
    refine wb_iload_n 2 hX dX11_drought_27 rfl (pq := 28) rfl ?_
    refine wb_bipush (v := iI (100)) hX dX11_drought_28 (by decide) (pq := 30) rfl ?_
    refine wb_icmp_gt (tgt := 116) hX dX11_drought_30 (by decide) (fun c_1 => ?_) (pq := 33) rfl (fun c_1 => ?_)
    · have h := ite_t c_1 h
      refine wb_sub [] (loc' := []) rfl ?_
      exact tM_drought_J116 hX hQ hN h
    · have h := ite_f c_1 h
      refine wb_aload_n 0 hX dX11_drought_33 rfl (pq := 34) rfl ?_
      refine wb_getI hX fl_1521 sh_161 rfl dX11_drought_34 (pq := 37) rfl ?_
      refine wb_iconst (v := iI (1)) hX dX11_drought_37 rfl (pq := 38) rfl ?_
      refine wb_icmp_le (tgt := 116) hX dX11_drought_38 (by decide) (fun c_2 => ?_) (pq := 41) rfl (fun c_2 => ?_)
      · have h := ite_t c_2 h
        refine wb_sub [] (loc' := []) rfl ?_
        exact tM_drought_J116 hX hQ hN h
      · have h := ite_f c_2 h
        refine wb_aload_n 0 hX dX11_drought_41 rfl (pq := 42) rfl ?_
        refine wb_aload_n 0 hX dX11_drought_42 rfl (pq := 43) rfl ?_
        refine wb_getR hX fl_1557 sh_161 rfl dX11_drought_43 (pq := 46) rfl ?_
        refine wb_iload_n 1 hX dX11_drought_46 rfl (pq := 47) rfl ?_
        refine wb_iconst (v := iI (1)) hX dX11_drought_47 rfl (pq := 48) rfl ?_
        refine wb_aload_n 0 hX dX11_drought_48 rfl (pq := 49) rfl ?_
        refine wb_getI hX fl_1521 sh_161 rfl dX11_drought_49 (pq := 52) rfl ?_
        refine wb_ishl hX dX11_drought_52 (pq := 53) rfl ?_
        refine wb_iconst (v := iI (1)) hX dX11_drought_53 rfl (pq := 54) rfl ?_
        refine wb_isub hX dX11_drought_54 (pq := 55) rfl ?_
        obtain ⟨q_4, hc_3, h⟩ := bind_s h
        refine wb_callVv (s1 := q_4) [.ref (G.1 187), .int x1, .int ((iShl (iI (1)) (s.1 161 3)) - (iI (1)))] hX sh_161 ml_1280 (tM_weekGoes sh_187 hc_3) (by decide) rfl rfl (Nat.le_of_ble_eq_true rfl) dX11_drought_55 (pq := 58) rfl ?_
        refine wb_iconst (v := iI (1)) hX dX11_drought_58 rfl (pq := 59) rfl ?_
        refine wb_istore_n (loc' := [(3, .int (iI (1))), (0, .ref (G.1 161)), (1, .int x1), (2, .int x2)]) hX hN dX11_drought_59 (by decide) rfl (pq := 60) rfl ?_
        refine wb_iconst (v := iI (1)) hX dX11_drought_60 rfl (pq := 61) rfl ?_
        refine wb_istore (loc' := [(4, .int (iI (1))), (3, .int (iI (1))), (0, .ref (G.1 161)), (1, .int x1), (2, .int x2)]) hX hN dX11_drought_61 (by decide) rfl (pq := 63) rfl ?_
        refine wb_sub [2, 3, 4, 1, 0] (loc' := [(0, .ref (G.1 161)), (1, .int x1), (2, .int x2), (3, .int (iI (1))), (4, .int (iI (1)))]) rfl ?_
        exact tM_drought_L63 hX hQ hN hk27 100000 _ _ h
set_option maxHeartbeats 4000000 in
set_option maxRecDepth 100000 in
theorem tM_drought {l : Launch} {G : wG} {s : wM} {x1 : Int32} {r0 : Int32} {s1 : wM} (h : fM_drought s x1 = some (r0, s1)) : wMet l G yX11_drought cX11_drought 5 (some .int) 3 [.ref (G.1 161), .int x1] s (wQi G r0 s1) := by
  refine wMet_of (own := RX11) (by decide +kernel) rfl (Nat.le_of_ble_eq_true rfl) ?_
  intro X hX hQ hN hl
  show WB G X 0 [(0, .ref (G.1 161)), (1, .int x1)] [] s
  unfold fM_drought at h
  refine wb_aload_n 0 hX dX11_drought_0 rfl (pq := 1) rfl ?_
  refine wb_iconst (v := iI (0)) hX dX11_drought_1 rfl (pq := 2) rfl ?_
  refine wb_putI hX fp_1518 sh_161 rfl dX11_drought_2 rfl rfl (pq := 5) rfl ?_
  refine wb_mem (fun s_1 es_1 => ?_)
  have h := nmM_s h s_1 es_1
  refine wb_iload_n 1 hX dX11_drought_5 rfl (pq := 6) rfl ?_
  refine wb_i2l hX dX11_drought_6 (pq := 7) rfl ?_
  refine wb_ldc2 (v := (-9 : Int64)) hX k_1271 dX11_drought_7 (pq := 10) rfl ?_
  refine wb_ldc2 (v := (9 : Int64)) hX k_1204 dX11_drought_10 (pq := 13) rfl ?_
  obtain ⟨q_3, hc_2, h⟩ := bind_s h
  refine wb_callSi (r0 := q_3) (s1 := s_1) [.long x1.toInt64, .long (-9 : Int64), .long (9 : Int64)] hX ml_1124 (tM_in hc_2) (by decide) rfl rfl (Nat.le_of_ble_eq_true rfl) dX11_drought_13 (pq := 16) rfl ?_
  refine wb_if_ne (tgt := 21) hX dX11_drought_16 (by decide) (pq := 19) rfl (fun c_4 => ?_) (fun c_4 => ?_)
  · have h := ite_t c_4 h
    refine wb_iconst (v := iI (-1)) hX dX11_drought_19 rfl (pq := 20) rfl ?_
    exact wb_iret hX hQ h dX11_drought_20
  · have h := ite_f c_4 h
    refine wb_aload_n 0 hX dX11_drought_21 rfl (pq := 22) rfl ?_
    obtain ⟨q_6, hc_5, h⟩ := bind_s h
    refine wb_callVv (s1 := q_6) [] hX sh_161 ml_1404 (tM_startsThen hc_5) (by decide) rfl rfl (Nat.le_of_ble_eq_true rfl) dX11_drought_22 (pq := 25) rfl ?_
    refine wb_iconst (v := iI (1)) hX dX11_drought_25 rfl (pq := 26) rfl ?_
    refine wb_istore_n (loc' := [(2, .int (iI (1))), (0, .ref (G.1 161)), (1, .int x1)]) hX hN dX11_drought_26 (by decide) rfl (pq := 27) rfl ?_
    refine wb_sub [1, 2, 0] (loc' := [(0, .ref (G.1 161)), (1, .int x1), (2, .int (iI (1)))]) rfl ?_
    exact tM_drought_L27 hX hQ hN 100000 _ _ h
set_option maxHeartbeats 4000000 in
set_option maxRecDepth 100000 in
theorem tM_clash_L22 {G : wG} {X : wX} {x1 : Int32} {x2 : Int32} {r0 : Int32} {s1 : wM} (hX : wOK G X cX11_clash RX11 (some .int) 3) (hQ : wRt G X (wQi G r0 s1)) (hN : wNl X = 4) : ∀ (n : Nat) (x3 : Int32) (s : wM), wh2 (fM_clash_L22 x1 x2) n x3 s = some (r0, s1) → WB G X 22 [(0, .ref (G.1 161)), (1, .int x1), (2, .int x2), (3, .int x3)] [] s := by
  intro n
  induction n with
  | zero => intro x3 s h; cases h
  | succ n hk22 =>
    intro x3 s h
    have h : fM_clash_L22 x1 x2 x3 s (wh2 (fM_clash_L22 x1 x2) n) = some (r0, s1) := h
    unfold fM_clash_L22 at h
    refine wb_iload_n 3 hX dX11_clash_22 rfl (pq := 23) rfl ?_
    refine wb_bipush (v := iI (100)) hX dX11_clash_23 (by decide) (pq := 25) rfl ?_
    refine wb_icmp_gt (tgt := 59) hX dX11_clash_25 (by decide) (fun c_1 => ?_) (pq := 28) rfl (fun c_1 => ?_)
    · have h := ite_t c_1 h
      refine wb_bipush (v := iI (-2)) hX dX11_clash_59 (by decide) (pq := 61) rfl ?_
      exact wb_iret hX hQ h dX11_clash_61
    · have h := ite_f c_1 h
      refine wb_aload_n 0 hX dX11_clash_28 rfl (pq := 29) rfl ?_
      refine wb_aload_n 0 hX dX11_clash_29 rfl (pq := 30) rfl ?_
      refine wb_getR hX fl_1557 sh_161 rfl dX11_clash_30 (pq := 33) rfl ?_
      refine wb_iconst (v := iI (0)) hX dX11_clash_33 rfl (pq := 34) rfl ?_
      refine wb_iconst (v := iI (0)) hX dX11_clash_34 rfl (pq := 35) rfl ?_
      obtain ⟨q_3, hc_2, h⟩ := bind_s h
      refine wb_callVv (s1 := q_3) [.ref (G.1 187), .int (iI (0)), .int (iI (0))] hX sh_161 ml_1280 (tM_weekGoes sh_187 hc_2) (by decide) rfl rfl (Nat.le_of_ble_eq_true rfl) dX11_clash_35 (pq := 38) rfl ?_
      refine wb_aload_n 0 hX dX11_clash_38 rfl (pq := 39) rfl ?_
      refine wb_aload_n 0 hX dX11_clash_39 rfl (pq := 40) rfl ?_
      refine wb_getR hX fl_1557 sh_161 rfl dX11_clash_40 (pq := 43) rfl ?_
      refine wb_iload_n 1 hX dX11_clash_43 rfl (pq := 44) rfl ?_
      refine wb_iload_n 2 hX dX11_clash_44 rfl (pq := 45) rfl ?_
      obtain ⟨q_5, hc_4, h⟩ := bind_s h
      refine wb_callVi (r0 := q_5) (s1 := q_3) [.ref (G.1 187), .int x1, .int x2] hX sh_161 ml_1183 (tM_isEven sh_187 hc_4) (by decide) rfl rfl (Nat.le_of_ble_eq_true rfl) dX11_clash_45 (pq := 48) rfl ?_
      refine wb_if_eq (tgt := 53) hX dX11_clash_48 (by decide) (fun c_6 => ?_) (pq := 51) rfl (fun c_6 => ?_)
      · have h := ite_t c_6 h
        refine wb_iinc (v := (x3 + iI (1))) (loc' := [(3, .int (x3 + iI (1))), (0, .ref (G.1 161)), (1, .int x1), (2, .int x2)]) 3 hX hN dX11_clash_53 rfl rfl (by decide) rfl (pq := 56) rfl ?_
        refine wb_goto (tgt := 22) hX dX11_clash_56 (by decide) ?_
        refine wb_sub [1, 2, 3, 0] (loc' := [(0, .ref (G.1 161)), (1, .int x1), (2, .int x2), (3, .int (x3 + iI (1)))]) rfl ?_
        exact hk22 _ _ h
      · have h := ite_f c_6 h
        refine wb_iload_n 3 hX dX11_clash_51 rfl (pq := 52) rfl ?_
        exact wb_iret hX hQ h dX11_clash_52
set_option maxHeartbeats 4000000 in
set_option maxRecDepth 100000 in
theorem tM_clash {l : Launch} {G : wG} {s : wM} {x1 : Int32} {x2 : Int32} {r0 : Int32} {s1 : wM} (h : fM_clash s x1 x2 = some (r0, s1)) : wMet l G yX11_clash cX11_clash 4 (some .int) 3 [.ref (G.1 161), .int x1, .int x2] s (wQi G r0 s1) := by
  refine wMet_of (own := RX11) (by decide +kernel) rfl (Nat.le_of_ble_eq_true rfl) ?_
  intro X hX hQ hN hl
  show WB G X 0 [(0, .ref (G.1 161)), (1, .int x1), (2, .int x2)] [] s
  unfold fM_clash at h
  refine wb_aload_n 0 hX dX11_clash_0 rfl (pq := 1) rfl ?_
  refine wb_iconst (v := iI (0)) hX dX11_clash_1 rfl (pq := 2) rfl ?_
  refine wb_putI hX fp_1518 sh_161 rfl dX11_clash_2 rfl rfl (pq := 5) rfl ?_
  refine wb_mem (fun s_1 es_1 => ?_)
  have h := nmM_s h s_1 es_1
  refine wb_aload_n 0 hX dX11_clash_5 rfl (pq := 6) rfl ?_
  refine wb_iload_n 1 hX dX11_clash_6 rfl (pq := 7) rfl ?_
  refine wb_iload_n 2 hX dX11_clash_7 rfl (pq := 8) rfl ?_
  obtain ⟨q_3, hc_2, h⟩ := bind_s h
  refine wb_callVi (r0 := q_3) (s1 := s_1) [.int x1, .int x2] hX sh_161 ml_1195 (tM_areTwo hc_2) (by decide) rfl rfl (Nat.le_of_ble_eq_true rfl) dX11_clash_8 (pq := 11) rfl ?_
  refine wb_if_ne (tgt := 16) hX dX11_clash_11 (by decide) (pq := 14) rfl (fun c_4 => ?_) (fun c_4 => ?_)
  · have h := ite_t c_4 h
    refine wb_iconst (v := iI (-1)) hX dX11_clash_14 rfl (pq := 15) rfl ?_
    exact wb_iret hX hQ h dX11_clash_15
  · have h := ite_f c_4 h
    refine wb_aload_n 0 hX dX11_clash_16 rfl (pq := 17) rfl ?_
    obtain ⟨q_6, hc_5, h⟩ := bind_s h
    refine wb_callVv (s1 := q_6) [] hX sh_161 ml_1404 (tM_startsThen hc_5) (by decide) rfl rfl (Nat.le_of_ble_eq_true rfl) dX11_clash_17 (pq := 20) rfl ?_
    refine wb_iconst (v := iI (1)) hX dX11_clash_20 rfl (pq := 21) rfl ?_
    refine wb_istore_n (loc' := [(3, .int (iI (1))), (0, .ref (G.1 161)), (1, .int x1), (2, .int x2)]) hX hN dX11_clash_21 (by decide) rfl (pq := 22) rfl ?_
    refine wb_sub [1, 2, 3, 0] (loc' := [(0, .ref (G.1 161)), (1, .int x1), (2, .int x2), (3, .int (iI (1)))]) rfl ?_
    exact tM_clash_L22 hX hQ hN 100000 _ _ h
set_option maxHeartbeats 4000000 in
set_option maxRecDepth 100000 in
theorem tM_payer_L68 {G : wG} {X : wX} {k51 : Int32 → wM → Option (Int32 × wM)} {x1 : Int32} {x2 : Int32} {r0 : Int32} {s1 : wM} (hX : wOK G X cX11_payer RX11 (some .int) 3) (hQ : wRt G X (wQi G r0 s1)) (hN : wNl X = 5) (hk51 : ∀ (x2 : Int32) (s : wM), k51 x2 s = some (r0, s1) → WB G X 51 [(0, .ref (G.1 161)), (1, .int x1), (2, .int x2)] [] s) : ∀ (n : Nat) (x3 : Int32) (s : wM), wh2 (fM_payer_L68 k51 x1 x2) n x3 s = some (r0, s1) → WB G X 68 [(0, .ref (G.1 161)), (1, .int x1), (2, .int x2), (3, .int x3)] [] s := by
  intro n
  induction n with
  | zero => intro x3 s h; cases h
  | succ n hk68 =>
    intro x3 s h
    have h : fM_payer_L68 k51 x1 x2 x3 s (wh2 (fM_payer_L68 k51 x1 x2) n) = some (r0, s1) := h
    unfold fM_payer_L68 at h
    refine wb_iload_n 3 hX dX11_payer_68 rfl (pq := 69) rfl ?_
    refine wb_aload_n 0 hX dX11_payer_69 rfl (pq := 70) rfl ?_
    refine wb_getI hX fl_1521 sh_161 rfl dX11_payer_70 (pq := 73) rfl ?_
    refine wb_icmp_ge (tgt := 110) hX dX11_payer_73 (by decide) (fun c_1 => ?_) (pq := 76) rfl (fun c_1 => ?_)
    · have h := ite_t c_1 h
      refine wb_iinc (v := (x2 + iI (1))) (loc' := [(2, .int (x2 + iI (1))), (0, .ref (G.1 161)), (1, .int x1), (3, .int x3)]) 2 hX hN dX11_payer_110 rfl rfl (by decide) rfl (pq := 113) rfl ?_
      refine wb_goto (tgt := 51) hX dX11_payer_113 (by decide) ?_
      refine wb_sub [1, 2, 0] (loc' := [(0, .ref (G.1 161)), (1, .int x1), (2, .int (x2 + iI (1)))]) rfl ?_
      exact hk51 _ _ h
    · have h := ite_f c_1 h
      refine wb_aload_n 0 hX dX11_payer_76 rfl (pq := 77) rfl ?_
      refine wb_getR hX fl_1559 sh_161 rfl dX11_payer_77 (pq := 80) rfl ?_
      refine wb_iload_n 3 hX dX11_payer_80 rfl (pq := 81) rfl ?_
      refine wb_dup2 hX dX11_payer_81 rfl rfl (pq := 82) rfl ?_
      obtain ⟨hi_2, h⟩ := chk_some h
      refine wb_iald hX sh_189 hi_2 dX11_payer_82 (pq := 83) rfl ?_
      refine wb_aload_n 0 hX dX11_payer_83 rfl (pq := 84) rfl ?_
      refine wb_getR hX fl_1527 sh_161 rfl dX11_payer_84 (pq := 87) rfl ?_
      refine wb_iconst (v := iI (1)) hX dX11_payer_87 rfl (pq := 88) rfl ?_
      refine wb_iald hX sh_168 (by unfold vp_in; decide) dX11_payer_88 (pq := 89) rfl ?_
      refine wb_aload_n 0 hX dX11_payer_89 rfl (pq := 90) rfl ?_
      refine wb_aload_n 0 hX dX11_payer_90 rfl (pq := 91) rfl ?_
      refine wb_getR hX fl_1557 sh_161 rfl dX11_payer_91 (pq := 94) rfl ?_
      refine wb_iload_n 3 hX dX11_payer_94 rfl (pq := 95) rfl ?_
      obtain ⟨q_4, hc_3, h⟩ := bind_s h
      refine wb_callVi (r0 := q_4) (s1 := s) [.ref (G.1 187), .int x3] hX sh_161 ml_1179 (tM_evenWith sh_187 hc_3) (by decide) rfl rfl (Nat.le_of_ble_eq_true rfl) dX11_payer_95 (pq := 98) rfl ?_
      obtain ⟨q_6, hc_5, h⟩ := bind_s h
      refine wb_callSi (r0 := q_6) (s1 := s) [.int q_4] hX ml_1288 (tJ_bitCount hc_5) (by decide) rfl rfl (Nat.le_of_ble_eq_true rfl) dX11_payer_98 (pq := 101) rfl ?_
      refine wb_imul hX dX11_payer_101 (pq := 102) rfl ?_
      refine wb_iadd hX dX11_payer_102 (pq := 103) rfl ?_
      refine wb_iast hX sh_189 hi_2 dX11_payer_103 (pq := 104) rfl ?_
      refine wb_mem (fun s_7 es_7 => ?_)
      have h := nmM_s h s_7 es_7
      refine wb_iinc (v := (x3 + iI (1))) (loc' := [(3, .int (x3 + iI (1))), (0, .ref (G.1 161)), (1, .int x1), (2, .int x2)]) 3 hX hN dX11_payer_104 rfl rfl (by decide) rfl (pq := 107) rfl ?_
      refine wb_goto (tgt := 68) hX dX11_payer_107 (by decide) ?_
      refine wb_sub [1, 2, 3, 0] (loc' := [(0, .ref (G.1 161)), (1, .int x1), (2, .int x2), (3, .int (x3 + iI (1)))]) rfl ?_
      exact hk68 _ _ h
set_option maxHeartbeats 4000000 in
set_option maxRecDepth 100000 in
theorem tM_payer_J154 {G : wG} {X : wX} {k123 : Int32 → Int32 → Int32 → Option (Int32 × wM)} {x3 : Int32} {x4 : Int32} {v0 : Int32} {s : wM} {r0 : Int32} {s1 : wM} (hX : wOK G X cX11_payer RX11 (some .int) 3) (hQ : wRt G X (wQi G r0 s1)) (hN : wNl X = 5) (hk123 : ∀ (x2 : Int32) (x3 : Int32) (x4 : Int32), k123 x2 x3 x4 = some (r0, s1) → WB G X 123 [(0, .ref (G.1 161)), (2, .int x2), (3, .int x3), (4, .int x4)] [] s) (h : fM_payer_J154 k123 x3 x4 v0 s = some (r0, s1)) : WB G X 154 [(0, .ref (G.1 161)), (3, .int x3), (4, .int x4)] [.int v0] s := by
  unfold fM_payer_J154 at h
  refine wb_istore_n (loc' := [(2, .int v0), (0, .ref (G.1 161)), (3, .int x3), (4, .int x4)]) hX hN dX11_payer_154 (by decide) rfl (pq := 155) rfl ?_
  refine wb_iload_n 2 hX dX11_payer_155 rfl (pq := 156) rfl ?_
  refine wb_aload_n 1 hX dX11_payer_156 rfl (pq := 157) rfl ?_
  refine wb_getR hX fl_1559 sh_161 rfl dX11_payer_157 (pq := 160) rfl ?_
  refine wb_iload 3 hX dX11_payer_160 rfl (pq := 162) rfl ?_
  obtain ⟨hi_1, h⟩ := chk_some h
  refine wb_iald hX sh_189 hi_1 dX11_payer_162 (pq := 163) rfl ?_
  refine wb_iadd hX dX11_payer_163 (pq := 164) rfl ?_
  refine wb_istore_n (loc' := [(3, .int (x3 + (s.1 189 x4.toNatClampNeg))), (2, .int v0), (0, .ref (G.1 161)), (4, .int x4)]) hX hN dX11_payer_164 (by decide) rfl (pq := 165) rfl ?_
  refine wb_iinc (v := (x4 + iI (1))) (loc' := [(4, .int (x4 + iI (1))), (3, .int (x3 + (s.1 189 x4.toNatClampNeg))), (2, .int v0), (0, .ref (G.1 161))]) 3 hX hN dX11_payer_165 rfl rfl (by decide) rfl (pq := 168) rfl ?_
  refine wb_goto (tgt := 123) hX dX11_payer_168 (by decide) ?_
  refine wb_sub [3, 2, 1, 0] (loc' := [(0, .ref (G.1 161)), (2, .int v0), (3, .int (x3 + (s.1 189 x4.toNatClampNeg))), (4, .int (x4 + iI (1)))]) rfl ?_
  exact hk123 _ _ _ h
set_option maxHeartbeats 4000000 in
set_option maxRecDepth 100000 in
theorem tM_payer_L123 {G : wG} {X : wX} {s : wM} {r0 : Int32} {s1 : wM} (hX : wOK G X cX11_payer RX11 (some .int) 3) (hQ : wRt G X (wQi G r0 s1)) (hN : wNl X = 5) : ∀ (n : Nat) (x2 : Int32) (x3 : Int32) (x4 : Int32), wh3 (fM_payer_L123 s) n x2 x3 x4 = some (r0, s1) → WB G X 123 [(0, .ref (G.1 161)), (2, .int x2), (3, .int x3), (4, .int x4)] [] s := by
  intro n
  induction n with
  | zero => intro x2 x3 x4 h; cases h
  | succ n hk123 =>
    intro x2 x3 x4 h
    have h : fM_payer_L123 s x2 x3 x4 (wh3 (fM_payer_L123 s) n) = some (r0, s1) := h
    unfold fM_payer_L123 at h
    refine wb_iload 3 hX dX11_payer_123 rfl (pq := 125) rfl ?_
    refine wb_aload_n 0 hX dX11_payer_125 rfl (pq := 126) rfl ?_
    refine wb_getI hX fl_1521 sh_161 rfl dX11_payer_126 (pq := 129) rfl ?_
    refine wb_icmp_ge (tgt := 171) hX dX11_payer_129 (by decide) (fun c_1 => ?_) (pq := 132) rfl (fun c_1 => ?_)
    · have h := ite_t c_1 h
      refine wb_aload_n 0 hX dX11_payer_171 rfl (pq := 172) rfl ?_
      refine wb_iconst (v := iI (0)) hX dX11_payer_172 rfl (pq := 173) rfl ?_
      refine wb_putI hX fp_1519 sh_161 rfl dX11_payer_173 rfl rfl (pq := 176) rfl ?_
      refine wb_mem (fun s_2 es_2 => ?_)
      have h := nmM_s h s_2 es_2
      refine wb_aload_n 0 hX dX11_payer_176 rfl (pq := 177) rfl ?_
      refine wb_aload_n 0 hX dX11_payer_177 rfl (pq := 178) rfl ?_
      refine wb_getR hX fl_1559 sh_161 rfl dX11_payer_178 (pq := 181) rfl ?_
      refine wb_iload_n 1 hX dX11_payer_181 rfl (pq := 182) rfl ?_
      obtain ⟨hi_3, h⟩ := chk_some h
      refine wb_iald hX sh_189 hi_3 dX11_payer_182 (pq := 183) rfl ?_
      obtain ⟨q_5, hc_4, h⟩ := bind_s h
      refine wb_callVv (s1 := q_5) [.int (s_2.1 189 x2.toNatClampNeg)] hX sh_161 ml_1263 (tM_enters hc_4) (by decide) rfl rfl (Nat.le_of_ble_eq_true rfl) dX11_payer_183 (pq := 186) rfl ?_
      refine wb_aload_n 0 hX dX11_payer_186 rfl (pq := 187) rfl ?_
      refine wb_iload_n 2 hX dX11_payer_187 rfl (pq := 188) rfl ?_
      obtain ⟨q_7, hc_6, h⟩ := bind_s h
      refine wb_callVv (s1 := q_7) [.int x3] hX sh_161 ml_1263 (tM_enters hc_6) (by decide) rfl rfl (Nat.le_of_ble_eq_true rfl) dX11_payer_188 (pq := 191) rfl ?_
      refine wb_iload_n 1 hX dX11_payer_191 rfl (pq := 192) rfl ?_
      exact wb_iret hX hQ h dX11_payer_192
    · have h := ite_f c_1 h
      refine wb_aload_n 0 hX dX11_payer_132 rfl (pq := 133) rfl ?_
      refine wb_getR hX fl_1559 sh_161 rfl dX11_payer_133 (pq := 136) rfl ?_
      refine wb_iload 3 hX dX11_payer_136 rfl (pq := 138) rfl ?_
      obtain ⟨hi_8, h⟩ := chk_some h
      refine wb_iald hX sh_189 hi_8 dX11_payer_138 (pq := 139) rfl ?_
      refine wb_aload_n 0 hX dX11_payer_139 rfl (pq := 140) rfl ?_
      refine wb_getR hX fl_1559 sh_161 rfl dX11_payer_140 (pq := 143) rfl ?_
      refine wb_iload_n 1 hX dX11_payer_143 rfl (pq := 144) rfl ?_
      obtain ⟨hi_9, h⟩ := chk_some h
      refine wb_iald hX sh_189 hi_9 dX11_payer_144 (pq := 145) rfl ?_
      refine wb_icmp_le (tgt := 153) hX dX11_payer_145 (by decide) (fun c_10 => ?_) (pq := 148) rfl (fun c_10 => ?_)
      · have h := ite_t c_10 h
        refine wb_iload_n 1 hX dX11_payer_153 rfl (pq := 154) rfl ?_
        refine wb_sub [0, 2, 3] (loc' := [(0, .ref (G.1 161)), (3, .int x3), (4, .int x4)]) rfl ?_
        exact tM_payer_J154 hX hQ hN hk123 h
      · have h := ite_f c_10 h
        refine wb_iload 3 hX dX11_payer_148 rfl (pq := 150) rfl ?_
        refine wb_goto (tgt := 154) hX dX11_payer_150 (by decide) ?_
        refine wb_sub [0, 2, 3] (loc' := [(0, .ref (G.1 161)), (3, .int x3), (4, .int x4)]) rfl ?_
        exact tM_payer_J154 hX hQ hN hk123 h
set_option maxHeartbeats 4000000 in
set_option maxRecDepth 100000 in
theorem tM_payer_L51 {G : wG} {X : wX} {x1 : Int32} {r0 : Int32} {s1 : wM} (hX : wOK G X cX11_payer RX11 (some .int) 3) (hQ : wRt G X (wQi G r0 s1)) (hN : wNl X = 5) : ∀ (n : Nat) (x2 : Int32) (s : wM), wh2 (fM_payer_L51 x1) n x2 s = some (r0, s1) → WB G X 51 [(0, .ref (G.1 161)), (1, .int x1), (2, .int x2)] [] s := by
  intro n
  induction n with
  | zero => intro x2 s h; cases h
  | succ n hk51 =>
    intro x2 s h
    have h : fM_payer_L51 x1 x2 s (wh2 (fM_payer_L51 x1) n) = some (r0, s1) := h
    unfold fM_payer_L51 at h
    refine wb_iload_n 2 hX dX11_payer_51 rfl (pq := 52) rfl ?_
    refine wb_iload_n 1 hX dX11_payer_52 rfl (pq := 53) rfl ?_
    refine wb_icmp_ge (tgt := 116) hX dX11_payer_53 (by decide) (fun c_1 => ?_) (pq := 56) rfl (fun c_1 => ?_)
    · have h := ite_t c_1 h
      refine wb_iconst (v := iI (0)) hX dX11_payer_116 rfl (pq := 117) rfl ?_
      refine wb_istore_n (loc' := [(2, .int (iI (0))), (0, .ref (G.1 161)), (1, .int x1)]) hX hN dX11_payer_117 (by decide) rfl (pq := 118) rfl ?_
      refine wb_iconst (v := iI (0)) hX dX11_payer_118 rfl (pq := 119) rfl ?_
      refine wb_istore_n (loc' := [(3, .int (iI (0))), (2, .int (iI (0))), (0, .ref (G.1 161)), (1, .int x1)]) hX hN dX11_payer_119 (by decide) rfl (pq := 120) rfl ?_
      refine wb_iconst (v := iI (0)) hX dX11_payer_120 rfl (pq := 121) rfl ?_
      refine wb_istore (loc' := [(4, .int (iI (0))), (3, .int (iI (0))), (2, .int (iI (0))), (0, .ref (G.1 161)), (1, .int x1)]) hX hN dX11_payer_121 (by decide) rfl (pq := 123) rfl ?_
      refine wb_sub [3, 2, 1, 0] (loc' := [(0, .ref (G.1 161)), (2, .int (iI (0))), (3, .int (iI (0))), (4, .int (iI (0)))]) rfl ?_
      exact tM_payer_L123 hX hQ hN 100000 _ _ _ h
    · have h := ite_f c_1 h
      refine wb_aload_n 0 hX dX11_payer_56 rfl (pq := 57) rfl ?_
      refine wb_aload_n 0 hX dX11_payer_57 rfl (pq := 58) rfl ?_
      refine wb_getR hX fl_1557 sh_161 rfl dX11_payer_58 (pq := 61) rfl ?_
      refine wb_iconst (v := iI (0)) hX dX11_payer_61 rfl (pq := 62) rfl ?_
      refine wb_iconst (v := iI (0)) hX dX11_payer_62 rfl (pq := 63) rfl ?_
      obtain ⟨q_3, hc_2, h⟩ := bind_s h
      refine wb_callVv (s1 := q_3) [.ref (G.1 187), .int (iI (0)), .int (iI (0))] hX sh_161 ml_1280 (tM_weekGoes sh_187 hc_2) (by decide) rfl rfl (Nat.le_of_ble_eq_true rfl) dX11_payer_63 (pq := 66) rfl ?_
      refine wb_iconst (v := iI (0)) hX dX11_payer_66 rfl (pq := 67) rfl ?_
      refine wb_istore_n (loc' := [(3, .int (iI (0))), (0, .ref (G.1 161)), (1, .int x1), (2, .int x2)]) hX hN dX11_payer_67 (by decide) rfl (pq := 68) rfl ?_
      refine wb_sub [1, 2, 3, 0] (loc' := [(0, .ref (G.1 161)), (1, .int x1), (2, .int x2), (3, .int (iI (0)))]) rfl ?_
      exact tM_payer_L68 hX hQ hN hk51 100000 _ _ h
set_option maxHeartbeats 4000000 in
set_option maxRecDepth 100000 in
theorem tM_payer_L30 {G : wG} {X : wX} {x1 : Int32} {r0 : Int32} {s1 : wM} (hX : wOK G X cX11_payer RX11 (some .int) 3) (hQ : wRt G X (wQi G r0 s1)) (hN : wNl X = 5) : ∀ (n : Nat) (x2 : Int32) (s : wM), wh2 (fM_payer_L30 x1) n x2 s = some (r0, s1) → WB G X 30 [(0, .ref (G.1 161)), (1, .int x1), (2, .int x2)] [] s := by
  intro n
  induction n with
  | zero => intro x2 s h; cases h
  | succ n hk30 =>
    intro x2 s h
    have h : fM_payer_L30 x1 x2 s (wh2 (fM_payer_L30 x1) n) = some (r0, s1) := h
    unfold fM_payer_L30 at h
    refine wb_iload_n 2 hX dX11_payer_30 rfl (pq := 31) rfl ?_
    refine wb_bipush (v := iI (9)) hX dX11_payer_31 (by decide) (pq := 33) rfl ?_
    refine wb_icmp_ge (tgt := 49) hX dX11_payer_33 (by decide) (fun c_1 => ?_) (pq := 36) rfl (fun c_1 => ?_)
    · have h := ite_t c_1 h
      refine wb_iconst (v := iI (0)) hX dX11_payer_49 rfl (pq := 50) rfl ?_
      refine wb_istore_n (loc' := [(2, .int (iI (0))), (0, .ref (G.1 161)), (1, .int x1)]) hX hN dX11_payer_50 (by decide) rfl (pq := 51) rfl ?_
      refine wb_sub [1, 2, 0] (loc' := [(0, .ref (G.1 161)), (1, .int x1), (2, .int (iI (0)))]) rfl ?_
      exact tM_payer_L51 hX hQ hN 100000 _ _ h
    · have h := ite_f c_1 h
      refine wb_aload_n 0 hX dX11_payer_36 rfl (pq := 37) rfl ?_
      refine wb_getR hX fl_1559 sh_161 rfl dX11_payer_37 (pq := 40) rfl ?_
      refine wb_iload_n 2 hX dX11_payer_40 rfl (pq := 41) rfl ?_
      refine wb_iconst (v := iI (0)) hX dX11_payer_41 rfl (pq := 42) rfl ?_
      obtain ⟨hi_2, h⟩ := chk_some h
      refine wb_iast hX sh_189 hi_2 dX11_payer_42 (pq := 43) rfl ?_
      refine wb_mem (fun s_3 es_3 => ?_)
      have h := nmM_s h s_3 es_3
      refine wb_iinc (v := (x2 + iI (1))) (loc' := [(2, .int (x2 + iI (1))), (0, .ref (G.1 161)), (1, .int x1)]) 2 hX hN dX11_payer_43 rfl rfl (by decide) rfl (pq := 46) rfl ?_
      refine wb_goto (tgt := 30) hX dX11_payer_46 (by decide) ?_
      refine wb_sub [1, 2, 0] (loc' := [(0, .ref (G.1 161)), (1, .int x1), (2, .int (x2 + iI (1)))]) rfl ?_
      exact hk30 _ _ h
set_option maxHeartbeats 4000000 in
set_option maxRecDepth 100000 in
theorem tM_payer {l : Launch} {G : wG} {s : wM} {x1 : Int32} {r0 : Int32} {s1 : wM} (h : fM_payer s x1 = some (r0, s1)) : wMet l G yX11_payer cX11_payer 5 (some .int) 3 [.ref (G.1 161), .int x1] s (wQi G r0 s1) := by
  refine wMet_of (own := RX11) (by decide +kernel) rfl (Nat.le_of_ble_eq_true rfl) ?_
  intro X hX hQ hN hl
  show WB G X 0 [(0, .ref (G.1 161)), (1, .int x1)] [] s
  unfold fM_payer at h
  refine wb_aload_n 0 hX dX11_payer_0 rfl (pq := 1) rfl ?_
  refine wb_iconst (v := iI (0)) hX dX11_payer_1 rfl (pq := 2) rfl ?_
  refine wb_putI hX fp_1518 sh_161 rfl dX11_payer_2 rfl rfl (pq := 5) rfl ?_
  refine wb_mem (fun s_1 es_1 => ?_)
  have h := nmM_s h s_1 es_1
  refine wb_iload_n 1 hX dX11_payer_5 rfl (pq := 6) rfl ?_
  obtain ⟨q_3, hc_2, h⟩ := bind_s h
  refine wb_callSi (r0 := q_3) (s1 := s_1) [.int x1] hX ml_1412 (tM_isHundred hc_2) (by decide) rfl rfl (Nat.le_of_ble_eq_true rfl) dX11_payer_6 (pq := 9) rfl ?_
  refine wb_if_ne (tgt := 14) hX dX11_payer_9 (by decide) (pq := 12) rfl (fun c_4 => ?_) (fun c_4 => ?_)
  · have h := ite_t c_4 h
    refine wb_iconst (v := iI (-1)) hX dX11_payer_12 rfl (pq := 13) rfl ?_
    exact wb_iret hX hQ h dX11_payer_13
  · have h := ite_f c_4 h
    refine wb_aload_n 0 hX dX11_payer_14 rfl (pq := 15) rfl ?_
    refine wb_getI hX fl_1521 sh_161 rfl dX11_payer_15 (pq := 18) rfl ?_
    refine wb_if_ne (tgt := 24) hX dX11_payer_18 (by decide) (pq := 21) rfl (fun c_5 => ?_) (fun c_5 => ?_)
    · have h := ite_t c_5 h
      refine wb_bipush (v := iI (-2)) hX dX11_payer_21 (by decide) (pq := 23) rfl ?_
      exact wb_iret hX hQ h dX11_payer_23
    · have h := ite_f c_5 h
      refine wb_aload_n 0 hX dX11_payer_24 rfl (pq := 25) rfl ?_
      obtain ⟨q_7, hc_6, h⟩ := bind_s h
      refine wb_callVv (s1 := q_7) [] hX sh_161 ml_1404 (tM_startsThen hc_6) (by decide) rfl rfl (Nat.le_of_ble_eq_true rfl) dX11_payer_25 (pq := 28) rfl ?_
      refine wb_iconst (v := iI (0)) hX dX11_payer_28 rfl (pq := 29) rfl ?_
      refine wb_istore_n (loc' := [(2, .int (iI (0))), (0, .ref (G.1 161)), (1, .int x1)]) hX hN dX11_payer_29 (by decide) rfl (pq := 30) rfl ?_
      refine wb_sub [1, 2, 0] (loc' := [(0, .ref (G.1 161)), (1, .int x1), (2, .int (iI (0)))]) rfl ?_
      exact tM_payer_L30 hX hQ hN 100000 _ _ h
set_option maxHeartbeats 4000000 in
set_option maxRecDepth 100000 in
theorem tM_pray_J84 {G : wG} {X : wX} {k25 : Int32 → Int32 → Int32 → wM → Option (Int32 × wM)} {k35 : Int32 → Int32 → Int32 → wM → Option (Int32 × wM)} {x1 : Int32} {x3 : Int32} {x4 : Int32} {x5 : Int32} {x6 : Int32} {v0 : Int32} {s : wM} {r0 : Int32} {s1 : wM} (hX : wOK G X cX11_pray RX11 (some .int) 4) (hQ : wRt G X (wQi G r0 s1)) (hN : wNl X = 7) (hk25 : ∀ (x2 : Int32) (x3 : Int32) (x4 : Int32) (s : wM), k25 x2 x3 x4 s = some (r0, s1) → WB G X 25 [(0, .ref (G.1 161)), (1, .int x1), (2, .int x2), (3, .int x3), (4, .int x4)] [] s) (hk35 : ∀ (x2 : Int32) (x3 : Int32) (x5 : Int32) (s : wM), k35 x2 x3 x5 s = some (r0, s1) → WB G X 35 [(0, .ref (G.1 161)), (1, .int x1), (2, .int x2), (3, .int x3), (4, .int x4), (5, .int x5)] [] s) (h : fM_pray_J84 k25 k35 x1 x3 x4 x5 x6 v0 s = some (r0, s1)) : WB G X 84 [(0, .ref (G.1 161)), (1, .int x1), (3, .int x3), (4, .int x4), (5, .int x5), (6, .int x6)] [.int v0] s := by
  unfold fM_pray_J84 at h
  refine wb_istore_n (loc' := [(2, .int v0), (0, .ref (G.1 161)), (1, .int x1), (3, .int x3), (4, .int x4), (5, .int x5), (6, .int x6)]) hX hN dX11_pray_84 (by decide) rfl (pq := 85) rfl ?_
  refine wb_iload_n 3 hX dX11_pray_85 rfl (pq := 86) rfl ?_
  refine wb_iload 6 hX dX11_pray_86 rfl (pq := 88) rfl ?_
  refine wb_mmin hX k_1136 k_394 k_14 k_395 (Nat.le_of_ble_eq_true rfl) dX11_pray_88 (pq := 91) rfl ?_
  refine wb_istore_n (loc' := [(3, .int (iMin x3 x6)), (2, .int v0), (0, .ref (G.1 161)), (1, .int x1), (4, .int x4), (5, .int x5), (6, .int x6)]) hX hN dX11_pray_91 (by decide) rfl (pq := 92) rfl ?_
  refine wb_iinc (v := (x5 + iI (2))) (loc' := [(5, .int (x5 + iI (2))), (3, .int (iMin x3 x6)), (2, .int v0), (0, .ref (G.1 161)), (1, .int x1), (4, .int x4), (6, .int x6)]) 5 hX hN dX11_pray_92 rfl rfl (by decide) rfl (pq := 95) rfl ?_
  refine wb_goto (tgt := 35) hX dX11_pray_95 (by decide) ?_
  refine wb_sub [3, 4, 2, 1, 5, 0] (loc' := [(0, .ref (G.1 161)), (1, .int x1), (2, .int v0), (3, .int (iMin x3 x6)), (4, .int x4), (5, .int (x5 + iI (2)))]) rfl ?_
  exact hk35 _ _ _ _ h
set_option maxHeartbeats 4000000 in
set_option maxRecDepth 100000 in
theorem tM_pray_L35 {G : wG} {X : wX} {k25 : Int32 → Int32 → Int32 → wM → Option (Int32 × wM)} {x1 : Int32} {x4 : Int32} {r0 : Int32} {s1 : wM} (hX : wOK G X cX11_pray RX11 (some .int) 4) (hQ : wRt G X (wQi G r0 s1)) (hN : wNl X = 7) (hk25 : ∀ (x2 : Int32) (x3 : Int32) (x4 : Int32) (s : wM), k25 x2 x3 x4 s = some (r0, s1) → WB G X 25 [(0, .ref (G.1 161)), (1, .int x1), (2, .int x2), (3, .int x3), (4, .int x4)] [] s) : ∀ (n : Nat) (x2 : Int32) (x3 : Int32) (x5 : Int32) (s : wM), wh4 (fM_pray_L35 k25 x1 x4) n x2 x3 x5 s = some (r0, s1) → WB G X 35 [(0, .ref (G.1 161)), (1, .int x1), (2, .int x2), (3, .int x3), (4, .int x4), (5, .int x5)] [] s := by
  intro n
  induction n with
  | zero => intro x2 x3 x5 s h; cases h
  | succ n hk35 =>
    intro x2 x3 x5 s h
    have h : fM_pray_L35 k25 x1 x4 x2 x3 x5 s (wh4 (fM_pray_L35 k25 x1 x4) n) = some (r0, s1) := h
    unfold fM_pray_L35 at h
    refine wb_iload 5 hX dX11_pray_35 rfl (pq := 37) rfl ?_
    refine wb_iconst (v := iI (1)) hX dX11_pray_37 rfl (pq := 38) rfl ?_
    refine wb_icmp_gt (tgt := 98) hX dX11_pray_38 (by decide) (fun c_1 => ?_) (pq := 41) rfl (fun c_1 => ?_)
    · have h := ite_t c_1 h
      refine wb_iinc (v := (x4 + iI (1))) (loc' := [(4, .int (x4 + iI (1))), (0, .ref (G.1 161)), (1, .int x1), (2, .int x2), (3, .int x3), (5, .int x5)]) 4 hX hN dX11_pray_98 rfl rfl (by decide) rfl (pq := 101) rfl ?_
      refine wb_goto (tgt := 25) hX dX11_pray_101 (by decide) ?_
      refine wb_sub [1, 2, 3, 4, 0] (loc' := [(0, .ref (G.1 161)), (1, .int x1), (2, .int x2), (3, .int x3), (4, .int (x4 + iI (1)))]) rfl ?_
      exact hk25 _ _ _ _ h
    · have h := ite_f c_1 h
      refine wb_aload_n 0 hX dX11_pray_41 rfl (pq := 42) rfl ?_
      obtain ⟨q_3, hc_2, h⟩ := bind_s h
      refine wb_callVv (s1 := q_3) [] hX sh_161 ml_1404 (tM_startsThen hc_2) (by decide) rfl rfl (Nat.le_of_ble_eq_true rfl) dX11_pray_42 (pq := 45) rfl ?_
      refine wb_aload_n 0 hX dX11_pray_45 rfl (pq := 46) rfl ?_
      refine wb_aload_n 0 hX dX11_pray_46 rfl (pq := 47) rfl ?_
      refine wb_getR hX fl_1557 sh_161 rfl dX11_pray_47 (pq := 50) rfl ?_
      refine wb_iload 5 hX dX11_pray_50 rfl (pq := 52) rfl ?_
      refine wb_iload 4 hX dX11_pray_52 rfl (pq := 54) rfl ?_
      refine wb_imul hX dX11_pray_54 (pq := 55) rfl ?_
      refine wb_iload_n 1 hX dX11_pray_55 rfl (pq := 56) rfl ?_
      obtain ⟨q_5, hc_4, h⟩ := bind_s h
      refine wb_callVv (s1 := q_5) [.ref (G.1 187), .int (x5 * x4), .int x1] hX sh_161 ml_1280 (tM_weekGoes sh_187 hc_4) (by decide) rfl rfl (Nat.le_of_ble_eq_true rfl) dX11_pray_56 (pq := 59) rfl ?_
      refine wb_aload_n 0 hX dX11_pray_59 rfl (pq := 60) rfl ?_
      refine wb_aload_n 0 hX dX11_pray_60 rfl (pq := 61) rfl ?_
      refine wb_getR hX fl_1557 sh_161 rfl dX11_pray_61 (pq := 64) rfl ?_
      obtain ⟨q_7, hc_6, h⟩ := bind_s h
      refine wb_callVi (r0 := q_7) (s1 := q_5) [.ref (G.1 187)] hX sh_161 ml_1289 (tM_evenPairs sh_187 hc_6) (by decide) rfl rfl (Nat.le_of_ble_eq_true rfl) dX11_pray_64 (pq := 67) rfl ?_
      refine wb_istore (loc' := [(6, .int q_7), (0, .ref (G.1 161)), (1, .int x1), (2, .int x2), (3, .int x3), (4, .int x4), (5, .int x5)]) hX hN dX11_pray_67 (by decide) rfl (pq := 69) rfl ?_
      refine wb_iload 0 hX dX11_pray_69 rfl (pq := 71) rfl ?_
      refine wb_iload_n 4 hX dX11_pray_71 rfl (pq := 72) rfl ?_
      refine wb_icmp_ge (tgt := 83) hX dX11_pray_72 (by decide) (fun c_8 => ?_) (pq := 75) rfl (fun c_8 => ?_)
      · have h := ite_t c_8 h
        refine wb_iload_n 3 hX dX11_pray_83 rfl (pq := 84) rfl ?_
        refine wb_sub [1, 2, 4, 5, 6, 0] (loc' := [(0, .ref (G.1 161)), (1, .int x1), (3, .int x3), (4, .int x4), (5, .int x5), (6, .int q_7)]) rfl ?_
        exact tM_pray_J84 hX hQ hN hk25 hk35 h
      · have h := ite_f c_8 h
        refine wb_iload 6 hX dX11_pray_75 rfl (pq := 77) rfl ?_
        refine wb_iload 5 hX dX11_pray_77 rfl (pq := 79) rfl ?_
        refine wb_imul hX dX11_pray_79 (pq := 80) rfl ?_
        refine wb_goto (tgt := 84) hX dX11_pray_80 (by decide) ?_
        refine wb_sub [1, 2, 4, 5, 6, 0] (loc' := [(0, .ref (G.1 161)), (1, .int x1), (3, .int x3), (4, .int x4), (5, .int x5), (6, .int q_7)]) rfl ?_
        exact tM_pray_J84 hX hQ hN hk25 hk35 h
set_option maxHeartbeats 4000000 in
set_option maxRecDepth 100000 in
theorem tM_pray_L25 {G : wG} {X : wX} {x1 : Int32} {r0 : Int32} {s1 : wM} (hX : wOK G X cX11_pray RX11 (some .int) 4) (hQ : wRt G X (wQi G r0 s1)) (hN : wNl X = 7) : ∀ (n : Nat) (x2 : Int32) (x3 : Int32) (x4 : Int32) (s : wM), wh4 (fM_pray_L25 x1) n x2 x3 x4 s = some (r0, s1) → WB G X 25 [(0, .ref (G.1 161)), (1, .int x1), (2, .int x2), (3, .int x3), (4, .int x4)] [] s := by
  intro n
  induction n with
  | zero => intro x2 x3 x4 s h; cases h
  | succ n hk25 =>
    intro x2 x3 x4 s h
    have h : fM_pray_L25 x1 x2 x3 x4 s (wh4 (fM_pray_L25 x1) n) = some (r0, s1) := h
    unfold fM_pray_L25 at h
    refine wb_iload 4 hX dX11_pray_25 rfl (pq := 27) rfl ?_
    refine wb_bipush (v := iI (9)) hX dX11_pray_27 (by decide) (pq := 29) rfl ?_
    refine wb_icmp_gt (tgt := 104) hX dX11_pray_29 (by decide) (fun c_1 => ?_) (pq := 32) rfl (fun c_1 => ?_)
    · have h := ite_t c_1 h
      refine wb_aload_n 0 hX dX11_pray_104 rfl (pq := 105) rfl ?_
      refine wb_iconst (v := iI (0)) hX dX11_pray_105 rfl (pq := 106) rfl ?_
      refine wb_putI hX fp_1519 sh_161 rfl dX11_pray_106 rfl rfl (pq := 109) rfl ?_
      refine wb_mem (fun s_2 es_2 => ?_)
      have h := nmM_s h s_2 es_2
      refine wb_aload_n 0 hX dX11_pray_109 rfl (pq := 110) rfl ?_
      refine wb_iload_n 3 hX dX11_pray_110 rfl (pq := 111) rfl ?_
      obtain ⟨q_4, hc_3, h⟩ := bind_s h
      refine wb_callVv (s1 := q_4) [.int x3] hX sh_161 ml_1263 (tM_enters hc_3) (by decide) rfl rfl (Nat.le_of_ble_eq_true rfl) dX11_pray_111 (pq := 114) rfl ?_
      refine wb_iload_n 2 hX dX11_pray_114 rfl (pq := 115) rfl ?_
      exact wb_iret hX hQ h dX11_pray_115
    · have h := ite_f c_1 h
      refine wb_iconst (v := iI (-1)) hX dX11_pray_32 rfl (pq := 33) rfl ?_
      refine wb_istore (loc' := [(5, .int (iI (-1))), (0, .ref (G.1 161)), (1, .int x1), (2, .int x2), (3, .int x3), (4, .int x4)]) hX hN dX11_pray_33 (by decide) rfl (pq := 35) rfl ?_
      refine wb_sub [1, 2, 3, 4, 5, 0] (loc' := [(0, .ref (G.1 161)), (1, .int x1), (2, .int x2), (3, .int x3), (4, .int x4), (5, .int (iI (-1)))]) rfl ?_
      exact tM_pray_L35 hX hQ hN hk25 100000 _ _ _ _ h
set_option maxHeartbeats 4000000 in
set_option maxRecDepth 100000 in
theorem tM_pray {l : Launch} {G : wG} {s : wM} {x1 : Int32} {r0 : Int32} {s1 : wM} (h : fM_pray s x1 = some (r0, s1)) : wMet l G yX11_pray cX11_pray 7 (some .int) 4 [.ref (G.1 161), .int x1] s (wQi G r0 s1) := by
  refine wMet_of (own := RX11) (by decide +kernel) rfl (Nat.le_of_ble_eq_true rfl) ?_
  intro X hX hQ hN hl
  show WB G X 0 [(0, .ref (G.1 161)), (1, .int x1)] [] s
  unfold fM_pray at h
  refine wb_aload_n 0 hX dX11_pray_0 rfl (pq := 1) rfl ?_
  refine wb_iconst (v := iI (0)) hX dX11_pray_1 rfl (pq := 2) rfl ?_
  refine wb_putI hX fp_1518 sh_161 rfl dX11_pray_2 rfl rfl (pq := 5) rfl ?_
  refine wb_mem (fun s_1 es_1 => ?_)
  have h := nmM_s h s_1 es_1
  refine wb_aload_n 0 hX dX11_pray_5 rfl (pq := 6) rfl ?_
  refine wb_iload_n 1 hX dX11_pray_6 rfl (pq := 7) rfl ?_
  obtain ⟨q_3, hc_2, h⟩ := bind_s h
  refine wb_callVi (r0 := q_3) (s1 := s_1) [.int x1] hX sh_161 ml_1272 (tM_areBits hc_2) (by decide) rfl rfl (Nat.le_of_ble_eq_true rfl) dX11_pray_7 (pq := 10) rfl ?_
  refine wb_if_ne (tgt := 16) hX dX11_pray_10 (by decide) (pq := 13) rfl (fun c_4 => ?_) (fun c_4 => ?_)
  · have h := ite_t c_4 h
    refine wb_bipush (v := iI (-10)) hX dX11_pray_13 (by decide) (pq := 15) rfl ?_
    exact wb_iret hX hQ h dX11_pray_15
  · have h := ite_f c_4 h
    refine wb_iconst (v := iI (0)) hX dX11_pray_16 rfl (pq := 17) rfl ?_
    refine wb_istore_n (loc' := [(2, .int (iI (0))), (0, .ref (G.1 161)), (1, .int x1)]) hX hN dX11_pray_17 (by decide) rfl (pq := 18) rfl ?_
    refine wb_ldcw (v := (2147483647 : Int32)) hX k_1338 dX11_pray_18 (pq := 21) rfl ?_
    refine wb_istore_n (loc' := [(3, .int (2147483647 : Int32)), (2, .int (iI (0))), (0, .ref (G.1 161)), (1, .int x1)]) hX hN dX11_pray_21 (by decide) rfl (pq := 22) rfl ?_
    refine wb_iconst (v := iI (0)) hX dX11_pray_22 rfl (pq := 23) rfl ?_
    refine wb_istore (loc' := [(4, .int (iI (0))), (3, .int (2147483647 : Int32)), (2, .int (iI (0))), (0, .ref (G.1 161)), (1, .int x1)]) hX hN dX11_pray_23 (by decide) rfl (pq := 25) rfl ?_
    refine wb_sub [3, 4, 2, 1, 0] (loc' := [(0, .ref (G.1 161)), (1, .int x1), (2, .int (iI (0))), (3, .int (2147483647 : Int32)), (4, .int (iI (0)))]) rfl ?_
    exact tM_pray_L25 hX hQ hN 100000 _ _ _ _ h
set_option maxHeartbeats 4000000 in
set_option maxRecDepth 100000 in
theorem tM_seal_J131 {G : wG} {X : wX} {k15 : Int32 → Int32 → Int32 → Int32 → wM → Option (Int32 × wM)} {k30 : Int32 → Int32 → Int32 → Int32 → wM → Option (Int32 × wM)} {x1 : Int32} {x2 : Int32} {x3 : Int32} {x4 : Int32} {x5 : Int32} {s : wM} {r0 : Int32} {s1 : wM} (hX : wOK G X cX11_seal RX11 (some .int) 5) (hQ : wRt G X (wQi G r0 s1)) (hN : wNl X = 8) (hk15 : ∀ (x1 : Int32) (x2 : Int32) (x3 : Int32) (x4 : Int32) (s : wM), k15 x1 x2 x3 x4 s = some (r0, s1) → WB G X 15 [(0, .ref (G.1 161)), (1, .int x1), (2, .int x2), (3, .int x3), (4, .int x4)] [] s) (hk30 : ∀ (x1 : Int32) (x2 : Int32) (x3 : Int32) (x5 : Int32) (s : wM), k30 x1 x2 x3 x5 s = some (r0, s1) → WB G X 30 [(0, .ref (G.1 161)), (1, .int x1), (2, .int x2), (3, .int x3), (4, .int x4), (5, .int x5)] [] s) (h : fM_seal_J131 k15 k30 x1 x2 x3 x4 x5 s = some (r0, s1)) : WB G X 131 [(0, .ref (G.1 161)), (1, .int x1), (2, .int x2), (3, .int x3), (4, .int x4), (5, .int x5)] [] s := by
  unfold fM_seal_J131 at h
  refine wb_iinc (v := (x5 + iI (1))) (loc' := [(5, .int (x5 + iI (1))), (0, .ref (G.1 161)), (1, .int x1), (2, .int x2), (3, .int x3), (4, .int x4)]) 5 hX hN dX11_seal_131 rfl rfl (by decide) rfl (pq := 134) rfl ?_
  refine wb_goto (tgt := 30) hX dX11_seal_134 (by decide) ?_
  refine wb_sub [1, 2, 3, 4, 5, 0] (loc' := [(0, .ref (G.1 161)), (1, .int x1), (2, .int x2), (3, .int x3), (4, .int x4), (5, .int (x5 + iI (1)))]) rfl ?_
  exact hk30 _ _ _ _ _ h
set_option maxHeartbeats 4000000 in
set_option maxRecDepth 100000 in
theorem tM_seal_J114 {G : wG} {X : wX} {k15 : Int32 → Int32 → Int32 → Int32 → wM → Option (Int32 × wM)} {k30 : Int32 → Int32 → Int32 → Int32 → wM → Option (Int32 × wM)} {x1 : Int32} {x2 : Int32} {x3 : Int32} {x4 : Int32} {x5 : Int32} {v0 : Int32} {s : wM} {r0 : Int32} {s1 : wM} (hX : wOK G X cX11_seal RX11 (some .int) 5) (hQ : wRt G X (wQi G r0 s1)) (hN : wNl X = 8) (hk15 : ∀ (x1 : Int32) (x2 : Int32) (x3 : Int32) (x4 : Int32) (s : wM), k15 x1 x2 x3 x4 s = some (r0, s1) → WB G X 15 [(0, .ref (G.1 161)), (1, .int x1), (2, .int x2), (3, .int x3), (4, .int x4)] [] s) (hk30 : ∀ (x1 : Int32) (x2 : Int32) (x3 : Int32) (x5 : Int32) (s : wM), k30 x1 x2 x3 x5 s = some (r0, s1) → WB G X 30 [(0, .ref (G.1 161)), (1, .int x1), (2, .int x2), (3, .int x3), (4, .int x4), (5, .int x5)] [] s) (h : fM_seal_J114 k15 k30 x1 x2 x3 x4 x5 v0 s = some (r0, s1)) : WB G X 114 [(0, .ref (G.1 161)), (1, .int x1), (2, .int x2), (3, .int x3), (4, .int x4), (5, .int x5)] [.int v0] s := by
  unfold fM_seal_J114 at h
  refine wb_istore (loc' := [(7, .int v0), (0, .ref (G.1 161)), (1, .int x1), (2, .int x2), (3, .int x3), (4, .int x4), (5, .int x5)]) hX hN dX11_seal_114 (by decide) rfl (pq := 116) rfl ?_
  refine wb_iload 0 hX dX11_seal_116 rfl (pq := 118) rfl ?_
  refine wb_iload_n 4 hX dX11_seal_118 rfl (pq := 119) rfl ?_
  refine wb_icmp_le (tgt := 131) hX dX11_seal_119 (by decide) (fun c_1 => ?_) (pq := 122) rfl (fun c_1 => ?_)
  · have h := ite_t c_1 h
    refine wb_sub [1, 2, 3, 4, 5, 6] (loc' := [(0, .ref (G.1 161)), (1, .int x1), (2, .int x2), (3, .int x3), (4, .int x4), (5, .int x5)]) rfl ?_
    exact tM_seal_J131 hX hQ hN hk15 hk30 h
  · have h := ite_f c_1 h
    refine wb_iload 5 hX dX11_seal_122 rfl (pq := 124) rfl ?_
    refine wb_istore_n (loc' := [(1, .int x4), (7, .int v0), (0, .ref (G.1 161)), (2, .int x2), (3, .int x3), (4, .int x4), (5, .int x5)]) hX hN dX11_seal_124 (by decide) rfl (pq := 125) rfl ?_
    refine wb_iload 6 hX dX11_seal_125 rfl (pq := 127) rfl ?_
    refine wb_istore_n (loc' := [(2, .int x5), (1, .int x4), (7, .int v0), (0, .ref (G.1 161)), (3, .int x3), (4, .int x4), (5, .int x5)]) hX hN dX11_seal_127 (by decide) rfl (pq := 128) rfl ?_
    refine wb_iload 2 hX dX11_seal_128 rfl (pq := 130) rfl ?_
    refine wb_istore_n (loc' := [(3, .int v0), (2, .int x5), (1, .int x4), (7, .int v0), (0, .ref (G.1 161)), (4, .int x4), (5, .int x5)]) hX hN dX11_seal_130 (by decide) rfl (pq := 131) rfl ?_
    refine wb_sub [4, 2, 1, 0, 5, 6] (loc' := [(0, .ref (G.1 161)), (1, .int x4), (2, .int x5), (3, .int v0), (4, .int x4), (5, .int x5)]) rfl ?_
    exact tM_seal_J131 hX hQ hN hk15 hk30 h
set_option maxHeartbeats 4000000 in
set_option maxRecDepth 100000 in
theorem tM_seal_L30 {G : wG} {X : wX} {k15 : Int32 → Int32 → Int32 → Int32 → wM → Option (Int32 × wM)} {x4 : Int32} {r0 : Int32} {s1 : wM} (hX : wOK G X cX11_seal RX11 (some .int) 5) (hQ : wRt G X (wQi G r0 s1)) (hN : wNl X = 8) (hk15 : ∀ (x1 : Int32) (x2 : Int32) (x3 : Int32) (x4 : Int32) (s : wM), k15 x1 x2 x3 x4 s = some (r0, s1) → WB G X 15 [(0, .ref (G.1 161)), (1, .int x1), (2, .int x2), (3, .int x3), (4, .int x4)] [] s) : ∀ (n : Nat) (x1 : Int32) (x2 : Int32) (x3 : Int32) (x5 : Int32) (s : wM), wh5 (fM_seal_L30 k15 x4) n x1 x2 x3 x5 s = some (r0, s1) → WB G X 30 [(0, .ref (G.1 161)), (1, .int x1), (2, .int x2), (3, .int x3), (4, .int x4), (5, .int x5)] [] s := by
  intro n
  induction n with
  | zero => intro x1 x2 x3 x5 s h; cases h
  | succ n hk30 =>
    intro x1 x2 x3 x5 s h
    have h : fM_seal_L30 k15 x4 x1 x2 x3 x5 s (wh5 (fM_seal_L30 k15 x4) n) = some (r0, s1) := h
    unfold fM_seal_L30 at h
    refine wb_iload 5 hX dX11_seal_30 rfl (pq := 32) rfl ?_
    refine wb_aload_n 0 hX dX11_seal_32 rfl (pq := 33) rfl ?_
    refine wb_getI hX fl_1521 sh_161 rfl dX11_seal_33 (pq := 36) rfl ?_
    refine wb_icmp_ge (tgt := 137) hX dX11_seal_36 (by decide) (fun c_1 => ?_) (pq := 39) rfl (fun c_1 => ?_)
    · have h := ite_t c_1 h
      refine wb_iinc (v := (x4 + iI (1))) (loc' := [(4, .int (x4 + iI (1))), (0, .ref (G.1 161)), (1, .int x1), (2, .int x2), (3, .int x3), (5, .int x5)]) 4 hX hN dX11_seal_137 rfl rfl (by decide) rfl (pq := 140) rfl ?_
      refine wb_goto (tgt := 15) hX dX11_seal_140 (by decide) ?_
      refine wb_sub [1, 2, 3, 4, 0] (loc' := [(0, .ref (G.1 161)), (1, .int x1), (2, .int x2), (3, .int x3), (4, .int (x4 + iI (1)))]) rfl ?_
      exact hk15 _ _ _ _ _ h
    · have h := ite_f c_1 h
      refine wb_aload_n 0 hX dX11_seal_39 rfl (pq := 40) rfl ?_
      refine wb_getR hX fl_1525 sh_161 rfl dX11_seal_40 (pq := 43) rfl ?_
      refine wb_bipush (v := iI (9)) hX dX11_seal_43 (by decide) (pq := 45) rfl ?_
      refine wb_iload 4 hX dX11_seal_45 rfl (pq := 47) rfl ?_
      refine wb_imul hX dX11_seal_47 (pq := 48) rfl ?_
      refine wb_iload 5 hX dX11_seal_48 rfl (pq := 50) rfl ?_
      refine wb_iadd hX dX11_seal_50 (pq := 51) rfl ?_
      obtain ⟨hi_2, h⟩ := chk_some h
      refine wb_iald hX sh_166 hi_2 dX11_seal_51 (pq := 52) rfl ?_
      refine wb_topi (fun y_3 ey_3 => ?_)
      have h := nmI_s h y_3 ey_3
      refine wb_istore (loc' := [(6, .int y_3), (0, .ref (G.1 161)), (1, .int x1), (2, .int x2), (3, .int x3), (4, .int x4), (5, .int x5)]) hX hN dX11_seal_52 (by decide) rfl (pq := 54) rfl ?_
      refine wb_aload_n 1 hX dX11_seal_54 rfl (pq := 55) rfl ?_
      refine wb_getR hX fl_1524 sh_161 rfl dX11_seal_55 (pq := 58) rfl ?_
      refine wb_iload 5 hX dX11_seal_58 rfl (pq := 60) rfl ?_
      obtain ⟨hi_4, h⟩ := chk_some h
      refine wb_iald hX sh_165 hi_4 dX11_seal_60 (pq := 61) rfl ?_
      refine wb_iload 6 hX dX11_seal_61 rfl (pq := 63) rfl ?_
      obtain ⟨q_6, hc_5, h⟩ := bind_s h
      refine wb_callSi (r0 := q_6) (s1 := s) [.int (s.1 165 x4.toNatClampNeg), .int x5] hX ml_1187 (tM_has hc_5) (by decide) rfl rfl (Nat.le_of_ble_eq_true rfl) dX11_seal_63 (pq := 66) rfl ?_
      refine wb_if_eq (tgt := 131) hX dX11_seal_66 (by decide) (fun c_7 => ?_) (pq := 69) rfl (fun c_7 => ?_)
      · have h := ite_t c_7 h
        refine wb_sub [1, 2, 3, 4, 5, 6] (loc' := [(0, .ref (G.1 161)), (1, .int x1), (2, .int x2), (3, .int x3), (4, .int x4), (5, .int x5)]) rfl ?_
        exact tM_seal_J131 hX hQ hN hk15 hk30 h
      · have h := ite_f c_7 h
        refine wb_iload 0 hX dX11_seal_69 rfl (pq := 71) rfl ?_
        refine wb_if_ne (tgt := 77) hX dX11_seal_71 (by decide) (pq := 74) rfl (fun c_8 => ?_) (fun c_8 => ?_)
        · have h := ite_t c_8 h
          refine wb_goto (tgt := 131) hX dX11_seal_74 (by decide) ?_
          refine wb_sub [1, 2, 3, 4, 5, 6] (loc' := [(0, .ref (G.1 161)), (1, .int x1), (2, .int x2), (3, .int x3), (4, .int x4), (5, .int x5)]) rfl ?_
          exact tM_seal_J131 hX hQ hN hk15 hk30 h
        · have h := ite_f c_8 h
          refine wb_aload_n 1 hX dX11_seal_77 rfl (pq := 78) rfl ?_
          refine wb_iload 5 hX dX11_seal_78 rfl (pq := 80) rfl ?_
          refine wb_iload 6 hX dX11_seal_80 rfl (pq := 82) rfl ?_
          refine wb_iconst (v := iI (0)) hX dX11_seal_82 rfl (pq := 83) rfl ?_
          obtain ⟨q_10, hc_9, h⟩ := bind_s h
          refine wb_callVv (s1 := q_10) [.int x4, .int x5, .int (iI (0))] hX sh_161 ml_1205 (tM_touchBy hc_9) (by decide) rfl rfl (Nat.le_of_ble_eq_true rfl) dX11_seal_83 (pq := 86) rfl ?_
          refine wb_aload_n 1 hX dX11_seal_86 rfl (pq := 87) rfl ?_
          obtain ⟨q_12, hc_11, h⟩ := bind_s h
          refine wb_callVi (r0 := q_12.1) (s1 := q_12.2) [] hX sh_161 ml_1400 (tM_lastsNow hc_11) (by decide) rfl rfl (Nat.le_of_ble_eq_true rfl) dX11_seal_87 (pq := 90) rfl ?_
          refine wb_istore (loc' := [(7, .int q_12.1), (6, .int y_3), (0, .ref (G.1 161)), (1, .int x1), (2, .int x2), (3, .int x3), (4, .int x4), (5, .int x5)]) hX hN dX11_seal_90 (by decide) rfl (pq := 92) rfl ?_
          refine wb_aload_n 2 hX dX11_seal_92 rfl (pq := 93) rfl ?_
          refine wb_iload 6 hX dX11_seal_93 rfl (pq := 95) rfl ?_
          refine wb_iload 7 hX dX11_seal_95 rfl (pq := 97) rfl ?_
          refine wb_iload 1 hX dX11_seal_97 rfl (pq := 99) rfl ?_
          obtain ⟨q_14, hc_13, h⟩ := bind_s h
          refine wb_callVv (s1 := q_14) [.int x4, .int x5, .int y_3] hX sh_161 ml_1205 (tM_touchBy hc_13) (by decide) rfl rfl (Nat.le_of_ble_eq_true rfl) dX11_seal_99 (pq := 102) rfl ?_
          refine wb_iload 0 hX dX11_seal_102 rfl (pq := 104) rfl ?_
          refine wb_if_ge (tgt := 112) hX dX11_seal_104 (by decide) (fun c_15 => ?_) (pq := 107) rfl (fun c_15 => ?_)
          · have h := ite_t c_15 h
            refine wb_iload 0 hX dX11_seal_112 rfl (pq := 114) rfl ?_
            refine wb_sub [2, 3, 4, 5, 6, 7] (loc' := [(0, .ref (G.1 161)), (1, .int x1), (2, .int x2), (3, .int x3), (4, .int x4), (5, .int x5)]) rfl ?_
            exact tM_seal_J114 hX hQ hN hk15 hk30 h
          · have h := ite_f c_15 h
            refine wb_bipush (v := iI (101)) hX dX11_seal_107 (by decide) (pq := 109) rfl ?_
            refine wb_goto (tgt := 114) hX dX11_seal_109 (by decide) ?_
            refine wb_sub [2, 3, 4, 5, 6, 7] (loc' := [(0, .ref (G.1 161)), (1, .int x1), (2, .int x2), (3, .int x3), (4, .int x4), (5, .int x5)]) rfl ?_
            exact tM_seal_J114 hX hQ hN hk15 hk30 h
set_option maxHeartbeats 4000000 in
set_option maxRecDepth 100000 in
theorem tM_seal_J173 {G : wG} {X : wX} {x1 : Int32} {v0 : Int32} {s : wM} {r0 : Int32} {s1 : wM} (hX : wOK G X cX11_seal RX11 (some .int) 5) (hQ : wRt G X (wQi G r0 s1)) (hN : wNl X = 8) (h : fM_seal_J173 x1 v0 s = some (r0, s1)) : WB G X 173 [(1, .int x1)] [.int v0, .ref (G.1 161)] s := by
  unfold fM_seal_J173 at h
  obtain ⟨q_2, hc_1, h⟩ := bind_s h
  refine wb_callVv (s1 := q_2) [.int v0] hX sh_161 ml_1263 (tM_enters hc_1) (by decide) rfl rfl (Nat.le_of_ble_eq_true rfl) dX11_seal_173 (pq := 176) rfl ?_
  refine wb_iload_n 0 hX dX11_seal_176 rfl (pq := 177) rfl ?_
  exact wb_iret hX hQ h dX11_seal_177
set_option maxHeartbeats 4000000 in
set_option maxRecDepth 100000 in
theorem tM_seal_L15 {G : wG} {X : wX} {r0 : Int32} {s1 : wM} (hX : wOK G X cX11_seal RX11 (some .int) 5) (hQ : wRt G X (wQi G r0 s1)) (hN : wNl X = 8) : ∀ (n : Nat) (x1 : Int32) (x2 : Int32) (x3 : Int32) (x4 : Int32) (s : wM), wh5 (fM_seal_L15) n x1 x2 x3 x4 s = some (r0, s1) → WB G X 15 [(0, .ref (G.1 161)), (1, .int x1), (2, .int x2), (3, .int x3), (4, .int x4)] [] s := by
  intro n
  induction n with
  | zero => intro x1 x2 x3 x4 s h; cases h
  | succ n hk15 =>
    intro x1 x2 x3 x4 s h
    have h : fM_seal_L15 x1 x2 x3 x4 s (wh5 (fM_seal_L15) n) = some (r0, s1) := h
    unfold fM_seal_L15 at h
    refine wb_iload 4 hX dX11_seal_15 rfl (pq := 17) rfl ?_
    refine wb_aload_n 0 hX dX11_seal_17 rfl (pq := 18) rfl ?_
    refine wb_getI hX fl_1521 sh_161 rfl dX11_seal_18 (pq := 21) rfl ?_
    refine wb_icmp_ge (tgt := 143) hX dX11_seal_21 (by decide) (fun c_1 => ?_) (pq := 24) rfl (fun c_1 => ?_)
    · have h := ite_t c_1 h
      refine wb_iload_n 1 hX dX11_seal_143 rfl (pq := 144) rfl ?_
      refine wb_if_ge (tgt := 150) hX dX11_seal_144 (by decide) (fun c_2 => ?_) (pq := 147) rfl (fun c_2 => ?_)
      · have h := ite_t c_2 h
        refine wb_aload_n 0 hX dX11_seal_150 rfl (pq := 151) rfl ?_
        refine wb_iconst (v := iI (0)) hX dX11_seal_151 rfl (pq := 152) rfl ?_
        refine wb_putI hX fp_1519 sh_161 rfl dX11_seal_152 rfl rfl (pq := 155) rfl ?_
        refine wb_mem (fun s_3 es_3 => ?_)
        have h := nmM_s h s_3 es_3
        refine wb_aload_n 0 hX dX11_seal_155 rfl (pq := 156) rfl ?_
        refine wb_iload_n 2 hX dX11_seal_156 rfl (pq := 157) rfl ?_
        obtain ⟨q_5, hc_4, h⟩ := bind_s h
        refine wb_callVv (s1 := q_5) [.int x2] hX sh_161 ml_1263 (tM_enters hc_4) (by decide) rfl rfl (Nat.le_of_ble_eq_true rfl) dX11_seal_157 (pq := 160) rfl ?_
        refine wb_aload_n 0 hX dX11_seal_160 rfl (pq := 161) rfl ?_
        refine wb_iload_n 3 hX dX11_seal_161 rfl (pq := 162) rfl ?_
        refine wb_bipush (v := iI (100)) hX dX11_seal_162 (by decide) (pq := 164) rfl ?_
        refine wb_icmp_le (tgt := 172) hX dX11_seal_164 (by decide) (fun c_6 => ?_) (pq := 167) rfl (fun c_6 => ?_)
        · have h := ite_t c_6 h
          refine wb_iload_n 3 hX dX11_seal_172 rfl (pq := 173) rfl ?_
          refine wb_sub [1] (loc' := [(1, .int x1)]) rfl ?_
          exact tM_seal_J173 hX hQ hN h
        · have h := ite_f c_6 h
          refine wb_bipush (v := iI (-2)) hX dX11_seal_167 (by decide) (pq := 169) rfl ?_
          refine wb_goto (tgt := 173) hX dX11_seal_169 (by decide) ?_
          refine wb_sub [1] (loc' := [(1, .int x1)]) rfl ?_
          exact tM_seal_J173 hX hQ hN h
      · have h := ite_f c_2 h
        refine wb_bipush (v := iI (-2)) hX dX11_seal_147 (by decide) (pq := 149) rfl ?_
        exact wb_iret hX hQ h dX11_seal_149
    · have h := ite_f c_1 h
      refine wb_iload 4 hX dX11_seal_24 rfl (pq := 26) rfl ?_
      refine wb_iconst (v := iI (1)) hX dX11_seal_26 rfl (pq := 27) rfl ?_
      refine wb_iadd hX dX11_seal_27 (pq := 28) rfl ?_
      refine wb_istore (loc' := [(5, .int (x4 + (iI (1)))), (0, .ref (G.1 161)), (1, .int x1), (2, .int x2), (3, .int x3), (4, .int x4)]) hX hN dX11_seal_28 (by decide) rfl (pq := 30) rfl ?_
      refine wb_sub [1, 2, 3, 4, 5, 0] (loc' := [(0, .ref (G.1 161)), (1, .int x1), (2, .int x2), (3, .int x3), (4, .int x4), (5, .int (x4 + (iI (1))))]) rfl ?_
      exact tM_seal_L30 hX hQ hN hk15 100000 _ _ _ _ _ h
set_option maxHeartbeats 4000000 in
set_option maxRecDepth 100000 in
theorem tM_seal {l : Launch} {G : wG} {s : wM} {r0 : Int32} {s1 : wM} (h : fM_seal s = some (r0, s1)) : wMet l G yX11_seal cX11_seal 8 (some .int) 5 [.ref (G.1 161)] s (wQi G r0 s1) := by
  refine wMet_of (own := RX11) (by decide +kernel) rfl (Nat.le_of_ble_eq_true rfl) ?_
  intro X hX hQ hN hl
  show WB G X 0 [(0, .ref (G.1 161))] [] s
  unfold fM_seal at h
  refine wb_aload_n 0 hX dX11_seal_0 rfl (pq := 1) rfl ?_
  refine wb_iconst (v := iI (0)) hX dX11_seal_1 rfl (pq := 2) rfl ?_
  refine wb_putI hX fp_1518 sh_161 rfl dX11_seal_2 rfl rfl (pq := 5) rfl ?_
  refine wb_mem (fun s_1 es_1 => ?_)
  have h := nmM_s h s_1 es_1
  refine wb_bipush (v := iI (-2)) hX dX11_seal_5 (by decide) (pq := 7) rfl ?_
  refine wb_istore_n (loc' := [(1, .int (iI (-2))), (0, .ref (G.1 161))]) hX hN dX11_seal_7 (by decide) rfl (pq := 8) rfl ?_
  refine wb_iconst (v := iI (0)) hX dX11_seal_8 rfl (pq := 9) rfl ?_
  refine wb_istore_n (loc' := [(2, .int (iI (0))), (1, .int (iI (-2))), (0, .ref (G.1 161))]) hX hN dX11_seal_9 (by decide) rfl (pq := 10) rfl ?_
  refine wb_iconst (v := iI (0)) hX dX11_seal_10 rfl (pq := 11) rfl ?_
  refine wb_istore_n (loc' := [(3, .int (iI (0))), (2, .int (iI (0))), (1, .int (iI (-2))), (0, .ref (G.1 161))]) hX hN dX11_seal_11 (by decide) rfl (pq := 12) rfl ?_
  refine wb_iconst (v := iI (0)) hX dX11_seal_12 rfl (pq := 13) rfl ?_
  refine wb_istore (loc' := [(4, .int (iI (0))), (3, .int (iI (0))), (2, .int (iI (0))), (1, .int (iI (-2))), (0, .ref (G.1 161))]) hX hN dX11_seal_13 (by decide) rfl (pq := 15) rfl ?_
  refine wb_sub [4, 3, 2, 1, 0] (loc' := [(0, .ref (G.1 161)), (1, .int (iI (-2))), (2, .int (iI (0))), (3, .int (iI (0))), (4, .int (iI (0)))]) rfl ?_
  exact tM_seal_L15 hX hQ hN 100000 _ _ _ _ _ h
set_option maxHeartbeats 4000000 in
set_option maxRecDepth 100000 in
theorem tM_road_J21 {G : wG} {X : wX} {s : wM} {r0 : Int32} {s1 : wM} (hX : wOK G X cX11_road RX11 (some .int) 2) (hQ : wRt G X (wQi G r0 s1)) (hN : wNl X = 6) (h : fM_road_J21 s = some (r0, s1)) : WB G X 21 [] [] s := by
  unfold fM_road_J21 at h
  refine wb_iconst (v := iI (-1)) hX dX11_road_21 rfl (pq := 22) rfl ?_
  exact wb_iret hX hQ h dX11_road_22
set_option maxHeartbeats 4000000 in
set_option maxRecDepth 100000 in
theorem tM_road_J47 {G : wG} {X : wX} {k25 : Int32 → wM → Option (Int32 × wM)} {x1 : Int32} {x2 : Int32} {x3 : Int32} {v0 : Int32} {v1 : Int32} {s : wM} {r0 : Int32} {s1 : wM} (hX : wOK G X cX11_road RX11 (some .int) 2) (hQ : wRt G X (wQi G r0 s1)) (hN : wNl X = 6) (hk25 : ∀ (x3 : Int32) (s : wM), k25 x3 s = some (r0, s1) → WB G X 25 [(0, .ref (G.1 161)), (1, .int x1), (2, .int x2), (3, .int x3)] [] s) (h : fM_road_J47 k25 x1 x2 x3 v0 v1 s = some (r0, s1)) : WB G X 47 [(0, .ref (G.1 161)), (1, .int x1), (2, .int x2), (3, .int x3)] [.int v0, .int v1, .ref (G.1 190)] s := by
  unfold fM_road_J47 at h
  obtain ⟨hi_1, h⟩ := chk_some h
  refine wb_iast hX sh_190 hi_1 dX11_road_47 (pq := 48) rfl ?_
  refine wb_mem (fun s_2 es_2 => ?_)
  have h := nmM_s h s_2 es_2
  refine wb_iinc (v := (x3 + iI (1))) (loc' := [(3, .int (x3 + iI (1))), (0, .ref (G.1 161)), (1, .int x1), (2, .int x2)]) 3 hX hN dX11_road_48 rfl rfl (by decide) rfl (pq := 51) rfl ?_
  refine wb_goto (tgt := 25) hX dX11_road_51 (by decide) ?_
  refine wb_sub [1, 2, 3, 0] (loc' := [(0, .ref (G.1 161)), (1, .int x1), (2, .int x2), (3, .int (x3 + iI (1)))]) rfl ?_
  exact hk25 _ _ h
set_option maxHeartbeats 4000000 in
set_option maxRecDepth 100000 in
theorem tM_road_J138 {G : wG} {X : wX} {k56 : Int32 → wM → Option (Int32 × wM)} {k67 : Int32 → wM → Option (Int32 × wM)} {k79 : Int32 → wM → Option (Int32 × wM)} {x1 : Int32} {x3 : Int32} {x4 : Int32} {x5 : Int32} {v0 : Int32} {v1 : Int32} {s : wM} {r0 : Int32} {s1 : wM} (hX : wOK G X cX11_road RX11 (some .int) 2) (hQ : wRt G X (wQi G r0 s1)) (hN : wNl X = 6) (hk56 : ∀ (x3 : Int32) (s : wM), k56 x3 s = some (r0, s1) → WB G X 56 [(0, .ref (G.1 161)), (1, .int x1), (3, .int x3)] [] s) (hk67 : ∀ (x4 : Int32) (s : wM), k67 x4 s = some (r0, s1) → WB G X 67 [(0, .ref (G.1 161)), (1, .int x1), (3, .int x3), (4, .int x4)] [] s) (hk79 : ∀ (x5 : Int32) (s : wM), k79 x5 s = some (r0, s1) → WB G X 79 [(0, .ref (G.1 161)), (1, .int x1), (3, .int x3), (4, .int x4), (5, .int x5)] [] s) (h : fM_road_J138 k56 k67 k79 x1 x3 x4 x5 v0 v1 s = some (r0, s1)) : WB G X 138 [(0, .ref (G.1 161)), (1, .int x1), (3, .int x3), (4, .int x4), (5, .int x5)] [.int v0, .int v1, .ref (G.1 190)] s := by
  unfold fM_road_J138 at h
  obtain ⟨hi_1, h⟩ := chk_some h
  refine wb_iast hX sh_190 hi_1 dX11_road_138 (pq := 139) rfl ?_
  refine wb_mem (fun s_2 es_2 => ?_)
  have h := nmM_s h s_2 es_2
  refine wb_iinc (v := (x5 + iI (1))) (loc' := [(5, .int (x5 + iI (1))), (0, .ref (G.1 161)), (1, .int x1), (3, .int x3), (4, .int x4)]) 4 hX hN dX11_road_139 rfl rfl (by decide) rfl (pq := 142) rfl ?_
  refine wb_goto (tgt := 79) hX dX11_road_142 (by decide) ?_
  refine wb_sub [1, 2, 3, 4, 0] (loc' := [(0, .ref (G.1 161)), (1, .int x1), (3, .int x3), (4, .int x4), (5, .int (x5 + iI (1)))]) rfl ?_
  exact hk79 _ _ h
set_option maxHeartbeats 4000000 in
set_option maxRecDepth 100000 in
theorem tM_road_L79 {G : wG} {X : wX} {k56 : Int32 → wM → Option (Int32 × wM)} {k67 : Int32 → wM → Option (Int32 × wM)} {x1 : Int32} {x3 : Int32} {x4 : Int32} {r0 : Int32} {s1 : wM} (hX : wOK G X cX11_road RX11 (some .int) 2) (hQ : wRt G X (wQi G r0 s1)) (hN : wNl X = 6) (hk56 : ∀ (x3 : Int32) (s : wM), k56 x3 s = some (r0, s1) → WB G X 56 [(0, .ref (G.1 161)), (1, .int x1), (3, .int x3)] [] s) (hk67 : ∀ (x4 : Int32) (s : wM), k67 x4 s = some (r0, s1) → WB G X 67 [(0, .ref (G.1 161)), (1, .int x1), (3, .int x3), (4, .int x4)] [] s) : ∀ (n : Nat) (x5 : Int32) (s : wM), wh2 (fM_road_L79 k56 k67 x1 x3 x4) n x5 s = some (r0, s1) → WB G X 79 [(0, .ref (G.1 161)), (1, .int x1), (3, .int x3), (4, .int x4), (5, .int x5)] [] s := by
  intro n
  induction n with
  | zero => intro x5 s h; cases h
  | succ n hk79 =>
    intro x5 s h
    have h : fM_road_L79 k56 k67 x1 x3 x4 x5 s (wh2 (fM_road_L79 k56 k67 x1 x3 x4) n) = some (r0, s1) := h
    unfold fM_road_L79 at h
    refine wb_iload 4 hX dX11_road_79 rfl (pq := 81) rfl ?_
    refine wb_aload_n 0 hX dX11_road_81 rfl (pq := 82) rfl ?_
    refine wb_getI hX fl_1521 sh_161 rfl dX11_road_82 (pq := 85) rfl ?_
    refine wb_icmp_ge (tgt := 145) hX dX11_road_85 (by decide) (fun c_1 => ?_) (pq := 88) rfl (fun c_1 => ?_)
    · have h := ite_t c_1 h
      refine wb_iinc (v := (x4 + iI (1))) (loc' := [(4, .int (x4 + iI (1))), (0, .ref (G.1 161)), (1, .int x1), (3, .int x3), (5, .int x5)]) 3 hX hN dX11_road_145 rfl rfl (by decide) rfl (pq := 148) rfl ?_
      refine wb_goto (tgt := 67) hX dX11_road_148 (by decide) ?_
      refine wb_sub [1, 2, 3, 0] (loc' := [(0, .ref (G.1 161)), (1, .int x1), (3, .int x3), (4, .int (x4 + iI (1)))]) rfl ?_
      exact hk67 _ _ h
    · have h := ite_f c_1 h
      refine wb_aload_n 0 hX dX11_road_88 rfl (pq := 89) rfl ?_
      refine wb_getR hX fl_1560 sh_161 rfl dX11_road_89 (pq := 92) rfl ?_
      refine wb_iload 3 hX dX11_road_92 rfl (pq := 94) rfl ?_
      refine wb_aload_n 0 hX dX11_road_94 rfl (pq := 95) rfl ?_
      refine wb_getR hX fl_1524 sh_161 rfl dX11_road_95 (pq := 98) rfl ?_
      refine wb_iload 3 hX dX11_road_98 rfl (pq := 100) rfl ?_
      obtain ⟨hi_2, h⟩ := chk_some h
      refine wb_iald hX sh_165 hi_2 dX11_road_100 (pq := 101) rfl ?_
      refine wb_iload 4 hX dX11_road_101 rfl (pq := 103) rfl ?_
      obtain ⟨q_4, hc_3, h⟩ := bind_s h
      refine wb_callSi (r0 := q_4) (s1 := s) [.int (s.1 165 x4.toNatClampNeg), .int x5] hX ml_1187 (tM_has hc_3) (by decide) rfl rfl (Nat.le_of_ble_eq_true rfl) dX11_road_103 (pq := 106) rfl ?_
      refine wb_if_eq (tgt := 131) hX dX11_road_106 (by decide) (fun c_5 => ?_) (pq := 109) rfl (fun c_5 => ?_)
      · have h := ite_t c_5 h
        refine wb_aload_n 0 hX dX11_road_131 rfl (pq := 132) rfl ?_
        refine wb_getR hX fl_1560 sh_161 rfl dX11_road_132 (pq := 135) rfl ?_
        refine wb_iload 3 hX dX11_road_135 rfl (pq := 137) rfl ?_
        refine wb_iald hX sh_190 hi_2 dX11_road_137 (pq := 138) rfl ?_
        exact tM_road_J138 hX hQ hN hk56 hk67 hk79 h
      · have h := ite_f c_5 h
        refine wb_aload_n 0 hX dX11_road_109 rfl (pq := 110) rfl ?_
        refine wb_getR hX fl_1560 sh_161 rfl dX11_road_110 (pq := 113) rfl ?_
        refine wb_iload 3 hX dX11_road_113 rfl (pq := 115) rfl ?_
        refine wb_iald hX sh_190 hi_2 dX11_road_115 (pq := 116) rfl ?_
        refine wb_iconst (v := iI (1)) hX dX11_road_116 rfl (pq := 117) rfl ?_
        refine wb_aload_n 0 hX dX11_road_117 rfl (pq := 118) rfl ?_
        refine wb_getR hX fl_1560 sh_161 rfl dX11_road_118 (pq := 121) rfl ?_
        refine wb_iload 4 hX dX11_road_121 rfl (pq := 123) rfl ?_
        obtain ⟨hi_6, h⟩ := chk_some h
        refine wb_iald hX sh_190 hi_6 dX11_road_123 (pq := 124) rfl ?_
        refine wb_iadd hX dX11_road_124 (pq := 125) rfl ?_
        refine wb_mmin hX k_1136 k_394 k_14 k_395 (Nat.le_of_ble_eq_true rfl) dX11_road_125 (pq := 128) rfl ?_
        refine wb_goto (tgt := 138) hX dX11_road_128 (by decide) ?_
        exact tM_road_J138 hX hQ hN hk56 hk67 hk79 h
set_option maxHeartbeats 4000000 in
set_option maxRecDepth 100000 in
theorem tM_road_L67 {G : wG} {X : wX} {k56 : Int32 → wM → Option (Int32 × wM)} {x1 : Int32} {x3 : Int32} {r0 : Int32} {s1 : wM} (hX : wOK G X cX11_road RX11 (some .int) 2) (hQ : wRt G X (wQi G r0 s1)) (hN : wNl X = 6) (hk56 : ∀ (x3 : Int32) (s : wM), k56 x3 s = some (r0, s1) → WB G X 56 [(0, .ref (G.1 161)), (1, .int x1), (3, .int x3)] [] s) : ∀ (n : Nat) (x4 : Int32) (s : wM), wh2 (fM_road_L67 k56 x1 x3) n x4 s = some (r0, s1) → WB G X 67 [(0, .ref (G.1 161)), (1, .int x1), (3, .int x3), (4, .int x4)] [] s := by
  intro n
  induction n with
  | zero => intro x4 s h; cases h
  | succ n hk67 =>
    intro x4 s h
    have h : fM_road_L67 k56 x1 x3 x4 s (wh2 (fM_road_L67 k56 x1 x3) n) = some (r0, s1) := h
    unfold fM_road_L67 at h
    refine wb_iload 3 hX dX11_road_67 rfl (pq := 69) rfl ?_
    refine wb_aload_n 0 hX dX11_road_69 rfl (pq := 70) rfl ?_
    refine wb_getI hX fl_1521 sh_161 rfl dX11_road_70 (pq := 73) rfl ?_
    refine wb_icmp_ge (tgt := 151) hX dX11_road_73 (by decide) (fun c_1 => ?_) (pq := 76) rfl (fun c_1 => ?_)
    · have h := ite_t c_1 h
      refine wb_iinc (v := (x3 + iI (1))) (loc' := [(3, .int (x3 + iI (1))), (0, .ref (G.1 161)), (1, .int x1), (4, .int x4)]) 2 hX hN dX11_road_151 rfl rfl (by decide) rfl (pq := 154) rfl ?_
      refine wb_goto (tgt := 56) hX dX11_road_154 (by decide) ?_
      refine wb_sub [1, 2, 0] (loc' := [(0, .ref (G.1 161)), (1, .int x1), (3, .int (x3 + iI (1)))]) rfl ?_
      exact hk56 _ _ h
    · have h := ite_f c_1 h
      refine wb_iconst (v := iI (0)) hX dX11_road_76 rfl (pq := 77) rfl ?_
      refine wb_istore (loc' := [(5, .int (iI (0))), (0, .ref (G.1 161)), (1, .int x1), (3, .int x3), (4, .int x4)]) hX hN dX11_road_77 (by decide) rfl (pq := 79) rfl ?_
      refine wb_sub [1, 2, 3, 4, 0] (loc' := [(0, .ref (G.1 161)), (1, .int x1), (3, .int x3), (4, .int x4), (5, .int (iI (0)))]) rfl ?_
      exact tM_road_L79 hX hQ hN hk56 hk67 100000 _ _ h
set_option maxHeartbeats 4000000 in
set_option maxRecDepth 100000 in
theorem tM_road_J222 {G : wG} {X : wX} {k188 : Int32 → Int32 → wM → Option (Int32 × wM)} {k196 : Int32 → Option (Int32 × wM)} {x1 : Int32} {x3 : Int32} {x4 : Int32} {x5 : Int32} {s : wM} {r0 : Int32} {s1 : wM} (hX : wOK G X cX11_road RX11 (some .int) 2) (hQ : wRt G X (wQi G r0 s1)) (hN : wNl X = 6) (hk188 : ∀ (x3 : Int32) (x4 : Int32) (s : wM), k188 x3 x4 s = some (r0, s1) → WB G X 188 [(0, .ref (G.1 161)), (1, .int x1), (3, .int x3), (4, .int x4)] [] s) (hk196 : ∀ (x5 : Int32), k196 x5 = some (r0, s1) → WB G X 196 [(0, .ref (G.1 161)), (1, .int x1), (3, .int x3), (4, .int x4), (5, .int x5)] [] s) (h : fM_road_J222 k188 k196 x1 x3 x4 x5 s = some (r0, s1)) : WB G X 222 [(0, .ref (G.1 161)), (1, .int x1), (3, .int x3), (4, .int x4), (5, .int x5)] [] s := by
  unfold fM_road_J222 at h
  refine wb_iinc (v := (x5 + iI (1))) (loc' := [(5, .int (x5 + iI (1))), (0, .ref (G.1 161)), (1, .int x1), (3, .int x3), (4, .int x4)]) 4 hX hN dX11_road_222 rfl rfl (by decide) rfl (pq := 225) rfl ?_
  refine wb_goto (tgt := 196) hX dX11_road_225 (by decide) ?_
  refine wb_sub [1, 2, 3, 4, 0] (loc' := [(0, .ref (G.1 161)), (1, .int x1), (3, .int x3), (4, .int x4), (5, .int (x5 + iI (1)))]) rfl ?_
  exact hk196 _ h
set_option maxHeartbeats 4000000 in
set_option maxRecDepth 100000 in
theorem tM_road_L196 {G : wG} {X : wX} {k188 : Int32 → Int32 → wM → Option (Int32 × wM)} {x1 : Int32} {x3 : Int32} {x4 : Int32} {s : wM} {r0 : Int32} {s1 : wM} (hX : wOK G X cX11_road RX11 (some .int) 2) (hQ : wRt G X (wQi G r0 s1)) (hN : wNl X = 6) (hk188 : ∀ (x3 : Int32) (x4 : Int32) (s : wM), k188 x3 x4 s = some (r0, s1) → WB G X 188 [(0, .ref (G.1 161)), (1, .int x1), (3, .int x3), (4, .int x4)] [] s) : ∀ (n : Nat) (x5 : Int32), wh1 (fM_road_L196 k188 x1 x3 x4 s) n x5 = some (r0, s1) → WB G X 196 [(0, .ref (G.1 161)), (1, .int x1), (3, .int x3), (4, .int x4), (5, .int x5)] [] s := by
  intro n
  induction n with
  | zero => intro x5 h; cases h
  | succ n hk196 =>
    intro x5 h
    have h : fM_road_L196 k188 x1 x3 x4 s x5 (wh1 (fM_road_L196 k188 x1 x3 x4 s) n) = some (r0, s1) := h
    unfold fM_road_L196 at h
    refine wb_aload_n 0 hX dX11_road_196 rfl (pq := 197) rfl ?_
    refine wb_getR hX fl_1524 sh_161 rfl dX11_road_197 (pq := 200) rfl ?_
    refine wb_iload_n 2 hX dX11_road_200 rfl (pq := 201) rfl ?_
    obtain ⟨hi_1, h⟩ := chk_some h
    refine wb_iald hX sh_165 hi_1 dX11_road_201 (pq := 202) rfl ?_
    refine wb_iload 4 hX dX11_road_202 rfl (pq := 204) rfl ?_
    obtain ⟨q_3, hc_2, h⟩ := bind_s h
    refine wb_callSi (r0 := q_3) (s1 := s) [.int (s.1 165 x3.toNatClampNeg), .int x5] hX ml_1187 (tM_has hc_2) (by decide) rfl rfl (Nat.le_of_ble_eq_true rfl) dX11_road_204 (pq := 207) rfl ?_
    refine wb_if_eq (tgt := 222) hX dX11_road_207 (by decide) (fun c_4 => ?_) (pq := 210) rfl (fun c_4 => ?_)
    · have h := ite_t c_4 h
      exact tM_road_J222 hX hQ hN hk188 hk196 h
    · have h := ite_f c_4 h
      refine wb_aload_n 0 hX dX11_road_210 rfl (pq := 211) rfl ?_
      refine wb_getR hX fl_1560 sh_161 rfl dX11_road_211 (pq := 214) rfl ?_
      refine wb_iload 4 hX dX11_road_214 rfl (pq := 216) rfl ?_
      obtain ⟨hi_5, h⟩ := chk_some h
      refine wb_iald hX sh_190 hi_5 dX11_road_216 (pq := 217) rfl ?_
      refine wb_iload 3 hX dX11_road_217 rfl (pq := 219) rfl ?_
      refine wb_icmp_eq (tgt := 228) hX dX11_road_219 (by decide) (fun c_6 => ?_) (pq := 222) rfl (fun c_6 => ?_)
      · have h := ite_t c_6 h
        refine wb_aload_n 0 hX dX11_road_228 rfl (pq := 229) rfl ?_
        refine wb_iload 4 hX dX11_road_229 rfl (pq := 231) rfl ?_
        obtain ⟨q_8, hc_7, h⟩ := bind_s h
        refine wb_callVv (s1 := q_8) [.int x5] hX sh_161 ml_1263 (tM_enters hc_7) (by decide) rfl rfl (Nat.le_of_ble_eq_true rfl) dX11_road_231 (pq := 234) rfl ?_
        refine wb_iload 4 hX dX11_road_234 rfl (pq := 236) rfl ?_
        refine wb_istore_n (loc' := [(3, .int x5), (0, .ref (G.1 161)), (1, .int x1), (4, .int x4), (5, .int x5)]) hX hN dX11_road_236 (by decide) rfl (pq := 237) rfl ?_
        refine wb_iinc (v := (x4 + iI (-1))) (loc' := [(4, .int (x4 + iI (-1))), (3, .int x5), (0, .ref (G.1 161)), (1, .int x1), (5, .int x5)]) 3 hX hN dX11_road_237 rfl rfl (by decide) rfl (pq := 240) rfl ?_
        refine wb_goto (tgt := 188) hX dX11_road_240 (by decide) ?_
        refine wb_sub [2, 3, 1, 0] (loc' := [(0, .ref (G.1 161)), (1, .int x1), (3, .int x5), (4, .int (x4 + iI (-1)))]) rfl ?_
        exact hk188 _ _ _ h
      · have h := ite_f c_6 h
        exact tM_road_J222 hX hQ hN hk188 hk196 h
set_option maxHeartbeats 4000000 in
set_option maxRecDepth 100000 in
theorem tM_road_L188 {G : wG} {X : wX} {x1 : Int32} {r0 : Int32} {s1 : wM} (hX : wOK G X cX11_road RX11 (some .int) 2) (hQ : wRt G X (wQi G r0 s1)) (hN : wNl X = 6) : ∀ (n : Nat) (x3 : Int32) (x4 : Int32) (s : wM), wh3 (fM_road_L188 x1) n x3 x4 s = some (r0, s1) → WB G X 188 [(0, .ref (G.1 161)), (1, .int x1), (3, .int x3), (4, .int x4)] [] s := by
  intro n
  induction n with
  | zero => intro x3 x4 s h; cases h
  | succ n hk188 =>
    intro x3 x4 s h
    have h : fM_road_L188 x1 x3 x4 s (wh3 (fM_road_L188 x1) n) = some (r0, s1) := h
    unfold fM_road_L188 at h
    refine wb_iload 3 hX dX11_road_188 rfl (pq := 190) rfl ?_
    refine wb_if_le (tgt := 243) hX dX11_road_190 (by decide) (fun c_1 => ?_) (pq := 193) rfl (fun c_1 => ?_)
    · have h := ite_t c_1 h
      refine wb_aload_n 0 hX dX11_road_243 rfl (pq := 244) rfl ?_
      refine wb_getR hX fl_1560 sh_161 rfl dX11_road_244 (pq := 247) rfl ?_
      refine wb_iload_n 1 hX dX11_road_247 rfl (pq := 248) rfl ?_
      obtain ⟨hi_2, h⟩ := chk_some h
      refine wb_iald hX sh_190 hi_2 dX11_road_248 (pq := 249) rfl ?_
      exact wb_iret hX hQ h dX11_road_249
    · have h := ite_f c_1 h
      refine wb_iconst (v := iI (0)) hX dX11_road_193 rfl (pq := 194) rfl ?_
      refine wb_istore (loc' := [(5, .int (iI (0))), (0, .ref (G.1 161)), (1, .int x1), (3, .int x3), (4, .int x4)]) hX hN dX11_road_194 (by decide) rfl (pq := 196) rfl ?_
      refine wb_sub [1, 2, 3, 4, 0] (loc' := [(0, .ref (G.1 161)), (1, .int x1), (3, .int x3), (4, .int x4), (5, .int (iI (0)))]) rfl ?_
      exact tM_road_L196 hX hQ hN hk188 100000 _ h
set_option maxHeartbeats 4000000 in
set_option maxRecDepth 100000 in
theorem tM_road_L56 {G : wG} {X : wX} {x1 : Int32} {r0 : Int32} {s1 : wM} (hX : wOK G X cX11_road RX11 (some .int) 2) (hQ : wRt G X (wQi G r0 s1)) (hN : wNl X = 6) : ∀ (n : Nat) (x3 : Int32) (s : wM), wh2 (fM_road_L56 x1) n x3 s = some (r0, s1) → WB G X 56 [(0, .ref (G.1 161)), (1, .int x1), (3, .int x3)] [] s := by
  intro n
  induction n with
  | zero => intro x3 s h; cases h
  | succ n hk56 =>
    intro x3 s h
    have h : fM_road_L56 x1 x3 s (wh2 (fM_road_L56 x1) n) = some (r0, s1) := h
    unfold fM_road_L56 at h
    refine wb_iload_n 2 hX dX11_road_56 rfl (pq := 57) rfl ?_
    refine wb_aload_n 0 hX dX11_road_57 rfl (pq := 58) rfl ?_
    refine wb_getI hX fl_1521 sh_161 rfl dX11_road_58 (pq := 61) rfl ?_
    refine wb_icmp_ge (tgt := 157) hX dX11_road_61 (by decide) (fun c_1 => ?_) (pq := 64) rfl (fun c_1 => ?_)
    · have h := ite_t c_1 h
      refine wb_aload_n 0 hX dX11_road_157 rfl (pq := 158) rfl ?_
      refine wb_getR hX fl_1560 sh_161 rfl dX11_road_158 (pq := 161) rfl ?_
      refine wb_iload_n 1 hX dX11_road_161 rfl (pq := 162) rfl ?_
      obtain ⟨hi_2, h⟩ := chk_some h
      refine wb_iald hX sh_190 hi_2 dX11_road_162 (pq := 163) rfl ?_
      refine wb_bipush (v := iI (100)) hX dX11_road_163 (by decide) (pq := 165) rfl ?_
      refine wb_icmp_lt (tgt := 171) hX dX11_road_165 (by decide) (fun c_3 => ?_) (pq := 168) rfl (fun c_3 => ?_)
      · have h := ite_t c_3 h
        refine wb_aload_n 0 hX dX11_road_171 rfl (pq := 172) rfl ?_
        refine wb_iconst (v := iI (0)) hX dX11_road_172 rfl (pq := 173) rfl ?_
        refine wb_putI hX fp_1519 sh_161 rfl dX11_road_173 rfl rfl (pq := 176) rfl ?_
        refine wb_mem (fun s_4 es_4 => ?_)
        have h := nmM_s h s_4 es_4
        refine wb_iload_n 1 hX dX11_road_176 rfl (pq := 177) rfl ?_
        refine wb_istore_n (loc' := [(3, .int x1), (0, .ref (G.1 161)), (1, .int x1)]) hX hN dX11_road_177 (by decide) rfl (pq := 178) rfl ?_
        refine wb_aload_n 1 hX dX11_road_178 rfl (pq := 179) rfl ?_
        refine wb_getR hX fl_1560 sh_161 rfl dX11_road_179 (pq := 182) rfl ?_
        refine wb_iload_n 2 hX dX11_road_182 rfl (pq := 183) rfl ?_
        refine wb_iald hX sh_190 hi_2 dX11_road_183 (pq := 184) rfl ?_
        refine wb_iconst (v := iI (1)) hX dX11_road_184 rfl (pq := 185) rfl ?_
        refine wb_isub hX dX11_road_185 (pq := 186) rfl ?_
        refine wb_topi (fun y_5 ey_5 => ?_)
        have h := nmI_s h y_5 ey_5
        refine wb_istore (loc' := [(4, .int y_5), (3, .int x1), (0, .ref (G.1 161)), (1, .int x1)]) hX hN dX11_road_186 (by decide) rfl (pq := 188) rfl ?_
        refine wb_sub [2, 3, 1, 0] (loc' := [(0, .ref (G.1 161)), (1, .int x1), (3, .int x1), (4, .int y_5)]) rfl ?_
        exact tM_road_L188 hX hQ hN 100000 _ _ _ h
      · have h := ite_f c_3 h
        refine wb_bipush (v := iI (-2)) hX dX11_road_168 (by decide) (pq := 170) rfl ?_
        exact wb_iret hX hQ h dX11_road_170
    · have h := ite_f c_1 h
      refine wb_iconst (v := iI (0)) hX dX11_road_64 rfl (pq := 65) rfl ?_
      refine wb_istore (loc' := [(4, .int (iI (0))), (0, .ref (G.1 161)), (1, .int x1), (3, .int x3)]) hX hN dX11_road_65 (by decide) rfl (pq := 67) rfl ?_
      refine wb_sub [1, 2, 3, 0] (loc' := [(0, .ref (G.1 161)), (1, .int x1), (3, .int x3), (4, .int (iI (0)))]) rfl ?_
      exact tM_road_L67 hX hQ hN hk56 100000 _ _ h
set_option maxHeartbeats 4000000 in
set_option maxRecDepth 100000 in
theorem tM_road_L25 {G : wG} {X : wX} {x1 : Int32} {x2 : Int32} {r0 : Int32} {s1 : wM} (hX : wOK G X cX11_road RX11 (some .int) 2) (hQ : wRt G X (wQi G r0 s1)) (hN : wNl X = 6) : ∀ (n : Nat) (x3 : Int32) (s : wM), wh2 (fM_road_L25 x1 x2) n x3 s = some (r0, s1) → WB G X 25 [(0, .ref (G.1 161)), (1, .int x1), (2, .int x2), (3, .int x3)] [] s := by
  intro n
  induction n with
  | zero => intro x3 s h; cases h
  | succ n hk25 =>
    intro x3 s h
    have h : fM_road_L25 x1 x2 x3 s (wh2 (fM_road_L25 x1 x2) n) = some (r0, s1) := h
    unfold fM_road_L25 at h
    refine wb_iload_n 3 hX dX11_road_25 rfl (pq := 26) rfl ?_
    refine wb_bipush (v := iI (9)) hX dX11_road_26 (by decide) (pq := 28) rfl ?_
    refine wb_icmp_ge (tgt := 54) hX dX11_road_28 (by decide) (fun c_1 => ?_) (pq := 31) rfl (fun c_1 => ?_)
    · have h := ite_t c_1 h
      refine wb_iconst (v := iI (0)) hX dX11_road_54 rfl (pq := 55) rfl ?_
      refine wb_istore_n (loc' := [(3, .int (iI (0))), (0, .ref (G.1 161)), (1, .int x1), (2, .int x2)]) hX hN dX11_road_55 (by decide) rfl (pq := 56) rfl ?_
      refine wb_sub [1, 2, 0] (loc' := [(0, .ref (G.1 161)), (1, .int x1), (3, .int (iI (0)))]) rfl ?_
      exact tM_road_L56 hX hQ hN 100000 _ _ h
    · have h := ite_f c_1 h
      refine wb_aload_n 0 hX dX11_road_31 rfl (pq := 32) rfl ?_
      refine wb_getR hX fl_1560 sh_161 rfl dX11_road_32 (pq := 35) rfl ?_
      refine wb_iload_n 3 hX dX11_road_35 rfl (pq := 36) rfl ?_
      refine wb_iload_n 3 hX dX11_road_36 rfl (pq := 37) rfl ?_
      refine wb_iload_n 2 hX dX11_road_37 rfl (pq := 38) rfl ?_
      refine wb_icmp_ne (tgt := 45) hX dX11_road_38 (by decide) (pq := 41) rfl (fun c_2 => ?_) (fun c_2 => ?_)
      · have h := ite_t c_2 h
        refine wb_iconst (v := iI (0)) hX dX11_road_41 rfl (pq := 42) rfl ?_
        refine wb_goto (tgt := 47) hX dX11_road_42 (by decide) ?_
        exact tM_road_J47 hX hQ hN hk25 h
      · have h := ite_f c_2 h
        refine wb_bipush (v := iI (100)) hX dX11_road_45 (by decide) (pq := 47) rfl ?_
        exact tM_road_J47 hX hQ hN hk25 h
set_option maxHeartbeats 4000000 in
set_option maxRecDepth 100000 in
theorem tM_road {l : Launch} {G : wG} {s : wM} {x1 : Int32} {x2 : Int32} {r0 : Int32} {s1 : wM} (h : fM_road s x1 x2 = some (r0, s1)) : wMet l G yX11_road cX11_road 6 (some .int) 2 [.ref (G.1 161), .int x1, .int x2] s (wQi G r0 s1) := by
  refine wMet_of (own := RX11) (by decide +kernel) rfl (Nat.le_of_ble_eq_true rfl) ?_
  intro X hX hQ hN hl
  show WB G X 0 [(0, .ref (G.1 161)), (1, .int x1), (2, .int x2)] [] s
  unfold fM_road at h
  refine wb_aload_n 0 hX dX11_road_0 rfl (pq := 1) rfl ?_
  refine wb_iconst (v := iI (0)) hX dX11_road_1 rfl (pq := 2) rfl ?_
  refine wb_putI hX fp_1518 sh_161 rfl dX11_road_2 rfl rfl (pq := 5) rfl ?_
  refine wb_mem (fun s_1 es_1 => ?_)
  have h := nmM_s h s_1 es_1
  refine wb_aload_n 0 hX dX11_road_5 rfl (pq := 6) rfl ?_
  refine wb_iload_n 1 hX dX11_road_6 rfl (pq := 7) rfl ?_
  obtain ⟨q_3, hc_2, h⟩ := bind_s h
  refine wb_callVi (r0 := q_3) (s1 := s_1) [.int x1] hX sh_161 ml_1170 (tM_isFarm hc_2) (by decide) rfl rfl (Nat.le_of_ble_eq_true rfl) dX11_road_7 (pq := 10) rfl ?_
  refine wb_if_eq (tgt := 21) hX dX11_road_10 (by decide) (fun c_4 => ?_) (pq := 13) rfl (fun c_4 => ?_)
  · have h := ite_t c_4 h
    refine wb_sub [] (loc' := []) rfl ?_
    exact tM_road_J21 hX hQ hN h
  · have h := ite_f c_4 h
    refine wb_aload_n 0 hX dX11_road_13 rfl (pq := 14) rfl ?_
    refine wb_iload_n 2 hX dX11_road_14 rfl (pq := 15) rfl ?_
    obtain ⟨q_6, hc_5, h⟩ := bind_s h
    refine wb_callVi (r0 := q_6) (s1 := s_1) [.int x2] hX sh_161 ml_1170 (tM_isFarm hc_5) (by decide) rfl rfl (Nat.le_of_ble_eq_true rfl) dX11_road_15 (pq := 18) rfl ?_
    refine wb_if_ne (tgt := 23) hX dX11_road_18 (by decide) (pq := 21) rfl (fun c_7 => ?_) (fun c_7 => ?_)
    · have h := ite_t c_7 h
      refine wb_sub [] (loc' := []) rfl ?_
      exact tM_road_J21 hX hQ hN h
    · have h := ite_f c_7 h
      refine wb_iconst (v := iI (0)) hX dX11_road_23 rfl (pq := 24) rfl ?_
      refine wb_istore_n (loc' := [(3, .int (iI (0))), (0, .ref (G.1 161)), (1, .int x1), (2, .int x2)]) hX hN dX11_road_24 (by decide) rfl (pq := 25) rfl ?_
      refine wb_sub [1, 2, 3, 0] (loc' := [(0, .ref (G.1 161)), (1, .int x1), (2, .int x2), (3, .int (iI (0)))]) rfl ?_
      exact tM_road_L25 hX hQ hN 100000 _ _ h
set_option maxHeartbeats 4000000 in
set_option maxRecDepth 100000 in
theorem tM_asMany_J10 {G : wG} {X : wX} {v0 : Int32} {s : wM} {r0 : Int32} (hX : wOK G X cX11_asMany RX11 (some .int) 0) (hQ : wRt G X (wQi G r0 s)) (hN : wNl X = 1) (h : fM_asMany_J10 v0 s = some r0) : WB G X 10 [] [.int v0] s := by
  unfold fM_asMany_J10 at h
  exact wb_iretP hX hQ h dX11_asMany_10
set_option maxHeartbeats 4000000 in
set_option maxRecDepth 100000 in
theorem tM_asMany {l : Launch} {G : wG} {s : wM} {x0 : Int32} {r0 : Int32} (h : fM_asMany s x0 = some r0) : wMet l G yX11_asMany cX11_asMany 1 (some .int) 0 [.int x0] s (wQi G r0 s) := by
  refine wMet_of (own := RX11) (by decide +kernel) rfl (Nat.le_of_ble_eq_true rfl) ?_
  intro X hX hQ hN hl
  show WB G X 0 [(0, .int x0)] [] s
  unfold fM_asMany at h
  refine wb_iload_n 0 hX dX11_asMany_0 rfl (pq := 1) rfl ?_
  refine wb_if_ge (tgt := 9) hX dX11_asMany_1 (by decide) (fun c_1 => ?_) (pq := 4) rfl (fun c_1 => ?_)
  · have h := ite_t c_1 h
    refine wb_iload_n 0 hX dX11_asMany_9 rfl (pq := 10) rfl ?_
    refine wb_sub [] (loc' := []) rfl ?_
    exact tM_asMany_J10 hX hQ hN h
  · have h := ite_f c_1 h
    refine wb_bipush (v := iI (101)) hX dX11_asMany_4 (by decide) (pq := 6) rfl ?_
    refine wb_goto (tgt := 10) hX dX11_asMany_6 (by decide) ?_
    refine wb_sub [] (loc' := []) rfl ?_
    exact tM_asMany_J10 hX hQ hN h
set_option maxHeartbeats 4000000 in
set_option maxRecDepth 100000 in
theorem tM_boon_J80 {G : wG} {X : wX} {k21 : Int32 → Int32 → Int32 → wM → Option (Int32 × wM)} {x2 : Int32} {x3 : Int32} {x5 : Int32} {v0 : Int32} {s : wM} {r0 : Int32} {s1 : wM} (hX : wOK G X cX11_boon RX11 (some .int) 5) (hQ : wRt G X (wQi G r0 s1)) (hN : wNl X = 6) (hk21 : ∀ (x1 : Int32) (x2 : Int32) (x3 : Int32) (s : wM), k21 x1 x2 x3 s = some (r0, s1) → WB G X 21 [(0, .ref (G.1 161)), (1, .int x1), (2, .int x2), (3, .int x3)] [] s) (h : fM_boon_J80 k21 x2 x3 x5 v0 s = some (r0, s1)) : WB G X 80 [(0, .ref (G.1 161)), (2, .int x2), (3, .int x3), (5, .int x5)] [.int v0] s := by
  unfold fM_boon_J80 at h
  refine wb_istore_n (loc' := [(1, .int v0), (0, .ref (G.1 161)), (2, .int x2), (3, .int x3), (5, .int x5)]) hX hN dX11_boon_80 (by decide) rfl (pq := 81) rfl ?_
  refine wb_iload_n 2 hX dX11_boon_81 rfl (pq := 82) rfl ?_
  refine wb_iload 4 hX dX11_boon_82 rfl (pq := 84) rfl ?_
  refine wb_mmax hX k_1209 k_491 k_14 k_492 (Nat.le_of_ble_eq_true rfl) dX11_boon_84 (pq := 87) rfl ?_
  refine wb_istore_n (loc' := [(2, .int (iMax x2 x5)), (1, .int v0), (0, .ref (G.1 161)), (3, .int x3), (5, .int x5)]) hX hN dX11_boon_87 (by decide) rfl (pq := 88) rfl ?_
  refine wb_iinc (v := (x3 + iI (1))) (loc' := [(3, .int (x3 + iI (1))), (2, .int (iMax x2 x5)), (1, .int v0), (0, .ref (G.1 161)), (5, .int x5)]) 3 hX hN dX11_boon_88 rfl rfl (by decide) rfl (pq := 91) rfl ?_
  refine wb_goto (tgt := 21) hX dX11_boon_91 (by decide) ?_
  refine wb_sub [3, 2, 1, 0] (loc' := [(0, .ref (G.1 161)), (1, .int v0), (2, .int (iMax x2 x5)), (3, .int (x3 + iI (1)))]) rfl ?_
  exact hk21 _ _ _ _ h
set_option maxHeartbeats 4000000 in
set_option maxRecDepth 100000 in
theorem tM_boon_J112 {G : wG} {X : wX} {x1 : Int32} {v0 : Int32} {s : wM} {r0 : Int32} {s1 : wM} (hX : wOK G X cX11_boon RX11 (some .int) 5) (hQ : wRt G X (wQi G r0 s1)) (hN : wNl X = 6) (h : fM_boon_J112 x1 v0 s = some (r0, s1)) : WB G X 112 [(0, .ref (G.1 161)), (1, .int x1)] [.int v0, .ref (G.1 161)] s := by
  unfold fM_boon_J112 at h
  obtain ⟨q_2, hc_1, h⟩ := bind_s h
  refine wb_callVv (s1 := q_2) [.int v0] hX sh_161 ml_1263 (tM_enters hc_1) (by decide) rfl rfl (Nat.le_of_ble_eq_true rfl) dX11_boon_112 (pq := 115) rfl ?_
  refine wb_aload_n 0 hX dX11_boon_115 rfl (pq := 116) rfl ?_
  refine wb_aload_n 0 hX dX11_boon_116 rfl (pq := 117) rfl ?_
  obtain ⟨q_4, hc_3, h⟩ := bind_s h
  refine wb_callVi (r0 := q_4.1) (s1 := q_4.2) [] hX sh_161 ml_1400 (tM_lastsNow hc_3) (by decide) rfl rfl (Nat.le_of_ble_eq_true rfl) dX11_boon_117 (pq := 120) rfl ?_
  obtain ⟨q_6, hc_5, h⟩ := bind_s h
  refine wb_callVv (s1 := q_6) [.int q_4.1] hX sh_161 ml_1263 (tM_enters hc_5) (by decide) rfl rfl (Nat.le_of_ble_eq_true rfl) dX11_boon_120 (pq := 123) rfl ?_
  refine wb_iload_n 1 hX dX11_boon_123 rfl (pq := 124) rfl ?_
  exact wb_iret hX hQ h dX11_boon_124
set_option maxHeartbeats 4000000 in
set_option maxRecDepth 100000 in
theorem tM_boon_L21 {G : wG} {X : wX} {r0 : Int32} {s1 : wM} (hX : wOK G X cX11_boon RX11 (some .int) 5) (hQ : wRt G X (wQi G r0 s1)) (hN : wNl X = 6) : ∀ (n : Nat) (x1 : Int32) (x2 : Int32) (x3 : Int32) (s : wM), wh4 (fM_boon_L21) n x1 x2 x3 s = some (r0, s1) → WB G X 21 [(0, .ref (G.1 161)), (1, .int x1), (2, .int x2), (3, .int x3)] [] s := by
  intro n
  induction n with
  | zero => intro x1 x2 x3 s h; cases h
  | succ n hk21 =>
    intro x1 x2 x3 s h
    have h : fM_boon_L21 x1 x2 x3 s (wh4 (fM_boon_L21) n) = some (r0, s1) := h
    unfold fM_boon_L21 at h
    refine wb_iload_n 3 hX dX11_boon_21 rfl (pq := 22) rfl ?_
    refine wb_aload_n 0 hX dX11_boon_22 rfl (pq := 23) rfl ?_
    refine wb_getI hX fl_1521 sh_161 rfl dX11_boon_23 (pq := 26) rfl ?_
    refine wb_icmp_ge (tgt := 94) hX dX11_boon_26 (by decide) (fun c_1 => ?_) (pq := 29) rfl (fun c_1 => ?_)
    · have h := ite_t c_1 h
      refine wb_aload_n 0 hX dX11_boon_94 rfl (pq := 95) rfl ?_
      refine wb_iconst (v := iI (0)) hX dX11_boon_95 rfl (pq := 96) rfl ?_
      refine wb_putI hX fp_1519 sh_161 rfl dX11_boon_96 rfl rfl (pq := 99) rfl ?_
      refine wb_mem (fun s_2 es_2 => ?_)
      have h := nmM_s h s_2 es_2
      refine wb_aload_n 0 hX dX11_boon_99 rfl (pq := 100) rfl ?_
      refine wb_iload_n 2 hX dX11_boon_100 rfl (pq := 101) rfl ?_
      refine wb_bipush (v := iI (100)) hX dX11_boon_101 (by decide) (pq := 103) rfl ?_
      refine wb_icmp_le (tgt := 111) hX dX11_boon_103 (by decide) (fun c_3 => ?_) (pq := 106) rfl (fun c_3 => ?_)
      · have h := ite_t c_3 h
        refine wb_iload_n 2 hX dX11_boon_111 rfl (pq := 112) rfl ?_
        refine wb_sub [0, 1] (loc' := [(0, .ref (G.1 161)), (1, .int x1)]) rfl ?_
        exact tM_boon_J112 hX hQ hN h
      · have h := ite_f c_3 h
        refine wb_bipush (v := iI (-2)) hX dX11_boon_106 (by decide) (pq := 108) rfl ?_
        refine wb_goto (tgt := 112) hX dX11_boon_108 (by decide) ?_
        refine wb_sub [0, 1] (loc' := [(0, .ref (G.1 161)), (1, .int x1)]) rfl ?_
        exact tM_boon_J112 hX hQ hN h
    · have h := ite_f c_1 h
      refine wb_aload_n 0 hX dX11_boon_29 rfl (pq := 30) rfl ?_
      refine wb_getR hX fl_1523 sh_161 rfl dX11_boon_30 (pq := 33) rfl ?_
      refine wb_iload_n 3 hX dX11_boon_33 rfl (pq := 34) rfl ?_
      obtain ⟨hi_4, h⟩ := chk_some h
      refine wb_iald hX sh_164 hi_4 dX11_boon_34 (pq := 35) rfl ?_
      refine wb_istore (loc' := [(4, .int (s.1 164 x3.toNatClampNeg)), (0, .ref (G.1 161)), (1, .int x1), (2, .int x2), (3, .int x3)]) hX hN dX11_boon_35 (by decide) rfl (pq := 37) rfl ?_
      refine wb_aload_n 1 hX dX11_boon_37 rfl (pq := 38) rfl ?_
      refine wb_getR hX fl_1523 sh_161 rfl dX11_boon_38 (pq := 41) rfl ?_
      refine wb_iload_n 4 hX dX11_boon_41 rfl (pq := 42) rfl ?_
      refine wb_bipush (v := iI (9)) hX dX11_boon_42 (by decide) (pq := 44) rfl ?_
      refine wb_iload 0 hX dX11_boon_44 rfl (pq := 46) rfl ?_
      refine wb_iconst (v := iI (1)) hX dX11_boon_46 rfl (pq := 47) rfl ?_
      refine wb_iadd hX dX11_boon_47 (pq := 48) rfl ?_
      refine wb_mmin hX k_1136 k_394 k_14 k_395 (Nat.le_of_ble_eq_true rfl) dX11_boon_48 (pq := 51) rfl ?_
      refine wb_iast hX sh_164 hi_4 dX11_boon_51 (pq := 52) rfl ?_
      refine wb_mem (fun s_5 es_5 => ?_)
      have h := nmM_s h s_5 es_5
      refine wb_aload_n 1 hX dX11_boon_52 rfl (pq := 53) rfl ?_
      obtain ⟨q_7, hc_6, h⟩ := bind_s h
      refine wb_callVi (r0 := q_7.1) (s1 := q_7.2) [] hX sh_161 ml_1400 (tM_lastsNow hc_6) (by decide) rfl rfl (Nat.le_of_ble_eq_true rfl) dX11_boon_53 (pq := 56) rfl ?_
      obtain ⟨q_9, hc_8, h⟩ := bind_s h
      refine wb_callSi (r0 := q_9) (s1 := q_7.2) [.int q_7.1] hX ml_1457 (tM_asMany hc_8) (by decide) rfl rfl (Nat.le_of_ble_eq_true rfl) dX11_boon_56 (pq := 59) rfl ?_
      refine wb_istore (loc' := [(5, .int q_9), (4, .int (s.1 164 x3.toNatClampNeg)), (0, .ref (G.1 161)), (1, .int x1), (2, .int x2), (3, .int x3)]) hX hN dX11_boon_59 (by decide) rfl (pq := 61) rfl ?_
      refine wb_aload_n 2 hX dX11_boon_61 rfl (pq := 62) rfl ?_
      refine wb_getR hX fl_1523 sh_161 rfl dX11_boon_62 (pq := 65) rfl ?_
      refine wb_iload_n 5 hX dX11_boon_65 rfl (pq := 66) rfl ?_
      refine wb_iload 1 hX dX11_boon_66 rfl (pq := 68) rfl ?_
      refine wb_iast hX sh_164 hi_4 dX11_boon_68 (pq := 69) rfl ?_
      refine wb_mem (fun s_10 es_10 => ?_)
      have h := nmM_s h s_10 es_10
      refine wb_iload 0 hX dX11_boon_69 rfl (pq := 71) rfl ?_
      refine wb_iload_n 4 hX dX11_boon_71 rfl (pq := 72) rfl ?_
      refine wb_icmp_le (tgt := 79) hX dX11_boon_72 (by decide) (fun c_11 => ?_) (pq := 75) rfl (fun c_11 => ?_)
      · have h := ite_t c_11 h
        refine wb_iload_n 3 hX dX11_boon_79 rfl (pq := 80) rfl ?_
        refine wb_sub [2, 4, 5, 0] (loc' := [(0, .ref (G.1 161)), (2, .int x2), (3, .int x3), (5, .int q_9)]) rfl ?_
        exact tM_boon_J80 hX hQ hN hk21 h
      · have h := ite_f c_11 h
        refine wb_iload_n 5 hX dX11_boon_75 rfl (pq := 76) rfl ?_
        refine wb_goto (tgt := 80) hX dX11_boon_76 (by decide) ?_
        refine wb_sub [2, 4, 5, 0] (loc' := [(0, .ref (G.1 161)), (2, .int x2), (3, .int x3), (5, .int q_9)]) rfl ?_
        exact tM_boon_J80 hX hQ hN hk21 h
set_option maxHeartbeats 4000000 in
set_option maxRecDepth 100000 in
theorem tM_boon {l : Launch} {G : wG} {s : wM} {r0 : Int32} {s1 : wM} (h : fM_boon s = some (r0, s1)) : wMet l G yX11_boon cX11_boon 6 (some .int) 5 [.ref (G.1 161)] s (wQi G r0 s1) := by
  refine wMet_of (own := RX11) (by decide +kernel) rfl (Nat.le_of_ble_eq_true rfl) ?_
  intro X hX hQ hN hl
  show WB G X 0 [(0, .ref (G.1 161))] [] s
  unfold fM_boon at h
  refine wb_aload_n 0 hX dX11_boon_0 rfl (pq := 1) rfl ?_
  refine wb_iconst (v := iI (0)) hX dX11_boon_1 rfl (pq := 2) rfl ?_
  refine wb_putI hX fp_1518 sh_161 rfl dX11_boon_2 rfl rfl (pq := 5) rfl ?_
  refine wb_mem (fun s_1 es_1 => ?_)
  have h := nmM_s h s_1 es_1
  refine wb_aload_n 0 hX dX11_boon_5 rfl (pq := 6) rfl ?_
  refine wb_getI hX fl_1521 sh_161 rfl dX11_boon_6 (pq := 9) rfl ?_
  refine wb_if_ne (tgt := 15) hX dX11_boon_9 (by decide) (pq := 12) rfl (fun c_2 => ?_) (fun c_2 => ?_)
  · have h := ite_t c_2 h
    refine wb_bipush (v := iI (-2)) hX dX11_boon_12 (by decide) (pq := 14) rfl ?_
    exact wb_iret hX hQ h dX11_boon_14
  · have h := ite_f c_2 h
    refine wb_iconst (v := iI (0)) hX dX11_boon_15 rfl (pq := 16) rfl ?_
    refine wb_istore_n (loc' := [(1, .int (iI (0))), (0, .ref (G.1 161))]) hX hN dX11_boon_16 (by decide) rfl (pq := 17) rfl ?_
    refine wb_iconst (v := iI (0)) hX dX11_boon_17 rfl (pq := 18) rfl ?_
    refine wb_istore_n (loc' := [(2, .int (iI (0))), (1, .int (iI (0))), (0, .ref (G.1 161))]) hX hN dX11_boon_18 (by decide) rfl (pq := 19) rfl ?_
    refine wb_iconst (v := iI (0)) hX dX11_boon_19 rfl (pq := 20) rfl ?_
    refine wb_istore_n (loc' := [(3, .int (iI (0))), (2, .int (iI (0))), (1, .int (iI (0))), (0, .ref (G.1 161))]) hX hN dX11_boon_20 (by decide) rfl (pq := 21) rfl ?_
    refine wb_sub [3, 2, 1, 0] (loc' := [(0, .ref (G.1 161)), (1, .int (iI (0))), (2, .int (iI (0))), (3, .int (iI (0)))]) rfl ?_
    exact tM_boon_L21 hX hQ hN 100000 _ _ _ _ h
set_option maxHeartbeats 4000000 in
set_option maxRecDepth 100000 in
theorem tM_seen_J38 {G : wG} {X : wX} {s : wM} {r0 : Int32} {s1 : wM} (hX : wOK G X cX11_seen RX11 (some .int) 1) (hQ : wRt G X (wQi G r0 s1)) (hN : wNl X = 3) (h : fM_seen_J38 s = some (r0, s1)) : WB G X 38 [] [] s := by
  unfold fM_seen_J38 at h
  refine wb_iconst (v := iI (-1)) hX dX11_seen_38 rfl (pq := 39) rfl ?_
  exact wb_iret hX hQ h dX11_seen_39
set_option maxHeartbeats 4000000 in
set_option maxRecDepth 100000 in
theorem tM_seen {l : Launch} {G : wG} {s : wM} {x1 : Int32} {x2 : Int32} {r0 : Int32} {s1 : wM} (h : fM_seen s x1 x2 = some (r0, s1)) : wMet l G yX11_seen cX11_seen 3 (some .int) 1 [.ref (G.1 161), .int x1, .int x2] s (wQi G r0 s1) := by
  refine wMet_of (own := RX11) (by decide +kernel) rfl (Nat.le_of_ble_eq_true rfl) ?_
  intro X hX hQ hN hl
  show WB G X 0 [(0, .ref (G.1 161)), (1, .int x1), (2, .int x2)] [] s
  unfold fM_seen at h
  refine wb_aload_n 0 hX dX11_seen_0 rfl (pq := 1) rfl ?_
  refine wb_iconst (v := iI (0)) hX dX11_seen_1 rfl (pq := 2) rfl ?_
  refine wb_putI hX fp_1518 sh_161 rfl dX11_seen_2 rfl rfl (pq := 5) rfl ?_
  refine wb_mem (fun s_1 es_1 => ?_)
  have h := nmM_s h s_1 es_1
  refine wb_iload_n 1 hX dX11_seen_5 rfl (pq := 6) rfl ?_
  refine wb_i2l hX dX11_seen_6 (pq := 7) rfl ?_
  refine wb_lconst (v := (1 : Int64)) hX dX11_seen_7 rfl (pq := 8) rfl ?_
  refine wb_ldc2 (v := (100 : Int64)) hX k_1415 dX11_seen_8 (pq := 11) rfl ?_
  obtain ⟨q_3, hc_2, h⟩ := bind_s h
  refine wb_callSi (r0 := q_3) (s1 := s_1) [.long x1.toInt64, .long (1 : Int64), .long (100 : Int64)] hX ml_1124 (tM_in hc_2) (by decide) rfl rfl (Nat.le_of_ble_eq_true rfl) dX11_seen_11 (pq := 14) rfl ?_
  refine wb_if_eq (tgt := 38) hX dX11_seen_14 (by decide) (fun c_4 => ?_) (pq := 17) rfl (fun c_4 => ?_)
  · have h := ite_t c_4 h
    refine wb_sub [] (loc' := []) rfl ?_
    exact tM_seen_J38 hX hQ hN h
  · have h := ite_f c_4 h
    refine wb_iload_n 2 hX dX11_seen_17 rfl (pq := 18) rfl ?_
    refine wb_i2l hX dX11_seen_18 (pq := 19) rfl ?_
    refine wb_lconst (v := (0 : Int64)) hX dX11_seen_19 rfl (pq := 20) rfl ?_
    refine wb_ldc2 (v := (36 : Int64)) hX k_1464 dX11_seen_20 (pq := 23) rfl ?_
    obtain ⟨q_6, hc_5, h⟩ := bind_s h
    refine wb_callSi (r0 := q_6) (s1 := s_1) [.long x2.toInt64, .long (0 : Int64), .long (36 : Int64)] hX ml_1124 (tM_in hc_5) (by decide) rfl rfl (Nat.le_of_ble_eq_true rfl) dX11_seen_23 (pq := 26) rfl ?_
    refine wb_if_eq (tgt := 38) hX dX11_seen_26 (by decide) (fun c_7 => ?_) (pq := 29) rfl (fun c_7 => ?_)
    · have h := ite_t c_7 h
      refine wb_sub [] (loc' := []) rfl ?_
      exact tM_seen_J38 hX hQ hN h
    · have h := ite_f c_7 h
      refine wb_aload_n 0 hX dX11_seen_29 rfl (pq := 30) rfl ?_
      refine wb_getI hX fl_1561 sh_161 rfl dX11_seen_30 (pq := 33) rfl ?_
      refine wb_bipush (v := iI (10)) hX dX11_seen_33 (by decide) (pq := 35) rfl ?_
      refine wb_icmp_ne (tgt := 40) hX dX11_seen_35 (by decide) (pq := 38) rfl (fun c_8 => ?_) (fun c_8 => ?_)
      · have h := ite_t c_8 h
        refine wb_sub [] (loc' := []) rfl ?_
        exact tM_seen_J38 hX hQ hN h
      · have h := ite_f c_8 h
        refine wb_aload_n 0 hX dX11_seen_40 rfl (pq := 41) rfl ?_
        refine wb_getR hX fl_1562 sh_161 rfl dX11_seen_41 (pq := 44) rfl ?_
        refine wb_aload_n 0 hX dX11_seen_44 rfl (pq := 45) rfl ?_
        refine wb_getI hX fl_1561 sh_161 rfl dX11_seen_45 (pq := 48) rfl ?_
        refine wb_iload_n 1 hX dX11_seen_48 rfl (pq := 49) rfl ?_
        obtain ⟨hi_9, h⟩ := chk_some h
        refine wb_iast hX sh_191 hi_9 dX11_seen_49 (pq := 50) rfl ?_
        refine wb_mem (fun s_10 es_10 => ?_)
        have h := nmM_s h s_10 es_10
        refine wb_aload_n 0 hX dX11_seen_50 rfl (pq := 51) rfl ?_
        refine wb_getR hX fl_1563 sh_161 rfl dX11_seen_51 (pq := 54) rfl ?_
        refine wb_aload_n 0 hX dX11_seen_54 rfl (pq := 55) rfl ?_
        refine wb_getI hX fl_1561 sh_161 rfl dX11_seen_55 (pq := 58) rfl ?_
        refine wb_iload_n 2 hX dX11_seen_58 rfl (pq := 59) rfl ?_
        obtain ⟨hi_11, h⟩ := chk_some h
        refine wb_iast hX sh_192 hi_11 dX11_seen_59 (pq := 60) rfl ?_
        refine wb_mem (fun s_12 es_12 => ?_)
        have h := nmM_s h s_12 es_12
        refine wb_aload_n 0 hX dX11_seen_60 rfl (pq := 61) rfl ?_
        refine wb_dup hX dX11_seen_61 rfl (pq := 62) rfl ?_
        refine wb_getI hX fl_1561 sh_161 rfl dX11_seen_62 (pq := 65) rfl ?_
        refine wb_iconst (v := iI (1)) hX dX11_seen_65 rfl (pq := 66) rfl ?_
        refine wb_iadd hX dX11_seen_66 (pq := 67) rfl ?_
        refine wb_putI hX fp_1561 sh_161 rfl dX11_seen_67 rfl rfl (pq := 70) rfl ?_
        refine wb_mem (fun s_13 es_13 => ?_)
        have h := nmM_s h s_13 es_13
        refine wb_aload_n 0 hX dX11_seen_70 rfl (pq := 71) rfl ?_
        refine wb_getI hX fl_1561 sh_161 rfl dX11_seen_71 (pq := 74) rfl ?_
        exact wb_iret hX hQ h dX11_seen_74
set_option maxHeartbeats 4000000 in
set_option maxRecDepth 100000 in
theorem tM_forget {l : Launch} {G : wG} {s : wM} {r0 : Int32} {s1 : wM} (h : fM_forget s = some (r0, s1)) : wMet l G yX11_forget cX11_forget 1 (some .int) 0 [.ref (G.1 161)] s (wQi G r0 s1) := by
  refine wMet_of (own := RX11) (by decide +kernel) rfl (Nat.le_of_ble_eq_true rfl) ?_
  intro X hX hQ hN hl
  show WB G X 0 [(0, .ref (G.1 161))] [] s
  unfold fM_forget at h
  refine wb_aload_n 0 hX dX11_forget_0 rfl (pq := 1) rfl ?_
  refine wb_iconst (v := iI (0)) hX dX11_forget_1 rfl (pq := 2) rfl ?_
  refine wb_putI hX fp_1518 sh_161 rfl dX11_forget_2 rfl rfl (pq := 5) rfl ?_
  refine wb_mem (fun s_1 es_1 => ?_)
  have h := nmM_s h s_1 es_1
  refine wb_aload_n 0 hX dX11_forget_5 rfl (pq := 6) rfl ?_
  refine wb_getI hX fl_1561 sh_161 rfl dX11_forget_6 (pq := 9) rfl ?_
  refine wb_if_ne (tgt := 14) hX dX11_forget_9 (by decide) (pq := 12) rfl (fun c_2 => ?_) (fun c_2 => ?_)
  · have h := ite_t c_2 h
    refine wb_iconst (v := iI (-1)) hX dX11_forget_12 rfl (pq := 13) rfl ?_
    exact wb_iret hX hQ h dX11_forget_13
  · have h := ite_f c_2 h
    refine wb_aload_n 0 hX dX11_forget_14 rfl (pq := 15) rfl ?_
    refine wb_dup hX dX11_forget_15 rfl (pq := 16) rfl ?_
    refine wb_getI hX fl_1561 sh_161 rfl dX11_forget_16 (pq := 19) rfl ?_
    refine wb_iconst (v := iI (1)) hX dX11_forget_19 rfl (pq := 20) rfl ?_
    refine wb_isub hX dX11_forget_20 (pq := 21) rfl ?_
    refine wb_putI hX fp_1561 sh_161 rfl dX11_forget_21 rfl rfl (pq := 24) rfl ?_
    refine wb_mem (fun s_3 es_3 => ?_)
    have h := nmM_s h s_3 es_3
    refine wb_aload_n 0 hX dX11_forget_24 rfl (pq := 25) rfl ?_
    refine wb_getI hX fl_1561 sh_161 rfl dX11_forget_25 (pq := 28) rfl ?_
    exact wb_iret hX hQ h dX11_forget_28
set_option maxHeartbeats 4000000 in
set_option maxRecDepth 100000 in
theorem tM_isSo_J85 {G : wG} {X : wX} {k31 : Int32 → wM → Option (Int32 × wM)} {k48 : Int32 → Option (Int32 × wM)} {x1 : Int32} {x2 : Int32} {x3 : Int32} {s : wM} {r0 : Int32} {s1 : wM} (hX : wOK G X cX11_isSo RX11 (some .boolean) 4) (hQ : wRt G X (wQi G r0 s1)) (hN : wNl X = 4) (hk31 : ∀ (x2 : Int32) (s : wM), k31 x2 s = some (r0, s1) → WB G X 31 [(0, .ref (G.1 161)), (1, .int x1), (2, .int x2)] [] s) (hk48 : ∀ (x3 : Int32), k48 x3 = some (r0, s1) → WB G X 48 [(0, .ref (G.1 161)), (1, .int x1), (2, .int x2), (3, .int x3)] [] s) (h : fM_isSo_J85 k31 k48 x1 x2 x3 s = some (r0, s1)) : WB G X 85 [(0, .ref (G.1 161)), (1, .int x1), (2, .int x2), (3, .int x3)] [] s := by
  unfold fM_isSo_J85 at h
  refine wb_iinc (v := (x3 + iI (1))) (loc' := [(3, .int (x3 + iI (1))), (0, .ref (G.1 161)), (1, .int x1), (2, .int x2)]) 3 hX hN dX11_isSo_85 rfl rfl (by decide) rfl (pq := 88) rfl ?_
  refine wb_goto (tgt := 48) hX dX11_isSo_88 (by decide) ?_
  refine wb_sub [1, 2, 3, 0] (loc' := [(0, .ref (G.1 161)), (1, .int x1), (2, .int x2), (3, .int (x3 + iI (1)))]) rfl ?_
  exact hk48 _ h
set_option maxHeartbeats 4000000 in
set_option maxRecDepth 100000 in
theorem tM_isSo_L48 {G : wG} {X : wX} {k31 : Int32 → wM → Option (Int32 × wM)} {x1 : Int32} {x2 : Int32} {s : wM} {r0 : Int32} {s1 : wM} (hX : wOK G X cX11_isSo RX11 (some .boolean) 4) (hQ : wRt G X (wQi G r0 s1)) (hN : wNl X = 4) (hk31 : ∀ (x2 : Int32) (s : wM), k31 x2 s = some (r0, s1) → WB G X 31 [(0, .ref (G.1 161)), (1, .int x1), (2, .int x2)] [] s) : ∀ (n : Nat) (x3 : Int32), wh1 (fM_isSo_L48 k31 x1 x2 s) n x3 = some (r0, s1) → WB G X 48 [(0, .ref (G.1 161)), (1, .int x1), (2, .int x2), (3, .int x3)] [] s := by
  intro n
  induction n with
  | zero => intro x3 h; cases h
  | succ n hk48 =>
    intro x3 h
    have h : fM_isSo_L48 k31 x1 x2 s x3 (wh1 (fM_isSo_L48 k31 x1 x2 s) n) = some (r0, s1) := h
    unfold fM_isSo_L48 at h
    refine wb_iload_n 3 hX dX11_isSo_48 rfl (pq := 49) rfl ?_
    refine wb_aload_n 0 hX dX11_isSo_49 rfl (pq := 50) rfl ?_
    refine wb_getI hX fl_1561 sh_161 rfl dX11_isSo_50 (pq := 53) rfl ?_
    refine wb_icmp_ge (tgt := 91) hX dX11_isSo_53 (by decide) (fun c_1 => ?_) (pq := 56) rfl (fun c_1 => ?_)
    · have h := ite_t c_1 h
      refine wb_iinc (v := (x2 + iI (1))) (loc' := [(2, .int (x2 + iI (1))), (0, .ref (G.1 161)), (1, .int x1), (3, .int x3)]) 2 hX hN dX11_isSo_91 rfl rfl (by decide) rfl (pq := 94) rfl ?_
      refine wb_goto (tgt := 31) hX dX11_isSo_94 (by decide) ?_
      refine wb_sub [1, 2, 0] (loc' := [(0, .ref (G.1 161)), (1, .int x1), (2, .int (x2 + iI (1)))]) rfl ?_
      exact hk31 _ _ h
    · have h := ite_f c_1 h
      refine wb_aload_n 0 hX dX11_isSo_56 rfl (pq := 57) rfl ?_
      refine wb_getR hX fl_1562 sh_161 rfl dX11_isSo_57 (pq := 60) rfl ?_
      refine wb_iload_n 3 hX dX11_isSo_60 rfl (pq := 61) rfl ?_
      obtain ⟨hi_2, h⟩ := chk_some h
      refine wb_iald hX sh_191 hi_2 dX11_isSo_61 (pq := 62) rfl ?_
      refine wb_iload_n 2 hX dX11_isSo_62 rfl (pq := 63) rfl ?_
      refine wb_icmp_ne (tgt := 85) hX dX11_isSo_63 (by decide) (pq := 66) rfl (fun c_3 => ?_) (fun c_3 => ?_)
      · have h := ite_t c_3 h
        refine wb_aload_n 0 hX dX11_isSo_66 rfl (pq := 67) rfl ?_
        refine wb_getR hX fl_1563 sh_161 rfl dX11_isSo_67 (pq := 70) rfl ?_
        refine wb_iload_n 3 hX dX11_isSo_70 rfl (pq := 71) rfl ?_
        refine wb_iald hX sh_192 hi_2 dX11_isSo_71 (pq := 72) rfl ?_
        refine wb_aload_n 0 hX dX11_isSo_72 rfl (pq := 73) rfl ?_
        refine wb_aload_n 0 hX dX11_isSo_73 rfl (pq := 74) rfl ?_
        refine wb_getR hX fl_1557 sh_161 rfl dX11_isSo_74 (pq := 77) rfl ?_
        obtain ⟨q_5, hc_4, h⟩ := bind_s h
        refine wb_callVi (r0 := q_5) (s1 := s) [.ref (G.1 187)] hX sh_161 ml_1289 (tM_evenPairs sh_187 hc_4) (by decide) rfl rfl (Nat.le_of_ble_eq_true rfl) dX11_isSo_77 (pq := 80) rfl ?_
        refine wb_icmp_eq (tgt := 85) hX dX11_isSo_80 (by decide) (fun c_6 => ?_) (pq := 83) rfl (fun c_6 => ?_)
        · have h := ite_t c_6 h
          exact tM_isSo_J85 hX hQ hN hk31 hk48 h
        · have h := ite_f c_6 h
          refine wb_iconst (v := iI (0)) hX dX11_isSo_83 rfl (pq := 84) rfl ?_
          exact wb_zret hX hQ h nar01.1.1 dX11_isSo_84
      · have h := ite_f c_3 h
        exact tM_isSo_J85 hX hQ hN hk31 hk48 h
set_option maxHeartbeats 4000000 in
set_option maxRecDepth 100000 in
theorem tM_isSo_L31 {G : wG} {X : wX} {x1 : Int32} {r0 : Int32} {s1 : wM} (hX : wOK G X cX11_isSo RX11 (some .boolean) 4) (hQ : wRt G X (wQi G r0 s1)) (hN : wNl X = 4) : ∀ (n : Nat) (x2 : Int32) (s : wM), wh2 (fM_isSo_L31 x1) n x2 s = some (r0, s1) → WB G X 31 [(0, .ref (G.1 161)), (1, .int x1), (2, .int x2)] [] s := by
  intro n
  induction n with
  | zero => intro x2 s h; cases h
  | succ n hk31 =>
    intro x2 s h
    have h : fM_isSo_L31 x1 x2 s (wh2 (fM_isSo_L31 x1) n) = some (r0, s1) := h
    unfold fM_isSo_L31 at h
    refine wb_iload_n 2 hX dX11_isSo_31 rfl (pq := 32) rfl ?_
    refine wb_iload_n 1 hX dX11_isSo_32 rfl (pq := 33) rfl ?_
    refine wb_icmp_gt (tgt := 97) hX dX11_isSo_33 (by decide) (fun c_1 => ?_) (pq := 36) rfl (fun c_1 => ?_)
    · have h := ite_t c_1 h
      refine wb_iconst (v := iI (1)) hX dX11_isSo_97 rfl (pq := 98) rfl ?_
      exact wb_zret hX hQ h nar01.2.1 dX11_isSo_98
    · have h := ite_f c_1 h
      refine wb_aload_n 0 hX dX11_isSo_36 rfl (pq := 37) rfl ?_
      refine wb_aload_n 0 hX dX11_isSo_37 rfl (pq := 38) rfl ?_
      refine wb_getR hX fl_1557 sh_161 rfl dX11_isSo_38 (pq := 41) rfl ?_
      refine wb_iconst (v := iI (0)) hX dX11_isSo_41 rfl (pq := 42) rfl ?_
      refine wb_iconst (v := iI (0)) hX dX11_isSo_42 rfl (pq := 43) rfl ?_
      obtain ⟨q_3, hc_2, h⟩ := bind_s h
      refine wb_callVv (s1 := q_3) [.ref (G.1 187), .int (iI (0)), .int (iI (0))] hX sh_161 ml_1280 (tM_weekGoes sh_187 hc_2) (by decide) rfl rfl (Nat.le_of_ble_eq_true rfl) dX11_isSo_43 (pq := 46) rfl ?_
      refine wb_iconst (v := iI (0)) hX dX11_isSo_46 rfl (pq := 47) rfl ?_
      refine wb_istore_n (loc' := [(3, .int (iI (0))), (0, .ref (G.1 161)), (1, .int x1), (2, .int x2)]) hX hN dX11_isSo_47 (by decide) rfl (pq := 48) rfl ?_
      refine wb_sub [1, 2, 3, 0] (loc' := [(0, .ref (G.1 161)), (1, .int x1), (2, .int x2), (3, .int (iI (0)))]) rfl ?_
      exact tM_isSo_L48 hX hQ hN hk31 100000 _ h
set_option maxHeartbeats 4000000 in
set_option maxRecDepth 100000 in
theorem tM_isSo_L4 {G : wG} {X : wX} {s : wM} {r0 : Int32} {s1 : wM} (hX : wOK G X cX11_isSo RX11 (some .boolean) 4) (hQ : wRt G X (wQi G r0 s1)) (hN : wNl X = 4) : ∀ (n : Nat) (x1 : Int32) (x2 : Int32), wh2 (fM_isSo_L4 s) n x1 x2 = some (r0, s1) → WB G X 4 [(0, .ref (G.1 161)), (1, .int x1), (2, .int x2)] [] s := by
  intro n
  induction n with
  | zero => intro x1 x2 h; cases h
  | succ n hk4 =>
    intro x1 x2 h
    have h : fM_isSo_L4 s x1 x2 (wh2 (fM_isSo_L4 s) n) = some (r0, s1) := h
    unfold fM_isSo_L4 at h
    refine wb_iload_n 2 hX dX11_isSo_4 rfl (pq := 5) rfl ?_
    refine wb_aload_n 0 hX dX11_isSo_5 rfl (pq := 6) rfl ?_
    refine wb_getI hX fl_1561 sh_161 rfl dX11_isSo_6 (pq := 9) rfl ?_
    refine wb_icmp_ge (tgt := 29) hX dX11_isSo_9 (by decide) (fun c_1 => ?_) (pq := 12) rfl (fun c_1 => ?_)
    · have h := ite_t c_1 h
      refine wb_iconst (v := iI (1)) hX dX11_isSo_29 rfl (pq := 30) rfl ?_
      refine wb_istore_n (loc' := [(2, .int (iI (1))), (0, .ref (G.1 161)), (1, .int x1)]) hX hN dX11_isSo_30 (by decide) rfl (pq := 31) rfl ?_
      refine wb_sub [1, 2, 0] (loc' := [(0, .ref (G.1 161)), (1, .int x1), (2, .int (iI (1)))]) rfl ?_
      exact tM_isSo_L31 hX hQ hN 100000 _ _ h
    · have h := ite_f c_1 h
      refine wb_iload_n 1 hX dX11_isSo_12 rfl (pq := 13) rfl ?_
      refine wb_aload_n 0 hX dX11_isSo_13 rfl (pq := 14) rfl ?_
      refine wb_getR hX fl_1562 sh_161 rfl dX11_isSo_14 (pq := 17) rfl ?_
      refine wb_iload_n 2 hX dX11_isSo_17 rfl (pq := 18) rfl ?_
      obtain ⟨hi_2, h⟩ := chk_some h
      refine wb_iald hX sh_191 hi_2 dX11_isSo_18 (pq := 19) rfl ?_
      refine wb_mmax hX k_1209 k_491 k_14 k_492 (Nat.le_of_ble_eq_true rfl) dX11_isSo_19 (pq := 22) rfl ?_
      refine wb_istore_n (loc' := [(1, .int (iMax x1 (s.1 191 x2.toNatClampNeg))), (0, .ref (G.1 161)), (2, .int x2)]) hX hN dX11_isSo_22 (by decide) rfl (pq := 23) rfl ?_
      refine wb_iinc (v := (x2 + iI (1))) (loc' := [(2, .int (x2 + iI (1))), (1, .int (iMax x1 (s.1 191 x2.toNatClampNeg))), (0, .ref (G.1 161))]) 2 hX hN dX11_isSo_23 rfl rfl (by decide) rfl (pq := 26) rfl ?_
      refine wb_goto (tgt := 4) hX dX11_isSo_26 (by decide) ?_
      refine wb_sub [2, 1, 0] (loc' := [(0, .ref (G.1 161)), (1, .int (iMax x1 (s.1 191 x2.toNatClampNeg))), (2, .int (x2 + iI (1)))]) rfl ?_
      exact hk4 _ _ h
set_option maxHeartbeats 4000000 in
set_option maxRecDepth 100000 in
theorem tM_isSo {l : Launch} {G : wG} {s : wM} {r0 : Int32} {s1 : wM} (h : fM_isSo s = some (r0, s1)) : wMet l G yX11_isSo cX11_isSo 4 (some .boolean) 4 [.ref (G.1 161)] s (wQi G r0 s1) := by
  refine wMet_of (own := RX11) (by decide +kernel) rfl (Nat.le_of_ble_eq_true rfl) ?_
  intro X hX hQ hN hl
  show WB G X 0 [(0, .ref (G.1 161))] [] s
  unfold fM_isSo at h
  refine wb_iconst (v := iI (0)) hX dX11_isSo_0 rfl (pq := 1) rfl ?_
  refine wb_istore_n (loc' := [(1, .int (iI (0))), (0, .ref (G.1 161))]) hX hN dX11_isSo_1 (by decide) rfl (pq := 2) rfl ?_
  refine wb_iconst (v := iI (0)) hX dX11_isSo_2 rfl (pq := 3) rfl ?_
  refine wb_istore_n (loc' := [(2, .int (iI (0))), (1, .int (iI (0))), (0, .ref (G.1 161))]) hX hN dX11_isSo_3 (by decide) rfl (pq := 4) rfl ?_
  refine wb_sub [2, 1, 0] (loc' := [(0, .ref (G.1 161)), (1, .int (iI (0))), (2, .int (iI (0)))]) rfl ?_
  exact tM_isSo_L4 hX hQ hN 100000 _ _ h
set_option maxHeartbeats 4000000 in
set_option maxRecDepth 100000 in
theorem tM_springs_J62 {G : wG} {X : wX} {k27 : Int32 → Int32 → wM → Option (Int32 × wM)} {x1 : Int32} {x2 : Int32} {x4 : Int32} {v0 : Int32} {v1 : Int32} {s : wM} {r0 : Int32} {s1 : wM} (hX : wOK G X cX11_springs RX11 (some .int) 5) (hQ : wRt G X (wQi G r0 s1)) (hN : wNl X = 5) (hk27 : ∀ (x3 : Int32) (x4 : Int32) (s : wM), k27 x3 x4 s = some (r0, s1) → WB G X 27 [(0, .ref (G.1 161)), (1, .int x1), (2, .int x2), (3, .int x3), (4, .int x4)] [] s) (h : fM_springs_J62 k27 x1 x2 x4 v0 v1 s = some (r0, s1)) : WB G X 62 [(0, .ref (G.1 161)), (1, .int x1), (2, .int x2), (4, .int x4)] [.int v0, .int v1] s := by
  unfold fM_springs_J62 at h
  refine wb_ior hX dX11_springs_62 (pq := 63) rfl ?_
  refine wb_istore_n (loc' := [(3, .int (v1 ||| v0)), (0, .ref (G.1 161)), (1, .int x1), (2, .int x2), (4, .int x4)]) hX hN dX11_springs_63 (by decide) rfl (pq := 64) rfl ?_
  refine wb_iinc (v := (x4 + iI (1))) (loc' := [(4, .int (x4 + iI (1))), (3, .int (v1 ||| v0)), (0, .ref (G.1 161)), (1, .int x1), (2, .int x2)]) 4 hX hN dX11_springs_64 rfl rfl (by decide) rfl (pq := 67) rfl ?_
  refine wb_goto (tgt := 27) hX dX11_springs_67 (by decide) ?_
  refine wb_sub [2, 3, 4, 1, 0] (loc' := [(0, .ref (G.1 161)), (1, .int x1), (2, .int x2), (3, .int (v1 ||| v0)), (4, .int (x4 + iI (1)))]) rfl ?_
  exact hk27 _ _ _ h
set_option maxHeartbeats 4000000 in
set_option maxRecDepth 100000 in
theorem tM_springs_L27 {G : wG} {X : wX} {x1 : Int32} {x2 : Int32} {r0 : Int32} {s1 : wM} (hX : wOK G X cX11_springs RX11 (some .int) 5) (hQ : wRt G X (wQi G r0 s1)) (hN : wNl X = 5) : ∀ (n : Nat) (x3 : Int32) (x4 : Int32) (s : wM), wh3 (fM_springs_L27 x1 x2) n x3 x4 s = some (r0, s1) → WB G X 27 [(0, .ref (G.1 161)), (1, .int x1), (2, .int x2), (3, .int x3), (4, .int x4)] [] s := by
  intro n
  induction n with
  | zero => intro x3 x4 s h; cases h
  | succ n hk27 =>
    intro x3 x4 s h
    have h : fM_springs_L27 x1 x2 x3 x4 s (wh3 (fM_springs_L27 x1 x2) n) = some (r0, s1) := h
    unfold fM_springs_L27 at h
    refine wb_iload 4 hX dX11_springs_27 rfl (pq := 29) rfl ?_
    refine wb_bipush (v := iI (9)) hX dX11_springs_29 (by decide) (pq := 31) rfl ?_
    refine wb_icmp_gt (tgt := 70) hX dX11_springs_31 (by decide) (fun c_1 => ?_) (pq := 34) rfl (fun c_1 => ?_)
    · have h := ite_t c_1 h
      refine wb_aload_n 0 hX dX11_springs_70 rfl (pq := 71) rfl ?_
      refine wb_getR hX fl_1523 sh_161 rfl dX11_springs_71 (pq := 74) rfl ?_
      refine wb_iload_n 1 hX dX11_springs_74 rfl (pq := 75) rfl ?_
      refine wb_iload_n 2 hX dX11_springs_75 rfl (pq := 76) rfl ?_
      obtain ⟨hi_2, h⟩ := chk_some h
      refine wb_iast hX sh_164 hi_2 dX11_springs_76 (pq := 77) rfl ?_
      refine wb_mem (fun s_3 es_3 => ?_)
      have h := nmM_s h s_3 es_3
      refine wb_iload_n 3 hX dX11_springs_77 rfl (pq := 78) rfl ?_
      exact wb_iret hX hQ h dX11_springs_78
    · have h := ite_f c_1 h
      refine wb_aload_n 0 hX dX11_springs_34 rfl (pq := 35) rfl ?_
      refine wb_getR hX fl_1523 sh_161 rfl dX11_springs_35 (pq := 38) rfl ?_
      refine wb_iload_n 1 hX dX11_springs_38 rfl (pq := 39) rfl ?_
      refine wb_iload 4 hX dX11_springs_39 rfl (pq := 41) rfl ?_
      obtain ⟨hi_4, h⟩ := chk_some h
      refine wb_iast hX sh_164 hi_4 dX11_springs_41 (pq := 42) rfl ?_
      refine wb_mem (fun s_5 es_5 => ?_)
      have h := nmM_s h s_5 es_5
      refine wb_aload_n 0 hX dX11_springs_42 rfl (pq := 43) rfl ?_
      obtain ⟨q_7, hc_6, h⟩ := bind_s h
      refine wb_callVv (s1 := q_7) [] hX sh_161 ml_1404 (tM_startsThen hc_6) (by decide) rfl rfl (Nat.le_of_ble_eq_true rfl) dX11_springs_43 (pq := 46) rfl ?_
      refine wb_iload_n 3 hX dX11_springs_46 rfl (pq := 47) rfl ?_
      refine wb_aload_n 0 hX dX11_springs_47 rfl (pq := 48) rfl ?_
      obtain ⟨q_9, hc_8, h⟩ := bind_s h
      refine wb_callVi (r0 := q_9.1) (s1 := q_9.2) [] hX sh_161 ml_1473 (tM_isSo hc_8) (by decide) rfl rfl (Nat.le_of_ble_eq_true rfl) dX11_springs_48 (pq := 51) rfl ?_
      refine wb_if_eq (tgt := 61) hX dX11_springs_51 (by decide) (fun c_10 => ?_) (pq := 54) rfl (fun c_10 => ?_)
      · have h := ite_t c_10 h
        refine wb_iconst (v := iI (0)) hX dX11_springs_61 rfl (pq := 62) rfl ?_
        refine wb_sub [0, 1, 2, 4] (loc' := [(0, .ref (G.1 161)), (1, .int x1), (2, .int x2), (4, .int x4)]) rfl ?_
        exact tM_springs_J62 hX hQ hN hk27 h
      · have h := ite_f c_10 h
        refine wb_iconst (v := iI (1)) hX dX11_springs_54 rfl (pq := 55) rfl ?_
        refine wb_iload 4 hX dX11_springs_55 rfl (pq := 57) rfl ?_
        refine wb_ishl hX dX11_springs_57 (pq := 58) rfl ?_
        refine wb_goto (tgt := 62) hX dX11_springs_58 (by decide) ?_
        refine wb_sub [0, 1, 2, 4] (loc' := [(0, .ref (G.1 161)), (1, .int x1), (2, .int x2), (4, .int x4)]) rfl ?_
        exact tM_springs_J62 hX hQ hN hk27 h
set_option maxHeartbeats 4000000 in
set_option maxRecDepth 100000 in
theorem tM_springs {l : Launch} {G : wG} {s : wM} {x1 : Int32} {r0 : Int32} {s1 : wM} (h : fM_springs s x1 = some (r0, s1)) : wMet l G yX11_springs cX11_springs 5 (some .int) 5 [.ref (G.1 161), .int x1] s (wQi G r0 s1) := by
  refine wMet_of (own := RX11) (by decide +kernel) rfl (Nat.le_of_ble_eq_true rfl) ?_
  intro X hX hQ hN hl
  show WB G X 0 [(0, .ref (G.1 161)), (1, .int x1)] [] s
  unfold fM_springs at h
  refine wb_aload_n 0 hX dX11_springs_0 rfl (pq := 1) rfl ?_
  refine wb_iconst (v := iI (0)) hX dX11_springs_1 rfl (pq := 2) rfl ?_
  refine wb_putI hX fp_1518 sh_161 rfl dX11_springs_2 rfl rfl (pq := 5) rfl ?_
  refine wb_mem (fun s_1 es_1 => ?_)
  have h := nmM_s h s_1 es_1
  refine wb_aload_n 0 hX dX11_springs_5 rfl (pq := 6) rfl ?_
  refine wb_iload_n 1 hX dX11_springs_6 rfl (pq := 7) rfl ?_
  obtain ⟨q_3, hc_2, h⟩ := bind_s h
  refine wb_callVi (r0 := q_3) (s1 := s_1) [.int x1] hX sh_161 ml_1170 (tM_isFarm hc_2) (by decide) rfl rfl (Nat.le_of_ble_eq_true rfl) dX11_springs_7 (pq := 10) rfl ?_
  refine wb_if_ne (tgt := 15) hX dX11_springs_10 (by decide) (pq := 13) rfl (fun c_4 => ?_) (fun c_4 => ?_)
  · have h := ite_t c_4 h
    refine wb_iconst (v := iI (-1)) hX dX11_springs_13 rfl (pq := 14) rfl ?_
    exact wb_iret hX hQ h dX11_springs_14
  · have h := ite_f c_4 h
    refine wb_aload_n 0 hX dX11_springs_15 rfl (pq := 16) rfl ?_
    refine wb_getR hX fl_1523 sh_161 rfl dX11_springs_16 (pq := 19) rfl ?_
    refine wb_iload_n 1 hX dX11_springs_19 rfl (pq := 20) rfl ?_
    obtain ⟨hi_5, h⟩ := chk_some h
    refine wb_iald hX sh_164 hi_5 dX11_springs_20 (pq := 21) rfl ?_
    refine wb_istore_n (loc' := [(2, .int (s_1.1 164 x1.toNatClampNeg)), (0, .ref (G.1 161)), (1, .int x1)]) hX hN dX11_springs_21 (by decide) rfl (pq := 22) rfl ?_
    refine wb_iconst (v := iI (0)) hX dX11_springs_22 rfl (pq := 23) rfl ?_
    refine wb_istore_n (loc' := [(3, .int (iI (0))), (2, .int (s_1.1 164 x1.toNatClampNeg)), (0, .ref (G.1 161)), (1, .int x1)]) hX hN dX11_springs_23 (by decide) rfl (pq := 24) rfl ?_
    refine wb_iconst (v := iI (0)) hX dX11_springs_24 rfl (pq := 25) rfl ?_
    refine wb_istore (loc' := [(4, .int (iI (0))), (3, .int (iI (0))), (2, .int (s_1.1 164 x1.toNatClampNeg)), (0, .ref (G.1 161)), (1, .int x1)]) hX hN dX11_springs_25 (by decide) rfl (pq := 27) rfl ?_
    refine wb_sub [3, 4, 2, 1, 0] (loc' := [(0, .ref (G.1 161)), (1, .int x1), (2, .int (s_1.1 164 x1.toNatClampNeg)), (3, .int (iI (0))), (4, .int (iI (0)))]) rfl ?_
    exact tM_springs_L27 hX hQ hN 100000 _ _ _ h
set_option maxHeartbeats 4000000 in
set_option maxRecDepth 100000 in
theorem tM_stones_J86 {G : wG} {X : wX} {k50 : Int32 → Int32 → wM → Option (Int32 × wM)} {x1 : Int32} {x2 : Int32} {x3 : Int32} {x5 : Int32} {v0 : Int32} {v1 : Int32} {s : wM} {r0 : Int32} {s1 : wM} (hX : wOK G X cX11_stones RX11 (some .int) 5) (hQ : wRt G X (wQi G r0 s1)) (hN : wNl X = 6) (hk50 : ∀ (x4 : Int32) (x5 : Int32) (s : wM), k50 x4 x5 s = some (r0, s1) → WB G X 50 [(0, .ref (G.1 161)), (1, .int x1), (2, .int x2), (3, .int x3), (4, .int x4), (5, .int x5)] [] s) (h : fM_stones_J86 k50 x1 x2 x3 x5 v0 v1 s = some (r0, s1)) : WB G X 86 [(0, .ref (G.1 161)), (1, .int x1), (2, .int x2), (3, .int x3), (5, .int x5)] [.int v0, .int v1] s := by
  unfold fM_stones_J86 at h
  refine wb_ior hX dX11_stones_86 (pq := 87) rfl ?_
  refine wb_istore (loc' := [(4, .int (v1 ||| v0)), (0, .ref (G.1 161)), (1, .int x1), (2, .int x2), (3, .int x3), (5, .int x5)]) hX hN dX11_stones_87 (by decide) rfl (pq := 89) rfl ?_
  refine wb_iinc (v := (x5 + iI (1))) (loc' := [(5, .int (x5 + iI (1))), (4, .int (v1 ||| v0)), (0, .ref (G.1 161)), (1, .int x1), (2, .int x2), (3, .int x3)]) 5 hX hN dX11_stones_89 rfl rfl (by decide) rfl (pq := 92) rfl ?_
  refine wb_goto (tgt := 50) hX dX11_stones_92 (by decide) ?_
  refine wb_sub [2, 3, 4, 5, 1, 0] (loc' := [(0, .ref (G.1 161)), (1, .int x1), (2, .int x2), (3, .int x3), (4, .int (v1 ||| v0)), (5, .int (x5 + iI (1)))]) rfl ?_
  exact hk50 _ _ _ h
set_option maxHeartbeats 4000000 in
set_option maxRecDepth 100000 in
theorem tM_stones_L50 {G : wG} {X : wX} {x1 : Int32} {x2 : Int32} {x3 : Int32} {r0 : Int32} {s1 : wM} (hX : wOK G X cX11_stones RX11 (some .int) 5) (hQ : wRt G X (wQi G r0 s1)) (hN : wNl X = 6) : ∀ (n : Nat) (x4 : Int32) (x5 : Int32) (s : wM), wh3 (fM_stones_L50 x1 x2 x3) n x4 x5 s = some (r0, s1) → WB G X 50 [(0, .ref (G.1 161)), (1, .int x1), (2, .int x2), (3, .int x3), (4, .int x4), (5, .int x5)] [] s := by
  intro n
  induction n with
  | zero => intro x4 x5 s h; cases h
  | succ n hk50 =>
    intro x4 x5 s h
    have h : fM_stones_L50 x1 x2 x3 x4 x5 s (wh3 (fM_stones_L50 x1 x2 x3) n) = some (r0, s1) := h
    unfold fM_stones_L50 at h
    refine wb_iload 5 hX dX11_stones_50 rfl (pq := 52) rfl ?_
    refine wb_bipush (v := iI (9)) hX dX11_stones_52 (by decide) (pq := 54) rfl ?_
    refine wb_icmp_gt (tgt := 95) hX dX11_stones_54 (by decide) (fun c_1 => ?_) (pq := 57) rfl (fun c_1 => ?_)
    · have h := ite_t c_1 h
      refine wb_aload_n 0 hX dX11_stones_95 rfl (pq := 96) rfl ?_
      refine wb_iload_n 1 hX dX11_stones_96 rfl (pq := 97) rfl ?_
      refine wb_iload_n 2 hX dX11_stones_97 rfl (pq := 98) rfl ?_
      refine wb_iload_n 3 hX dX11_stones_98 rfl (pq := 99) rfl ?_
      obtain ⟨q_3, hc_2, h⟩ := bind_s h
      refine wb_callVv (s1 := q_3) [.int x1, .int x2, .int x3] hX sh_161 ml_1205 (tM_touchBy hc_2) (by decide) rfl rfl (Nat.le_of_ble_eq_true rfl) dX11_stones_99 (pq := 102) rfl ?_
      refine wb_iload 4 hX dX11_stones_102 rfl (pq := 104) rfl ?_
      exact wb_iret hX hQ h dX11_stones_104
    · have h := ite_f c_1 h
      refine wb_aload_n 0 hX dX11_stones_57 rfl (pq := 58) rfl ?_
      refine wb_iload_n 1 hX dX11_stones_58 rfl (pq := 59) rfl ?_
      refine wb_iload_n 2 hX dX11_stones_59 rfl (pq := 60) rfl ?_
      refine wb_iload 5 hX dX11_stones_60 rfl (pq := 62) rfl ?_
      obtain ⟨q_5, hc_4, h⟩ := bind_s h
      refine wb_callVv (s1 := q_5) [.int x1, .int x2, .int x5] hX sh_161 ml_1205 (tM_touchBy hc_4) (by decide) rfl rfl (Nat.le_of_ble_eq_true rfl) dX11_stones_62 (pq := 65) rfl ?_
      refine wb_aload_n 0 hX dX11_stones_65 rfl (pq := 66) rfl ?_
      obtain ⟨q_7, hc_6, h⟩ := bind_s h
      refine wb_callVv (s1 := q_7) [] hX sh_161 ml_1404 (tM_startsThen hc_6) (by decide) rfl rfl (Nat.le_of_ble_eq_true rfl) dX11_stones_66 (pq := 69) rfl ?_
      refine wb_iload 4 hX dX11_stones_69 rfl (pq := 71) rfl ?_
      refine wb_aload_n 0 hX dX11_stones_71 rfl (pq := 72) rfl ?_
      obtain ⟨q_9, hc_8, h⟩ := bind_s h
      refine wb_callVi (r0 := q_9.1) (s1 := q_9.2) [] hX sh_161 ml_1473 (tM_isSo hc_8) (by decide) rfl rfl (Nat.le_of_ble_eq_true rfl) dX11_stones_72 (pq := 75) rfl ?_
      refine wb_if_eq (tgt := 85) hX dX11_stones_75 (by decide) (fun c_10 => ?_) (pq := 78) rfl (fun c_10 => ?_)
      · have h := ite_t c_10 h
        refine wb_iconst (v := iI (0)) hX dX11_stones_85 rfl (pq := 86) rfl ?_
        refine wb_sub [0, 1, 2, 3, 5] (loc' := [(0, .ref (G.1 161)), (1, .int x1), (2, .int x2), (3, .int x3), (5, .int x5)]) rfl ?_
        exact tM_stones_J86 hX hQ hN hk50 h
      · have h := ite_f c_10 h
        refine wb_iconst (v := iI (1)) hX dX11_stones_78 rfl (pq := 79) rfl ?_
        refine wb_iload 5 hX dX11_stones_79 rfl (pq := 81) rfl ?_
        refine wb_ishl hX dX11_stones_81 (pq := 82) rfl ?_
        refine wb_goto (tgt := 86) hX dX11_stones_82 (by decide) ?_
        refine wb_sub [0, 1, 2, 3, 5] (loc' := [(0, .ref (G.1 161)), (1, .int x1), (2, .int x2), (3, .int x3), (5, .int x5)]) rfl ?_
        exact tM_stones_J86 hX hQ hN hk50 h
set_option maxHeartbeats 4000000 in
set_option maxRecDepth 100000 in
theorem tM_stones {l : Launch} {G : wG} {s : wM} {x1 : Int32} {x2 : Int32} {r0 : Int32} {s1 : wM} (h : fM_stones s x1 x2 = some (r0, s1)) : wMet l G yX11_stones cX11_stones 6 (some .int) 5 [.ref (G.1 161), .int x1, .int x2] s (wQi G r0 s1) := by
  refine wMet_of (own := RX11) (by decide +kernel) rfl (Nat.le_of_ble_eq_true rfl) ?_
  intro X hX hQ hN hl
  show WB G X 0 [(0, .ref (G.1 161)), (1, .int x1), (2, .int x2)] [] s
  unfold fM_stones at h
  refine wb_aload_n 0 hX dX11_stones_0 rfl (pq := 1) rfl ?_
  refine wb_iconst (v := iI (0)) hX dX11_stones_1 rfl (pq := 2) rfl ?_
  refine wb_putI hX fp_1518 sh_161 rfl dX11_stones_2 rfl rfl (pq := 5) rfl ?_
  refine wb_mem (fun s_1 es_1 => ?_)
  have h := nmM_s h s_1 es_1
  refine wb_aload_n 0 hX dX11_stones_5 rfl (pq := 6) rfl ?_
  refine wb_iload_n 1 hX dX11_stones_6 rfl (pq := 7) rfl ?_
  refine wb_iload_n 2 hX dX11_stones_7 rfl (pq := 8) rfl ?_
  obtain ⟨q_3, hc_2, h⟩ := bind_s h
  refine wb_callVi (r0 := q_3) (s1 := s_1) [.int x1, .int x2] hX sh_161 ml_1195 (tM_areTwo hc_2) (by decide) rfl rfl (Nat.le_of_ble_eq_true rfl) dX11_stones_8 (pq := 11) rfl ?_
  refine wb_if_ne (tgt := 16) hX dX11_stones_11 (by decide) (pq := 14) rfl (fun c_4 => ?_) (fun c_4 => ?_)
  · have h := ite_t c_4 h
    refine wb_iconst (v := iI (-1)) hX dX11_stones_14 rfl (pq := 15) rfl ?_
    exact wb_iret hX hQ h dX11_stones_15
  · have h := ite_f c_4 h
    refine wb_aload_n 0 hX dX11_stones_16 rfl (pq := 17) rfl ?_
    refine wb_getR hX fl_1524 sh_161 rfl dX11_stones_17 (pq := 20) rfl ?_
    refine wb_iload_n 1 hX dX11_stones_20 rfl (pq := 21) rfl ?_
    obtain ⟨hi_5, h⟩ := chk_some h
    refine wb_iald hX sh_165 hi_5 dX11_stones_21 (pq := 22) rfl ?_
    refine wb_iload_n 2 hX dX11_stones_22 rfl (pq := 23) rfl ?_
    obtain ⟨q_7, hc_6, h⟩ := bind_s h
    refine wb_callSi (r0 := q_7) (s1 := s_1) [.int (s_1.1 165 x1.toNatClampNeg), .int x2] hX ml_1187 (tM_has hc_6) (by decide) rfl rfl (Nat.le_of_ble_eq_true rfl) dX11_stones_23 (pq := 26) rfl ?_
    refine wb_if_ne (tgt := 32) hX dX11_stones_26 (by decide) (pq := 29) rfl (fun c_8 => ?_) (fun c_8 => ?_)
    · have h := ite_t c_8 h
      refine wb_bipush (v := iI (-2)) hX dX11_stones_29 (by decide) (pq := 31) rfl ?_
      exact wb_iret hX hQ h dX11_stones_31
    · have h := ite_f c_8 h
      refine wb_aload_n 0 hX dX11_stones_32 rfl (pq := 33) rfl ?_
      refine wb_getR hX fl_1525 sh_161 rfl dX11_stones_33 (pq := 36) rfl ?_
      refine wb_bipush (v := iI (9)) hX dX11_stones_36 (by decide) (pq := 38) rfl ?_
      refine wb_iload_n 1 hX dX11_stones_38 rfl (pq := 39) rfl ?_
      refine wb_imul hX dX11_stones_39 (pq := 40) rfl ?_
      refine wb_iload_n 2 hX dX11_stones_40 rfl (pq := 41) rfl ?_
      refine wb_iadd hX dX11_stones_41 (pq := 42) rfl ?_
      obtain ⟨hi_9, h⟩ := chk_some h
      refine wb_iald hX sh_166 hi_9 dX11_stones_42 (pq := 43) rfl ?_
      refine wb_topi (fun y_10 ey_10 => ?_)
      have h := nmI_s h y_10 ey_10
      refine wb_istore_n (loc' := [(3, .int y_10), (0, .ref (G.1 161)), (1, .int x1), (2, .int x2)]) hX hN dX11_stones_43 (by decide) rfl (pq := 44) rfl ?_
      refine wb_iconst (v := iI (0)) hX dX11_stones_44 rfl (pq := 45) rfl ?_
      refine wb_istore (loc' := [(4, .int (iI (0))), (3, .int y_10), (0, .ref (G.1 161)), (1, .int x1), (2, .int x2)]) hX hN dX11_stones_45 (by decide) rfl (pq := 47) rfl ?_
      refine wb_iconst (v := iI (0)) hX dX11_stones_47 rfl (pq := 48) rfl ?_
      refine wb_istore (loc' := [(5, .int (iI (0))), (4, .int (iI (0))), (3, .int y_10), (0, .ref (G.1 161)), (1, .int x1), (2, .int x2)]) hX hN dX11_stones_48 (by decide) rfl (pq := 50) rfl ?_
      refine wb_sub [3, 4, 5, 2, 1, 0] (loc' := [(0, .ref (G.1 161)), (1, .int x1), (2, .int x2), (3, .int y_10), (4, .int (iI (0))), (5, .int (iI (0)))]) rfl ?_
      exact tM_stones_L50 hX hQ hN 100000 _ _ _ h
set_option maxHeartbeats 4000000 in
set_option maxRecDepth 100000 in
theorem tM_nights_J91 {G : wG} {X : wX} {k14 : Int32 → Int32 → wM → Option (Int32 × wM)} {k24 : Int32 → Int32 → wM → Option (Int32 × wM)} {x1 : Int32} {x2 : Int32} {x3 : Int32} {s : wM} {r0 : Int32} {s1 : wM} (hX : wOK G X cX11_nights RX11 (some .int) 5) (hQ : wRt G X (wQi G r0 s1)) (hN : wNl X = 4) (hk14 : ∀ (x1 : Int32) (x2 : Int32) (s : wM), k14 x1 x2 s = some (r0, s1) → WB G X 14 [(0, .ref (G.1 161)), (1, .int x1), (2, .int x2)] [] s) (hk24 : ∀ (x1 : Int32) (x3 : Int32) (s : wM), k24 x1 x3 s = some (r0, s1) → WB G X 24 [(0, .ref (G.1 161)), (1, .int x1), (2, .int x2), (3, .int x3)] [] s) (h : fM_nights_J91 k14 k24 x1 x2 x3 s = some (r0, s1)) : WB G X 91 [(0, .ref (G.1 161)), (1, .int x1), (2, .int x2), (3, .int x3)] [] s := by
  unfold fM_nights_J91 at h
  refine wb_iinc (v := (x3 + iI (1))) (loc' := [(3, .int (x3 + iI (1))), (0, .ref (G.1 161)), (1, .int x1), (2, .int x2)]) 3 hX hN dX11_nights_91 rfl rfl (by decide) rfl (pq := 94) rfl ?_
  refine wb_goto (tgt := 24) hX dX11_nights_94 (by decide) ?_
  refine wb_sub [1, 2, 3, 0] (loc' := [(0, .ref (G.1 161)), (1, .int x1), (2, .int x2), (3, .int (x3 + iI (1)))]) rfl ?_
  exact hk24 _ _ _ h
set_option maxHeartbeats 4000000 in
set_option maxRecDepth 100000 in
theorem tM_nights_J88 {G : wG} {X : wX} {k14 : Int32 → Int32 → wM → Option (Int32 × wM)} {k24 : Int32 → Int32 → wM → Option (Int32 × wM)} {x1 : Int32} {x2 : Int32} {x3 : Int32} {s : wM} {r0 : Int32} {s1 : wM} (hX : wOK G X cX11_nights RX11 (some .int) 5) (hQ : wRt G X (wQi G r0 s1)) (hN : wNl X = 4) (hk14 : ∀ (x1 : Int32) (x2 : Int32) (s : wM), k14 x1 x2 s = some (r0, s1) → WB G X 14 [(0, .ref (G.1 161)), (1, .int x1), (2, .int x2)] [] s) (hk24 : ∀ (x1 : Int32) (x3 : Int32) (s : wM), k24 x1 x3 s = some (r0, s1) → WB G X 24 [(0, .ref (G.1 161)), (1, .int x1), (2, .int x2), (3, .int x3)] [] s) (h : fM_nights_J88 k14 k24 x1 x2 x3 s = some (r0, s1)) : WB G X 88 [(0, .ref (G.1 161)), (1, .int x1), (2, .int x2), (3, .int x3)] [] s := by
  unfold fM_nights_J88 at h
  refine wb_iinc (v := (x1 + iI (1))) (loc' := [(1, .int (x1 + iI (1))), (0, .ref (G.1 161)), (2, .int x2), (3, .int x3)]) 1 hX hN dX11_nights_88 rfl rfl (by decide) rfl (pq := 91) rfl ?_
  refine wb_sub [1, 0, 2, 3] (loc' := [(0, .ref (G.1 161)), (1, .int (x1 + iI (1))), (2, .int x2), (3, .int x3)]) rfl ?_
  exact tM_nights_J91 hX hQ hN hk14 hk24 h
set_option maxHeartbeats 4000000 in
set_option maxRecDepth 100000 in
theorem tM_nights_L24 {G : wG} {X : wX} {k14 : Int32 → Int32 → wM → Option (Int32 × wM)} {x2 : Int32} {r0 : Int32} {s1 : wM} (hX : wOK G X cX11_nights RX11 (some .int) 5) (hQ : wRt G X (wQi G r0 s1)) (hN : wNl X = 4) (hk14 : ∀ (x1 : Int32) (x2 : Int32) (s : wM), k14 x1 x2 s = some (r0, s1) → WB G X 14 [(0, .ref (G.1 161)), (1, .int x1), (2, .int x2)] [] s) : ∀ (n : Nat) (x1 : Int32) (x3 : Int32) (s : wM), wh3 (fM_nights_L24 k14 x2) n x1 x3 s = some (r0, s1) → WB G X 24 [(0, .ref (G.1 161)), (1, .int x1), (2, .int x2), (3, .int x3)] [] s := by
  intro n
  induction n with
  | zero => intro x1 x3 s h; cases h
  | succ n hk24 =>
    intro x1 x3 s h
    have h : fM_nights_L24 k14 x2 x1 x3 s (wh3 (fM_nights_L24 k14 x2) n) = some (r0, s1) := h
    unfold fM_nights_L24 at h
    refine wb_iload_n 3 hX dX11_nights_24 rfl (pq := 25) rfl ?_
    refine wb_aload_n 0 hX dX11_nights_25 rfl (pq := 26) rfl ?_
    refine wb_getI hX fl_1521 sh_161 rfl dX11_nights_26 (pq := 29) rfl ?_
    refine wb_icmp_ge (tgt := 97) hX dX11_nights_29 (by decide) (fun c_1 => ?_) (pq := 32) rfl (fun c_1 => ?_)
    · have h := ite_t c_1 h
      refine wb_iinc (v := (x2 + iI (1))) (loc' := [(2, .int (x2 + iI (1))), (0, .ref (G.1 161)), (1, .int x1), (3, .int x3)]) 2 hX hN dX11_nights_97 rfl rfl (by decide) rfl (pq := 100) rfl ?_
      refine wb_goto (tgt := 14) hX dX11_nights_100 (by decide) ?_
      refine wb_sub [1, 2, 0] (loc' := [(0, .ref (G.1 161)), (1, .int x1), (2, .int (x2 + iI (1)))]) rfl ?_
      exact hk14 _ _ _ h
    · have h := ite_f c_1 h
      refine wb_iload_n 2 hX dX11_nights_32 rfl (pq := 33) rfl ?_
      refine wb_iload_n 3 hX dX11_nights_33 rfl (pq := 34) rfl ?_
      refine wb_icmp_eq (tgt := 91) hX dX11_nights_34 (by decide) (fun c_2 => ?_) (pq := 37) rfl (fun c_2 => ?_)
      · have h := ite_t c_2 h
        exact tM_nights_J91 hX hQ hN hk14 hk24 h
      · have h := ite_f c_2 h
        refine wb_aload_n 0 hX dX11_nights_37 rfl (pq := 38) rfl ?_
        refine wb_aload_n 0 hX dX11_nights_38 rfl (pq := 39) rfl ?_
        refine wb_getR hX fl_1522 sh_161 rfl dX11_nights_39 (pq := 42) rfl ?_
        refine wb_iload_n 2 hX dX11_nights_42 rfl (pq := 43) rfl ?_
        refine wb_iload_n 3 hX dX11_nights_43 rfl (pq := 44) rfl ?_
        obtain ⟨q_4, hc_3, h⟩ := bind_s h
        refine wb_callVi (r0 := q_4) (s1 := s) [.ref (G.1 163), .int x2, .int x3] hX sh_161 ml_1233 (tM_canCarry sh_163 hc_3) (by decide) rfl rfl (Nat.le_of_ble_eq_true rfl) dX11_nights_44 (pq := 47) rfl ?_
        refine wb_if_ne (tgt := 53) hX dX11_nights_47 (by decide) (pq := 50) rfl (fun c_5 => ?_) (fun c_5 => ?_)
        · have h := ite_t c_5 h
          refine wb_goto (tgt := 91) hX dX11_nights_50 (by decide) ?_
          exact tM_nights_J91 hX hQ hN hk14 hk24 h
        · have h := ite_f c_5 h
          refine wb_aload_n 0 hX dX11_nights_53 rfl (pq := 54) rfl ?_
          obtain ⟨q_7, hc_6, h⟩ := bind_s h
          refine wb_callVv (s1 := q_7) [] hX sh_161 ml_1404 (tM_startsThen hc_6) (by decide) rfl rfl (Nat.le_of_ble_eq_true rfl) dX11_nights_54 (pq := 57) rfl ?_
          refine wb_aload_n 0 hX dX11_nights_57 rfl (pq := 58) rfl ?_
          refine wb_aload_n 0 hX dX11_nights_58 rfl (pq := 59) rfl ?_
          refine wb_getR hX fl_1557 sh_161 rfl dX11_nights_59 (pq := 62) rfl ?_
          refine wb_iload_n 2 hX dX11_nights_62 rfl (pq := 63) rfl ?_
          refine wb_iload_n 3 hX dX11_nights_63 rfl (pq := 64) rfl ?_
          obtain ⟨q_9, hc_8, h⟩ := bind_s h
          refine wb_callVv (s1 := q_9) [.ref (G.1 187), .int x2, .int x3] hX sh_161 ml_1245 (tM_carries sh_187 hc_8) (by decide) rfl rfl (Nat.le_of_ble_eq_true rfl) dX11_nights_64 (pq := 67) rfl ?_
          refine wb_aload_n 0 hX dX11_nights_67 rfl (pq := 68) rfl ?_
          obtain ⟨q_11, hc_10, h⟩ := bind_s h
          refine wb_callVi (r0 := q_11.1) (s1 := q_11.2) [] hX sh_161 ml_1473 (tM_isSo hc_10) (by decide) rfl rfl (Nat.le_of_ble_eq_true rfl) dX11_nights_68 (pq := 71) rfl ?_
          refine wb_if_eq (tgt := 91) hX dX11_nights_71 (by decide) (fun c_12 => ?_) (pq := 74) rfl (fun c_12 => ?_)
          · have h := ite_t c_12 h
            exact tM_nights_J91 hX hQ hN hk14 hk24 h
          · have h := ite_f c_12 h
            refine wb_iload_n 1 hX dX11_nights_74 rfl (pq := 75) rfl ?_
            refine wb_if_ne (tgt := 88) hX dX11_nights_75 (by decide) (pq := 78) rfl (fun c_13 => ?_) (fun c_13 => ?_)
            · have h := ite_t c_13 h
              refine wb_aload_n 0 hX dX11_nights_78 rfl (pq := 79) rfl ?_
              refine wb_bipush (v := iI (10)) hX dX11_nights_79 (by decide) (pq := 81) rfl ?_
              refine wb_iload_n 2 hX dX11_nights_81 rfl (pq := 82) rfl ?_
              refine wb_imul hX dX11_nights_82 (pq := 83) rfl ?_
              refine wb_iload_n 3 hX dX11_nights_83 rfl (pq := 84) rfl ?_
              refine wb_iadd hX dX11_nights_84 (pq := 85) rfl ?_
              obtain ⟨q_15, hc_14, h⟩ := bind_s h
              refine wb_callVv (s1 := q_15) [.int (((iI (10)) * x2) + x3)] hX sh_161 ml_1263 (tM_enters hc_14) (by decide) rfl rfl (Nat.le_of_ble_eq_true rfl) dX11_nights_85 (pq := 88) rfl ?_
              exact tM_nights_J88 hX hQ hN hk14 hk24 h
            · have h := ite_f c_13 h
              exact tM_nights_J88 hX hQ hN hk14 hk24 h
set_option maxHeartbeats 4000000 in
set_option maxRecDepth 100000 in
theorem tM_nights_L14 {G : wG} {X : wX} {r0 : Int32} {s1 : wM} (hX : wOK G X cX11_nights RX11 (some .int) 5) (hQ : wRt G X (wQi G r0 s1)) (hN : wNl X = 4) : ∀ (n : Nat) (x1 : Int32) (x2 : Int32) (s : wM), wh3 (fM_nights_L14) n x1 x2 s = some (r0, s1) → WB G X 14 [(0, .ref (G.1 161)), (1, .int x1), (2, .int x2)] [] s := by
  intro n
  induction n with
  | zero => intro x1 x2 s h; cases h
  | succ n hk14 =>
    intro x1 x2 s h
    have h : fM_nights_L14 x1 x2 s (wh3 (fM_nights_L14) n) = some (r0, s1) := h
    unfold fM_nights_L14 at h
    refine wb_iload_n 2 hX dX11_nights_14 rfl (pq := 15) rfl ?_
    refine wb_aload_n 0 hX dX11_nights_15 rfl (pq := 16) rfl ?_
    refine wb_getI hX fl_1521 sh_161 rfl dX11_nights_16 (pq := 19) rfl ?_
    refine wb_icmp_ge (tgt := 103) hX dX11_nights_19 (by decide) (fun c_1 => ?_) (pq := 22) rfl (fun c_1 => ?_)
    · have h := ite_t c_1 h
      refine wb_aload_n 0 hX dX11_nights_103 rfl (pq := 104) rfl ?_
      obtain ⟨q_3, hc_2, h⟩ := bind_s h
      refine wb_callVv (s1 := q_3) [] hX sh_161 ml_1404 (tM_startsThen hc_2) (by decide) rfl rfl (Nat.le_of_ble_eq_true rfl) dX11_nights_104 (pq := 107) rfl ?_
      refine wb_aload_n 0 hX dX11_nights_107 rfl (pq := 108) rfl ?_
      refine wb_aload_n 0 hX dX11_nights_108 rfl (pq := 109) rfl ?_
      obtain ⟨q_5, hc_4, h⟩ := bind_s h
      refine wb_callVi (r0 := q_5.1) (s1 := q_5.2) [] hX sh_161 ml_1473 (tM_isSo hc_4) (by decide) rfl rfl (Nat.le_of_ble_eq_true rfl) dX11_nights_109 (pq := 112) rfl ?_
      obtain ⟨q_7, hc_6, h⟩ := bind_s h
      refine wb_callSi (r0 := q_7) (s1 := q_5.2) [.int q_5.1] hX ml_1151 (tM_flag hc_6) (by decide) rfl rfl (Nat.le_of_ble_eq_true rfl) dX11_nights_112 (pq := 115) rfl ?_
      obtain ⟨q_9, hc_8, h⟩ := bind_s h
      refine wb_callVv (s1 := q_9) [.int q_7] hX sh_161 ml_1263 (tM_enters hc_8) (by decide) rfl rfl (Nat.le_of_ble_eq_true rfl) dX11_nights_115 (pq := 118) rfl ?_
      refine wb_iload_n 1 hX dX11_nights_118 rfl (pq := 119) rfl ?_
      exact wb_iret hX hQ h dX11_nights_119
    · have h := ite_f c_1 h
      refine wb_iconst (v := iI (0)) hX dX11_nights_22 rfl (pq := 23) rfl ?_
      refine wb_istore_n (loc' := [(3, .int (iI (0))), (0, .ref (G.1 161)), (1, .int x1), (2, .int x2)]) hX hN dX11_nights_23 (by decide) rfl (pq := 24) rfl ?_
      refine wb_sub [1, 2, 3, 0] (loc' := [(0, .ref (G.1 161)), (1, .int x1), (2, .int x2), (3, .int (iI (0)))]) rfl ?_
      exact tM_nights_L24 hX hQ hN hk14 100000 _ _ _ h
set_option maxHeartbeats 4000000 in
set_option maxRecDepth 100000 in
theorem tM_nights {l : Launch} {G : wG} {s : wM} {r0 : Int32} {s1 : wM} (h : fM_nights s = some (r0, s1)) : wMet l G yX11_nights cX11_nights 4 (some .int) 5 [.ref (G.1 161)] s (wQi G r0 s1) := by
  refine wMet_of (own := RX11) (by decide +kernel) rfl (Nat.le_of_ble_eq_true rfl) ?_
  intro X hX hQ hN hl
  show WB G X 0 [(0, .ref (G.1 161))] [] s
  unfold fM_nights at h
  refine wb_aload_n 0 hX dX11_nights_0 rfl (pq := 1) rfl ?_
  refine wb_iconst (v := iI (0)) hX dX11_nights_1 rfl (pq := 2) rfl ?_
  refine wb_putI hX fp_1518 sh_161 rfl dX11_nights_2 rfl rfl (pq := 5) rfl ?_
  refine wb_mem (fun s_1 es_1 => ?_)
  have h := nmM_s h s_1 es_1
  refine wb_iconst (v := iI (0)) hX dX11_nights_5 rfl (pq := 6) rfl ?_
  refine wb_istore_n (loc' := [(1, .int (iI (0))), (0, .ref (G.1 161))]) hX hN dX11_nights_6 (by decide) rfl (pq := 7) rfl ?_
  refine wb_aload_n 1 hX dX11_nights_7 rfl (pq := 8) rfl ?_
  refine wb_iconst (v := iI (0)) hX dX11_nights_8 rfl (pq := 9) rfl ?_
  refine wb_putI hX fp_1519 sh_161 rfl dX11_nights_9 rfl rfl (pq := 12) rfl ?_
  refine wb_mem (fun s_2 es_2 => ?_)
  have h := nmM_s h s_2 es_2
  refine wb_iconst (v := iI (0)) hX dX11_nights_12 rfl (pq := 13) rfl ?_
  refine wb_istore_n (loc' := [(2, .int (iI (0))), (1, .int (iI (0))), (0, .ref (G.1 161))]) hX hN dX11_nights_13 (by decide) rfl (pq := 14) rfl ?_
  refine wb_sub [2, 1, 0] (loc' := [(0, .ref (G.1 161)), (1, .int (iI (0))), (2, .int (iI (0)))]) rfl ?_
  exact tM_nights_L14 hX hQ hN 100000 _ _ _ h
set_option maxHeartbeats 4000000 in
set_option maxRecDepth 100000 in
theorem tM_sunday_J165 {G : wG} {X : wX} {k39 : Int32 → wM → Option (Int32 × wM)} {x1 : Int32} {s : wM} {r0 : Int32} {s1 : wM} (hX : wOK G X cX11_sunday RX11 (some .int) 4) (hQ : wRt G X (wQi G r0 s1)) (hN : wNl X = 6) (hk39 : ∀ (x1 : Int32) (s : wM), k39 x1 s = some (r0, s1) → WB G X 39 [(0, .ref (G.1 161)), (1, .int x1)] [] s) (h : fM_sunday_J165 k39 x1 s = some (r0, s1)) : WB G X 165 [(0, .ref (G.1 161)), (1, .int x1)] [] s := by
  unfold fM_sunday_J165 at h
  refine wb_iinc (v := (x1 + iI (1))) (loc' := [(1, .int (x1 + iI (1))), (0, .ref (G.1 161))]) 1 hX hN dX11_sunday_165 rfl rfl (by decide) rfl (pq := 168) rfl ?_
  refine wb_goto (tgt := 39) hX dX11_sunday_168 (by decide) ?_
  refine wb_sub [1, 0] (loc' := [(0, .ref (G.1 161)), (1, .int (x1 + iI (1)))]) rfl ?_
  exact hk39 _ _ h
set_option maxHeartbeats 4000000 in
set_option maxRecDepth 100000 in
theorem tM_sunday_J160 {G : wG} {X : wX} {k39 : Int32 → wM → Option (Int32 × wM)} {x1 : Int32} {v0 : Int32} {v1 : Int32} {v2 : Int32} {s : wM} {r0 : Int32} {s1 : wM} (hX : wOK G X cX11_sunday RX11 (some .int) 4) (hQ : wRt G X (wQi G r0 s1)) (hN : wNl X = 6) (hk39 : ∀ (x1 : Int32) (s : wM), k39 x1 s = some (r0, s1) → WB G X 39 [(0, .ref (G.1 161)), (1, .int x1)] [] s) (h : fM_sunday_J160 k39 x1 v0 v1 v2 s = some (r0, s1)) : WB G X 160 [(0, .ref (G.1 161)), (1, .int x1)] [.int v0, .int v1, .int v2, .ref (G.1 164)] s := by
  unfold fM_sunday_J160 at h
  obtain ⟨q_2, hc_1, h⟩ := bind_s h
  refine wb_callSi (r0 := q_2) (s1 := s) [.int v0] hX ml_1151 (tM_flag hc_1) (by decide) rfl rfl (Nat.le_of_ble_eq_true rfl) dX11_sunday_160 (pq := 163) rfl ?_
  refine wb_isub hX dX11_sunday_163 (pq := 164) rfl ?_
  obtain ⟨hi_3, h⟩ := chk_some h
  refine wb_iast hX sh_164 hi_3 dX11_sunday_164 (pq := 165) rfl ?_
  refine wb_mem (fun s_4 es_4 => ?_)
  have h := nmM_s h s_4 es_4
  exact tM_sunday_J165 hX hQ hN hk39 h
set_option maxHeartbeats 4000000 in
set_option maxRecDepth 100000 in
theorem tM_sunday_L96 {G : wG} {X : wX} {k39 : Int32 → wM → Option (Int32 × wM)} {x1 : Int32} {r0 : Int32} {s1 : wM} (hX : wOK G X cX11_sunday RX11 (some .int) 4) (hQ : wRt G X (wQi G r0 s1)) (hN : wNl X = 6) (hk39 : ∀ (x1 : Int32) (s : wM), k39 x1 s = some (r0, s1) → WB G X 39 [(0, .ref (G.1 161)), (1, .int x1)] [] s) : ∀ (n : Nat) (x2 : Int32) (s : wM), wh2 (fM_sunday_L96 k39 x1) n x2 s = some (r0, s1) → WB G X 96 [(0, .ref (G.1 161)), (1, .int x1), (2, .int x2)] [] s := by
  intro n
  induction n with
  | zero => intro x2 s h; cases h
  | succ n hk96 =>
    intro x2 s h
    have h : fM_sunday_L96 k39 x1 x2 s (wh2 (fM_sunday_L96 k39 x1) n) = some (r0, s1) := h
    unfold fM_sunday_L96 at h
    refine wb_iload_n 2 hX dX11_sunday_96 rfl (pq := 97) rfl ?_
    refine wb_bipush (v := iI (20)) hX dX11_sunday_97 (by decide) (pq := 99) rfl ?_
    refine wb_icmp_gt (tgt := 140) hX dX11_sunday_99 (by decide) (fun c_1 => ?_) (pq := 102) rfl (fun c_1 => ?_)
    · have h := ite_t c_1 h
      refine wb_aload_n 0 hX dX11_sunday_140 rfl (pq := 141) rfl ?_
      refine wb_getR hX fl_1523 sh_161 rfl dX11_sunday_141 (pq := 144) rfl ?_
      refine wb_iconst (v := iI (0)) hX dX11_sunday_144 rfl (pq := 145) rfl ?_
      refine wb_iload_n 1 hX dX11_sunday_145 rfl (pq := 146) rfl ?_
      refine wb_mmax hX k_1209 k_491 k_14 k_492 (Nat.le_of_ble_eq_true rfl) dX11_sunday_146 (pq := 149) rfl ?_
      refine wb_dup2 hX dX11_sunday_149 rfl rfl (pq := 150) rfl ?_
      obtain ⟨hi_2, h⟩ := chk_some h
      refine wb_iald hX sh_164 hi_2 dX11_sunday_150 (pq := 151) rfl ?_
      refine wb_iload_n 1 hX dX11_sunday_151 rfl (pq := 152) rfl ?_
      refine wb_if_lt (tgt := 159) hX dX11_sunday_152 (by decide) (fun c_3 => ?_) (pq := 155) rfl (fun c_3 => ?_)
      · have h := ite_t c_3 h
        refine wb_iconst (v := iI (0)) hX dX11_sunday_159 rfl (pq := 160) rfl ?_
        refine wb_sub [0, 1] (loc' := [(0, .ref (G.1 161)), (1, .int x1)]) rfl ?_
        exact tM_sunday_J160 hX hQ hN hk39 h
      · have h := ite_f c_3 h
        refine wb_iconst (v := iI (1)) hX dX11_sunday_155 rfl (pq := 156) rfl ?_
        refine wb_goto (tgt := 160) hX dX11_sunday_156 (by decide) ?_
        refine wb_sub [0, 1] (loc' := [(0, .ref (G.1 161)), (1, .int x1)]) rfl ?_
        exact tM_sunday_J160 hX hQ hN hk39 h
    · have h := ite_f c_1 h
      refine wb_aload_n 0 hX dX11_sunday_102 rfl (pq := 103) rfl ?_
      refine wb_aload_n 0 hX dX11_sunday_103 rfl (pq := 104) rfl ?_
      refine wb_getR hX fl_1557 sh_161 rfl dX11_sunday_104 (pq := 107) rfl ?_
      refine wb_iconst (v := iI (0)) hX dX11_sunday_107 rfl (pq := 108) rfl ?_
      refine wb_iconst (v := iI (0)) hX dX11_sunday_108 rfl (pq := 109) rfl ?_
      obtain ⟨q_5, hc_4, h⟩ := bind_s h
      refine wb_callVv (s1 := q_5) [.ref (G.1 187), .int (iI (0)), .int (iI (0))] hX sh_161 ml_1280 (tM_weekGoes sh_187 hc_4) (by decide) rfl rfl (Nat.le_of_ble_eq_true rfl) dX11_sunday_109 (pq := 112) rfl ?_
      refine wb_aload_n 0 hX dX11_sunday_112 rfl (pq := 113) rfl ?_
      refine wb_getR hX fl_1564 sh_161 rfl dX11_sunday_113 (pq := 116) rfl ?_
      refine wb_bipush (v := iI (37)) hX dX11_sunday_116 (by decide) (pq := 118) rfl ?_
      refine wb_iload_n 2 hX dX11_sunday_118 rfl (pq := 119) rfl ?_
      refine wb_imul hX dX11_sunday_119 (pq := 120) rfl ?_
      refine wb_aload_n 0 hX dX11_sunday_120 rfl (pq := 121) rfl ?_
      refine wb_aload_n 0 hX dX11_sunday_121 rfl (pq := 122) rfl ?_
      refine wb_getR hX fl_1557 sh_161 rfl dX11_sunday_122 (pq := 125) rfl ?_
      obtain ⟨q_7, hc_6, h⟩ := bind_s h
      refine wb_callVi (r0 := q_7) (s1 := q_5) [.ref (G.1 187)] hX sh_161 ml_1289 (tM_evenPairs sh_187 hc_6) (by decide) rfl rfl (Nat.le_of_ble_eq_true rfl) dX11_sunday_125 (pq := 128) rfl ?_
      refine wb_iadd hX dX11_sunday_128 (pq := 129) rfl ?_
      refine wb_dup2 hX dX11_sunday_129 rfl rfl (pq := 130) rfl ?_
      obtain ⟨hi_8, h⟩ := chk_some h
      refine wb_iald hX sh_193 hi_8 dX11_sunday_130 (pq := 131) rfl ?_
      refine wb_iconst (v := iI (1)) hX dX11_sunday_131 rfl (pq := 132) rfl ?_
      refine wb_iadd hX dX11_sunday_132 (pq := 133) rfl ?_
      refine wb_iast hX sh_193 hi_8 dX11_sunday_133 (pq := 134) rfl ?_
      refine wb_mem (fun s_9 es_9 => ?_)
      have h := nmM_s h s_9 es_9
      refine wb_iinc (v := (x2 + iI (1))) (loc' := [(2, .int (x2 + iI (1))), (0, .ref (G.1 161)), (1, .int x1)]) 2 hX hN dX11_sunday_134 rfl rfl (by decide) rfl (pq := 137) rfl ?_
      refine wb_goto (tgt := 96) hX dX11_sunday_137 (by decide) ?_
      refine wb_sub [1, 2, 0] (loc' := [(0, .ref (G.1 161)), (1, .int x1), (2, .int (x2 + iI (1)))]) rfl ?_
      exact hk96 _ _ h
set_option maxHeartbeats 4000000 in
set_option maxRecDepth 100000 in
theorem tM_sunday_J85 {G : wG} {X : wX} {k39 : Int32 → wM → Option (Int32 × wM)} {x1 : Int32} {v0 : Int32} {v1 : Int32} {v2 : Int32} {s : wM} {r0 : Int32} {s1 : wM} (hX : wOK G X cX11_sunday RX11 (some .int) 4) (hQ : wRt G X (wQi G r0 s1)) (hN : wNl X = 6) (hk39 : ∀ (x1 : Int32) (s : wM), k39 x1 s = some (r0, s1) → WB G X 39 [(0, .ref (G.1 161)), (1, .int x1)] [] s) (h : fM_sunday_J85 k39 x1 v0 v1 v2 s = some (r0, s1)) : WB G X 85 [(0, .ref (G.1 161)), (1, .int x1)] [.int v0, .int v1, .int v2, .ref (G.1 164)] s := by
  unfold fM_sunday_J85 at h
  obtain ⟨q_2, hc_1, h⟩ := bind_s h
  refine wb_callSi (r0 := q_2) (s1 := s) [.int v0] hX ml_1151 (tM_flag hc_1) (by decide) rfl rfl (Nat.le_of_ble_eq_true rfl) dX11_sunday_85 (pq := 88) rfl ?_
  refine wb_iadd hX dX11_sunday_88 (pq := 89) rfl ?_
  obtain ⟨hi_3, h⟩ := chk_some h
  refine wb_iast hX sh_164 hi_3 dX11_sunday_89 (pq := 90) rfl ?_
  refine wb_mem (fun s_4 es_4 => ?_)
  have h := nmM_s h s_4 es_4
  refine wb_aload_n 0 hX dX11_sunday_90 rfl (pq := 91) rfl ?_
  obtain ⟨q_6, hc_5, h⟩ := bind_s h
  refine wb_callVv (s1 := q_6) [] hX sh_161 ml_1404 (tM_startsThen hc_5) (by decide) rfl rfl (Nat.le_of_ble_eq_true rfl) dX11_sunday_91 (pq := 94) rfl ?_
  refine wb_iconst (v := iI (1)) hX dX11_sunday_94 rfl (pq := 95) rfl ?_
  refine wb_istore_n (loc' := [(2, .int (iI (1))), (0, .ref (G.1 161)), (1, .int x1)]) hX hN dX11_sunday_95 (by decide) rfl (pq := 96) rfl ?_
  refine wb_sub [1, 2, 0] (loc' := [(0, .ref (G.1 161)), (1, .int x1), (2, .int (iI (1)))]) rfl ?_
  exact tM_sunday_L96 hX hQ hN hk39 100000 _ _ h
set_option maxHeartbeats 4000000 in
set_option maxRecDepth 100000 in
theorem tM_sunday_J65 {G : wG} {X : wX} {k39 : Int32 → wM → Option (Int32 × wM)} {x1 : Int32} {s : wM} {r0 : Int32} {s1 : wM} (hX : wOK G X cX11_sunday RX11 (some .int) 4) (hQ : wRt G X (wQi G r0 s1)) (hN : wNl X = 6) (hk39 : ∀ (x1 : Int32) (s : wM), k39 x1 s = some (r0, s1) → WB G X 39 [(0, .ref (G.1 161)), (1, .int x1)] [] s) (h : fM_sunday_J65 k39 x1 s = some (r0, s1)) : WB G X 65 [(0, .ref (G.1 161)), (1, .int x1)] [] s := by
  unfold fM_sunday_J65 at h
  refine wb_aload_n 0 hX dX11_sunday_65 rfl (pq := 66) rfl ?_
  refine wb_getR hX fl_1523 sh_161 rfl dX11_sunday_66 (pq := 69) rfl ?_
  refine wb_iconst (v := iI (0)) hX dX11_sunday_69 rfl (pq := 70) rfl ?_
  refine wb_iload_n 1 hX dX11_sunday_70 rfl (pq := 71) rfl ?_
  refine wb_mmax hX k_1209 k_491 k_14 k_492 (Nat.le_of_ble_eq_true rfl) dX11_sunday_71 (pq := 74) rfl ?_
  refine wb_dup2 hX dX11_sunday_74 rfl rfl (pq := 75) rfl ?_
  obtain ⟨hi_1, h⟩ := chk_some h
  refine wb_iald hX sh_164 hi_1 dX11_sunday_75 (pq := 76) rfl ?_
  refine wb_iload_n 1 hX dX11_sunday_76 rfl (pq := 77) rfl ?_
  refine wb_if_lt (tgt := 84) hX dX11_sunday_77 (by decide) (fun c_2 => ?_) (pq := 80) rfl (fun c_2 => ?_)
  · have h := ite_t c_2 h
    refine wb_iconst (v := iI (0)) hX dX11_sunday_84 rfl (pq := 85) rfl ?_
    exact tM_sunday_J85 hX hQ hN hk39 h
  · have h := ite_f c_2 h
    refine wb_iconst (v := iI (1)) hX dX11_sunday_80 rfl (pq := 81) rfl ?_
    refine wb_goto (tgt := 85) hX dX11_sunday_81 (by decide) ?_
    exact tM_sunday_J85 hX hQ hN hk39 h
set_option maxHeartbeats 4000000 in
set_option maxRecDepth 100000 in
theorem tM_sunday_J234 {G : wG} {X : wX} {k179 : Int32 → Int32 → Int32 → Option (Int32 × wM)} {x2 : Int32} {x3 : Int32} {x4 : Int32} {v0 : Int32} {s : wM} {r0 : Int32} {s1 : wM} (hX : wOK G X cX11_sunday RX11 (some .int) 4) (hQ : wRt G X (wQi G r0 s1)) (hN : wNl X = 6) (hk179 : ∀ (x1 : Int32) (x2 : Int32) (x3 : Int32), k179 x1 x2 x3 = some (r0, s1) → WB G X 179 [(0, .ref (G.1 161)), (1, .int x1), (2, .int x2), (3, .int x3)] [] s) (h : fM_sunday_J234 k179 x2 x3 x4 v0 s = some (r0, s1)) : WB G X 234 [(0, .ref (G.1 161)), (2, .int x2), (3, .int x3), (4, .int x4)] [.int v0] s := by
  unfold fM_sunday_J234 at h
  refine wb_istore_n (loc' := [(1, .int v0), (0, .ref (G.1 161)), (2, .int x2), (3, .int x3), (4, .int x4)]) hX hN dX11_sunday_234 (by decide) rfl (pq := 235) rfl ?_
  refine wb_iload_n 2 hX dX11_sunday_235 rfl (pq := 236) rfl ?_
  refine wb_iload 4 hX dX11_sunday_236 rfl (pq := 238) rfl ?_
  refine wb_mmin hX k_1136 k_394 k_14 k_395 (Nat.le_of_ble_eq_true rfl) dX11_sunday_238 (pq := 241) rfl ?_
  refine wb_istore_n (loc' := [(2, .int (iMin x2 x4)), (1, .int v0), (0, .ref (G.1 161)), (3, .int x3), (4, .int x4)]) hX hN dX11_sunday_241 (by decide) rfl (pq := 242) rfl ?_
  refine wb_iinc (v := (x3 + iI (1))) (loc' := [(3, .int (x3 + iI (1))), (2, .int (iMin x2 x4)), (1, .int v0), (0, .ref (G.1 161)), (4, .int x4)]) 3 hX hN dX11_sunday_242 rfl rfl (by decide) rfl (pq := 245) rfl ?_
  refine wb_goto (tgt := 179) hX dX11_sunday_245 (by decide) ?_
  refine wb_sub [3, 2, 1, 0] (loc' := [(0, .ref (G.1 161)), (1, .int v0), (2, .int (iMin x2 x4)), (3, .int (x3 + iI (1)))]) rfl ?_
  exact hk179 _ _ _ h
set_option maxHeartbeats 4000000 in
set_option maxRecDepth 100000 in
theorem tM_sunday_L191 {G : wG} {X : wX} {k179 : Int32 → Int32 → Int32 → Option (Int32 × wM)} {x1 : Int32} {x2 : Int32} {x3 : Int32} {s : wM} {r0 : Int32} {s1 : wM} (hX : wOK G X cX11_sunday RX11 (some .int) 4) (hQ : wRt G X (wQi G r0 s1)) (hN : wNl X = 6) (hk179 : ∀ (x1 : Int32) (x2 : Int32) (x3 : Int32), k179 x1 x2 x3 = some (r0, s1) → WB G X 179 [(0, .ref (G.1 161)), (1, .int x1), (2, .int x2), (3, .int x3)] [] s) : ∀ (n : Nat) (x4 : Int32) (x5 : Int32), wh2 (fM_sunday_L191 k179 x1 x2 x3 s) n x4 x5 = some (r0, s1) → WB G X 191 [(0, .ref (G.1 161)), (1, .int x1), (2, .int x2), (3, .int x3), (4, .int x4), (5, .int x5)] [] s := by
  intro n
  induction n with
  | zero => intro x4 x5 h; cases h
  | succ n hk191 =>
    intro x4 x5 h
    have h : fM_sunday_L191 k179 x1 x2 x3 s x4 x5 (wh2 (fM_sunday_L191 k179 x1 x2 x3 s) n) = some (r0, s1) := h
    unfold fM_sunday_L191 at h
    refine wb_iload 5 hX dX11_sunday_191 rfl (pq := 193) rfl ?_
    refine wb_bipush (v := iI (37)) hX dX11_sunday_193 (by decide) (pq := 195) rfl ?_
    refine wb_icmp_ge (tgt := 223) hX dX11_sunday_195 (by decide) (fun c_1 => ?_) (pq := 198) rfl (fun c_1 => ?_)
    · have h := ite_t c_1 h
      refine wb_iload 4 hX dX11_sunday_223 rfl (pq := 225) rfl ?_
      refine wb_iload_n 2 hX dX11_sunday_225 rfl (pq := 226) rfl ?_
      refine wb_icmp_ge (tgt := 233) hX dX11_sunday_226 (by decide) (fun c_2 => ?_) (pq := 229) rfl (fun c_2 => ?_)
      · have h := ite_t c_2 h
        refine wb_iload_n 1 hX dX11_sunday_233 rfl (pq := 234) rfl ?_
        refine wb_sub [0, 2, 3, 4] (loc' := [(0, .ref (G.1 161)), (2, .int x2), (3, .int x3), (4, .int x4)]) rfl ?_
        exact tM_sunday_J234 hX hQ hN hk179 h
      · have h := ite_f c_2 h
        refine wb_iload_n 3 hX dX11_sunday_229 rfl (pq := 230) rfl ?_
        refine wb_goto (tgt := 234) hX dX11_sunday_230 (by decide) ?_
        refine wb_sub [0, 2, 3, 4] (loc' := [(0, .ref (G.1 161)), (2, .int x2), (3, .int x3), (4, .int x4)]) rfl ?_
        exact tM_sunday_J234 hX hQ hN hk179 h
    · have h := ite_f c_1 h
      refine wb_iload 4 hX dX11_sunday_198 rfl (pq := 200) rfl ?_
      refine wb_aload_n 0 hX dX11_sunday_200 rfl (pq := 201) rfl ?_
      refine wb_getR hX fl_1564 sh_161 rfl dX11_sunday_201 (pq := 204) rfl ?_
      refine wb_bipush (v := iI (37)) hX dX11_sunday_204 (by decide) (pq := 206) rfl ?_
      refine wb_iload_n 3 hX dX11_sunday_206 rfl (pq := 207) rfl ?_
      refine wb_imul hX dX11_sunday_207 (pq := 208) rfl ?_
      refine wb_iload 5 hX dX11_sunday_208 rfl (pq := 210) rfl ?_
      refine wb_iadd hX dX11_sunday_210 (pq := 211) rfl ?_
      obtain ⟨hi_3, h⟩ := chk_some h
      refine wb_iald hX sh_193 hi_3 dX11_sunday_211 (pq := 212) rfl ?_
      refine wb_mmax hX k_1209 k_491 k_14 k_492 (Nat.le_of_ble_eq_true rfl) dX11_sunday_212 (pq := 215) rfl ?_
      refine wb_topi (fun y_4 ey_4 => ?_)
      have h := nmI_s h y_4 ey_4
      refine wb_istore (loc' := [(4, .int y_4), (0, .ref (G.1 161)), (1, .int x1), (2, .int x2), (3, .int x3), (5, .int x5)]) hX hN dX11_sunday_215 (by decide) rfl (pq := 217) rfl ?_
      refine wb_iinc (v := (x5 + iI (1))) (loc' := [(5, .int (x5 + iI (1))), (4, .int y_4), (0, .ref (G.1 161)), (1, .int x1), (2, .int x2), (3, .int x3)]) 5 hX hN dX11_sunday_217 rfl rfl (by decide) rfl (pq := 220) rfl ?_
      refine wb_goto (tgt := 191) hX dX11_sunday_220 (by decide) ?_
      refine wb_sub [2, 3, 4, 5, 1, 0] (loc' := [(0, .ref (G.1 161)), (1, .int x1), (2, .int x2), (3, .int x3), (4, .int y_4), (5, .int (x5 + iI (1)))]) rfl ?_
      exact hk191 _ _ h
set_option maxHeartbeats 4000000 in
set_option maxRecDepth 100000 in
theorem tM_sunday_L179 {G : wG} {X : wX} {s : wM} {r0 : Int32} {s1 : wM} (hX : wOK G X cX11_sunday RX11 (some .int) 4) (hQ : wRt G X (wQi G r0 s1)) (hN : wNl X = 6) : ∀ (n : Nat) (x1 : Int32) (x2 : Int32) (x3 : Int32), wh3 (fM_sunday_L179 s) n x1 x2 x3 = some (r0, s1) → WB G X 179 [(0, .ref (G.1 161)), (1, .int x1), (2, .int x2), (3, .int x3)] [] s := by
  intro n
  induction n with
  | zero => intro x1 x2 x3 h; cases h
  | succ n hk179 =>
    intro x1 x2 x3 h
    have h : fM_sunday_L179 s x1 x2 x3 (wh3 (fM_sunday_L179 s) n) = some (r0, s1) := h
    unfold fM_sunday_L179 at h
    refine wb_iload_n 3 hX dX11_sunday_179 rfl (pq := 180) rfl ?_
    refine wb_bipush (v := iI (20)) hX dX11_sunday_180 (by decide) (pq := 182) rfl ?_
    refine wb_icmp_gt (tgt := 248) hX dX11_sunday_182 (by decide) (fun c_1 => ?_) (pq := 185) rfl (fun c_1 => ?_)
    · have h := ite_t c_1 h
      refine wb_aload_n 0 hX dX11_sunday_248 rfl (pq := 249) rfl ?_
      refine wb_iconst (v := iI (0)) hX dX11_sunday_249 rfl (pq := 250) rfl ?_
      refine wb_putI hX fp_1519 sh_161 rfl dX11_sunday_250 rfl rfl (pq := 253) rfl ?_
      refine wb_mem (fun s_2 es_2 => ?_)
      have h := nmM_s h s_2 es_2
      refine wb_aload_n 0 hX dX11_sunday_253 rfl (pq := 254) rfl ?_
      refine wb_iload_n 2 hX dX11_sunday_254 rfl (pq := 255) rfl ?_
      obtain ⟨q_4, hc_3, h⟩ := bind_s h
      refine wb_callVv (s1 := q_4) [.int x2] hX sh_161 ml_1263 (tM_enters hc_3) (by decide) rfl rfl (Nat.le_of_ble_eq_true rfl) dX11_sunday_255 (pq := 258) rfl ?_
      refine wb_iload_n 1 hX dX11_sunday_258 rfl (pq := 259) rfl ?_
      exact wb_iret hX hQ h dX11_sunday_259
    · have h := ite_f c_1 h
      refine wb_iconst (v := iI (0)) hX dX11_sunday_185 rfl (pq := 186) rfl ?_
      refine wb_istore (loc' := [(4, .int (iI (0))), (0, .ref (G.1 161)), (1, .int x1), (2, .int x2), (3, .int x3)]) hX hN dX11_sunday_186 (by decide) rfl (pq := 188) rfl ?_
      refine wb_iconst (v := iI (0)) hX dX11_sunday_188 rfl (pq := 189) rfl ?_
      refine wb_istore (loc' := [(5, .int (iI (0))), (4, .int (iI (0))), (0, .ref (G.1 161)), (1, .int x1), (2, .int x2), (3, .int x3)]) hX hN dX11_sunday_189 (by decide) rfl (pq := 191) rfl ?_
      refine wb_sub [2, 3, 4, 5, 1, 0] (loc' := [(0, .ref (G.1 161)), (1, .int x1), (2, .int x2), (3, .int x3), (4, .int (iI (0))), (5, .int (iI (0)))]) rfl ?_
      exact tM_sunday_L191 hX hQ hN hk179 100000 _ _ h
set_option maxHeartbeats 4000000 in
set_option maxRecDepth 100000 in
theorem tM_sunday_L39 {G : wG} {X : wX} {r0 : Int32} {s1 : wM} (hX : wOK G X cX11_sunday RX11 (some .int) 4) (hQ : wRt G X (wQi G r0 s1)) (hN : wNl X = 6) : ∀ (n : Nat) (x1 : Int32) (s : wM), wh2 (fM_sunday_L39) n x1 s = some (r0, s1) → WB G X 39 [(0, .ref (G.1 161)), (1, .int x1)] [] s := by
  intro n
  induction n with
  | zero => intro x1 s h; cases h
  | succ n hk39 =>
    intro x1 s h
    have h : fM_sunday_L39 x1 s (wh2 (fM_sunday_L39) n) = some (r0, s1) := h
    unfold fM_sunday_L39 at h
    refine wb_iload_n 1 hX dX11_sunday_39 rfl (pq := 40) rfl ?_
    refine wb_aload_n 0 hX dX11_sunday_40 rfl (pq := 41) rfl ?_
    refine wb_getI hX fl_1521 sh_161 rfl dX11_sunday_41 (pq := 44) rfl ?_
    refine wb_icmp_ge (tgt := 171) hX dX11_sunday_44 (by decide) (fun c_1 => ?_) (pq := 47) rfl (fun c_1 => ?_)
    · have h := ite_t c_1 h
      refine wb_iconst (v := iI (0)) hX dX11_sunday_171 rfl (pq := 172) rfl ?_
      refine wb_istore_n (loc' := [(1, .int (iI (0))), (0, .ref (G.1 161))]) hX hN dX11_sunday_172 (by decide) rfl (pq := 173) rfl ?_
      refine wb_ldcw (v := (2147483647 : Int32)) hX k_1338 dX11_sunday_173 (pq := 176) rfl ?_
      refine wb_istore_n (loc' := [(2, .int (2147483647 : Int32)), (1, .int (iI (0))), (0, .ref (G.1 161))]) hX hN dX11_sunday_176 (by decide) rfl (pq := 177) rfl ?_
      refine wb_iconst (v := iI (1)) hX dX11_sunday_177 rfl (pq := 178) rfl ?_
      refine wb_istore_n (loc' := [(3, .int (iI (1))), (2, .int (2147483647 : Int32)), (1, .int (iI (0))), (0, .ref (G.1 161))]) hX hN dX11_sunday_178 (by decide) rfl (pq := 179) rfl ?_
      refine wb_sub [3, 2, 1, 0] (loc' := [(0, .ref (G.1 161)), (1, .int (iI (0))), (2, .int (2147483647 : Int32)), (3, .int (iI (1)))]) rfl ?_
      exact tM_sunday_L179 hX hQ hN 100000 _ _ _ h
    · have h := ite_f c_1 h
      refine wb_iload_n 1 hX dX11_sunday_47 rfl (pq := 48) rfl ?_
      refine wb_if_lt (tgt := 65) hX dX11_sunday_48 (by decide) (fun c_2 => ?_) (pq := 51) rfl (fun c_2 => ?_)
      · have h := ite_t c_2 h
        exact tM_sunday_J65 hX hQ hN hk39 h
      · have h := ite_f c_2 h
        refine wb_aload_n 0 hX dX11_sunday_51 rfl (pq := 52) rfl ?_
        refine wb_getR hX fl_1523 sh_161 rfl dX11_sunday_52 (pq := 55) rfl ?_
        refine wb_iload_n 1 hX dX11_sunday_55 rfl (pq := 56) rfl ?_
        obtain ⟨hi_3, h⟩ := chk_some h
        refine wb_iald hX sh_164 hi_3 dX11_sunday_56 (pq := 57) rfl ?_
        refine wb_bipush (v := iI (9)) hX dX11_sunday_57 (by decide) (pq := 59) rfl ?_
        refine wb_icmp_ne (tgt := 65) hX dX11_sunday_59 (by decide) (pq := 62) rfl (fun c_4 => ?_) (fun c_4 => ?_)
        · have h := ite_t c_4 h
          refine wb_goto (tgt := 165) hX dX11_sunday_62 (by decide) ?_
          exact tM_sunday_J165 hX hQ hN hk39 h
        · have h := ite_f c_4 h
          exact tM_sunday_J65 hX hQ hN hk39 h
set_option maxHeartbeats 4000000 in
set_option maxRecDepth 100000 in
theorem tM_sunday_L17 {G : wG} {X : wX} {r0 : Int32} {s1 : wM} (hX : wOK G X cX11_sunday RX11 (some .int) 4) (hQ : wRt G X (wQi G r0 s1)) (hN : wNl X = 6) : ∀ (n : Nat) (x1 : Int32) (s : wM), wh2 (fM_sunday_L17) n x1 s = some (r0, s1) → WB G X 17 [(0, .ref (G.1 161)), (1, .int x1)] [] s := by
  intro n
  induction n with
  | zero => intro x1 s h; cases h
  | succ n hk17 =>
    intro x1 s h
    have h : fM_sunday_L17 x1 s (wh2 (fM_sunday_L17) n) = some (r0, s1) := h
    unfold fM_sunday_L17 at h
    refine wb_iload_n 1 hX dX11_sunday_17 rfl (pq := 18) rfl ?_
    refine wb_sipush (v := iI (777)) hX dX11_sunday_18 (by decide) (pq := 21) rfl ?_
    refine wb_icmp_ge (tgt := 37) hX dX11_sunday_21 (by decide) (fun c_1 => ?_) (pq := 24) rfl (fun c_1 => ?_)
    · have h := ite_t c_1 h
      refine wb_iconst (v := iI (-1)) hX dX11_sunday_37 rfl (pq := 38) rfl ?_
      refine wb_istore_n (loc' := [(1, .int (iI (-1))), (0, .ref (G.1 161))]) hX hN dX11_sunday_38 (by decide) rfl (pq := 39) rfl ?_
      refine wb_sub [1, 0] (loc' := [(0, .ref (G.1 161)), (1, .int (iI (-1)))]) rfl ?_
      exact tM_sunday_L39 hX hQ hN 100000 _ _ h
    · have h := ite_f c_1 h
      refine wb_aload_n 0 hX dX11_sunday_24 rfl (pq := 25) rfl ?_
      refine wb_getR hX fl_1564 sh_161 rfl dX11_sunday_25 (pq := 28) rfl ?_
      refine wb_iload_n 1 hX dX11_sunday_28 rfl (pq := 29) rfl ?_
      refine wb_iconst (v := iI (0)) hX dX11_sunday_29 rfl (pq := 30) rfl ?_
      obtain ⟨hi_2, h⟩ := chk_some h
      refine wb_iast hX sh_193 hi_2 dX11_sunday_30 (pq := 31) rfl ?_
      refine wb_mem (fun s_3 es_3 => ?_)
      have h := nmM_s h s_3 es_3
      refine wb_iinc (v := (x1 + iI (1))) (loc' := [(1, .int (x1 + iI (1))), (0, .ref (G.1 161))]) 1 hX hN dX11_sunday_31 rfl rfl (by decide) rfl (pq := 34) rfl ?_
      refine wb_goto (tgt := 17) hX dX11_sunday_34 (by decide) ?_
      refine wb_sub [1, 0] (loc' := [(0, .ref (G.1 161)), (1, .int (x1 + iI (1)))]) rfl ?_
      exact hk17 _ _ h
set_option maxHeartbeats 4000000 in
set_option maxRecDepth 100000 in
theorem tM_sunday {l : Launch} {G : wG} {s : wM} {r0 : Int32} {s1 : wM} (h : fM_sunday s = some (r0, s1)) : wMet l G yX11_sunday cX11_sunday 6 (some .int) 4 [.ref (G.1 161)] s (wQi G r0 s1) := by
  refine wMet_of (own := RX11) (by decide +kernel) rfl (Nat.le_of_ble_eq_true rfl) ?_
  intro X hX hQ hN hl
  show WB G X 0 [(0, .ref (G.1 161))] [] s
  unfold fM_sunday at h
  refine wb_aload_n 0 hX dX11_sunday_0 rfl (pq := 1) rfl ?_
  refine wb_iconst (v := iI (0)) hX dX11_sunday_1 rfl (pq := 2) rfl ?_
  refine wb_putI hX fp_1518 sh_161 rfl dX11_sunday_2 rfl rfl (pq := 5) rfl ?_
  refine wb_mem (fun s_1 es_1 => ?_)
  have h := nmM_s h s_1 es_1
  refine wb_aload_n 0 hX dX11_sunday_5 rfl (pq := 6) rfl ?_
  refine wb_getI hX fl_1521 sh_161 rfl dX11_sunday_6 (pq := 9) rfl ?_
  refine wb_if_ne (tgt := 15) hX dX11_sunday_9 (by decide) (pq := 12) rfl (fun c_2 => ?_) (fun c_2 => ?_)
  · have h := ite_t c_2 h
    refine wb_bipush (v := iI (-2)) hX dX11_sunday_12 (by decide) (pq := 14) rfl ?_
    exact wb_iret hX hQ h dX11_sunday_14
  · have h := ite_f c_2 h
    refine wb_iconst (v := iI (0)) hX dX11_sunday_15 rfl (pq := 16) rfl ?_
    refine wb_istore_n (loc' := [(1, .int (iI (0))), (0, .ref (G.1 161))]) hX hN dX11_sunday_16 (by decide) rfl (pq := 17) rfl ?_
    refine wb_sub [1, 0] (loc' := [(0, .ref (G.1 161)), (1, .int (iI (0)))]) rfl ?_
    exact tM_sunday_L17 hX hQ hN 100000 _ _ h
set_option maxHeartbeats 4000000 in
set_option maxRecDepth 100000 in
theorem tM_divide_J35 {G : wG} {X : wX} {s : wM} {r0 : Int32} {s1 : wM} (hX : wOK G X cX11_divide RX11 (some .int) 2) (hQ : wRt G X (wQi G r0 s1)) (hN : wNl X = 5) (h : fM_divide_J35 s = some (r0, s1)) : WB G X 35 [] [] s := by
  unfold fM_divide_J35 at h
  refine wb_iconst (v := iI (-1)) hX dX11_divide_35 rfl (pq := 36) rfl ?_
  exact wb_iret hX hQ h dX11_divide_36
set_option maxHeartbeats 4000000 in
set_option maxRecDepth 100000 in
theorem tM_divide_J155 {G : wG} {X : wX} {k105 : Int32 → wM → Option (Int32 × wM)} {x1 : Int32} {x2 : Int32} {x3 : Int32} {x4 : Int32} {s : wM} {r0 : Int32} {s1 : wM} (hX : wOK G X cX11_divide RX11 (some .int) 2) (hQ : wRt G X (wQi G r0 s1)) (hN : wNl X = 5) (hk105 : ∀ (x4 : Int32) (s : wM), k105 x4 s = some (r0, s1) → WB G X 105 [(0, .ref (G.1 161)), (1, .int x1), (2, .int x2), (3, .int x3), (4, .int x4)] [] s) (h : fM_divide_J155 k105 x1 x2 x3 x4 s = some (r0, s1)) : WB G X 155 [(0, .ref (G.1 161)), (1, .int x1), (2, .int x2), (3, .int x3), (4, .int x4)] [] s := by
  unfold fM_divide_J155 at h
  refine wb_iinc (v := (x4 + iI (1))) (loc' := [(4, .int (x4 + iI (1))), (0, .ref (G.1 161)), (1, .int x1), (2, .int x2), (3, .int x3)]) 4 hX hN dX11_divide_155 rfl rfl (by decide) rfl (pq := 158) rfl ?_
  refine wb_goto (tgt := 105) hX dX11_divide_158 (by decide) ?_
  refine wb_sub [1, 2, 3, 4, 0] (loc' := [(0, .ref (G.1 161)), (1, .int x1), (2, .int x2), (3, .int x3), (4, .int (x4 + iI (1)))]) rfl ?_
  exact hk105 _ _ h
set_option maxHeartbeats 4000000 in
set_option maxRecDepth 100000 in
theorem tM_divide_L105 {G : wG} {X : wX} {x1 : Int32} {x2 : Int32} {x3 : Int32} {r0 : Int32} {s1 : wM} (hX : wOK G X cX11_divide RX11 (some .int) 2) (hQ : wRt G X (wQi G r0 s1)) (hN : wNl X = 5) : ∀ (n : Nat) (x4 : Int32) (s : wM), wh2 (fM_divide_L105 x1 x2 x3) n x4 s = some (r0, s1) → WB G X 105 [(0, .ref (G.1 161)), (1, .int x1), (2, .int x2), (3, .int x3), (4, .int x4)] [] s := by
  intro n
  induction n with
  | zero => intro x4 s h; cases h
  | succ n hk105 =>
    intro x4 s h
    have h : fM_divide_L105 x1 x2 x3 x4 s (wh2 (fM_divide_L105 x1 x2 x3) n) = some (r0, s1) := h
    unfold fM_divide_L105 at h
    refine wb_iload 4 hX dX11_divide_105 rfl (pq := 107) rfl ?_
    refine wb_iload_n 3 hX dX11_divide_107 rfl (pq := 108) rfl ?_
    refine wb_icmp_ge (tgt := 161) hX dX11_divide_108 (by decide) (fun c_1 => ?_) (pq := 111) rfl (fun c_1 => ?_)
    · have h := ite_t c_1 h
      refine wb_aload_n 0 hX dX11_divide_161 rfl (pq := 162) rfl ?_
      refine wb_iload_n 1 hX dX11_divide_162 rfl (pq := 163) rfl ?_
      refine wb_iload_n 3 hX dX11_divide_163 rfl (pq := 164) rfl ?_
      refine wb_iconst (v := iI (0)) hX dX11_divide_164 rfl (pq := 165) rfl ?_
      obtain ⟨q_3, hc_2, h⟩ := bind_s h
      refine wb_callVv (s1 := q_3) [.int x1, .int x3, .int (iI (0))] hX sh_161 ml_1205 (tM_touchBy hc_2) (by decide) rfl rfl (Nat.le_of_ble_eq_true rfl) dX11_divide_165 (pq := 168) rfl ?_
      refine wb_aload_n 0 hX dX11_divide_168 rfl (pq := 169) rfl ?_
      refine wb_iconst (v := iI (0)) hX dX11_divide_169 rfl (pq := 170) rfl ?_
      refine wb_putI hX fp_1538 sh_161 rfl dX11_divide_170 rfl rfl (pq := 173) rfl ?_
      refine wb_mem (fun s_4 es_4 => ?_)
      have h := nmM_s h s_4 es_4
      refine wb_iload_n 3 hX dX11_divide_173 rfl (pq := 174) rfl ?_
      exact wb_iret hX hQ h dX11_divide_174
    · have h := ite_f c_1 h
      refine wb_aload_n 0 hX dX11_divide_111 rfl (pq := 112) rfl ?_
      refine wb_iload_n 3 hX dX11_divide_112 rfl (pq := 113) rfl ?_
      refine wb_iload 4 hX dX11_divide_113 rfl (pq := 115) rfl ?_
      refine wb_iconst (v := iI (-1)) hX dX11_divide_115 rfl (pq := 116) rfl ?_
      obtain ⟨q_6, hc_5, h⟩ := bind_s h
      refine wb_callVv (s1 := q_6) [.int x3, .int x4, .int (iI (-1))] hX sh_161 ml_1205 (tM_touchBy hc_5) (by decide) rfl rfl (Nat.le_of_ble_eq_true rfl) dX11_divide_116 (pq := 119) rfl ?_
      refine wb_iload_n 2 hX dX11_divide_119 rfl (pq := 120) rfl ?_
      refine wb_iload 4 hX dX11_divide_120 rfl (pq := 122) rfl ?_
      obtain ⟨q_8, hc_7, h⟩ := bind_s h
      refine wb_callSi (r0 := q_8) (s1 := q_6) [.int x2, .int x4] hX ml_1187 (tM_has hc_7) (by decide) rfl rfl (Nat.le_of_ble_eq_true rfl) dX11_divide_122 (pq := 125) rfl ?_
      refine wb_if_eq (tgt := 155) hX dX11_divide_125 (by decide) (fun c_9 => ?_) (pq := 128) rfl (fun c_9 => ?_)
      · have h := ite_t c_9 h
        exact tM_divide_J155 hX hQ hN hk105 h
      · have h := ite_f c_9 h
        refine wb_aload_n 0 hX dX11_divide_128 rfl (pq := 129) rfl ?_
        refine wb_iload_n 3 hX dX11_divide_129 rfl (pq := 130) rfl ?_
        refine wb_iload 4 hX dX11_divide_130 rfl (pq := 132) rfl ?_
        refine wb_aload_n 0 hX dX11_divide_132 rfl (pq := 133) rfl ?_
        refine wb_getR hX fl_1525 sh_161 rfl dX11_divide_133 (pq := 136) rfl ?_
        refine wb_bipush (v := iI (9)) hX dX11_divide_136 (by decide) (pq := 138) rfl ?_
        refine wb_iload_n 1 hX dX11_divide_138 rfl (pq := 139) rfl ?_
        refine wb_imul hX dX11_divide_139 (pq := 140) rfl ?_
        refine wb_iload 4 hX dX11_divide_140 rfl (pq := 142) rfl ?_
        refine wb_iadd hX dX11_divide_142 (pq := 143) rfl ?_
        obtain ⟨hi_10, h⟩ := chk_some h
        refine wb_iald hX sh_166 hi_10 dX11_divide_143 (pq := 144) rfl ?_
        obtain ⟨q_12, hc_11, h⟩ := bind_s h
        refine wb_callVv (s1 := q_12) [.int x3, .int x4, .int (q_6.1 166 (((iI (9)) * x1) + x4).toNatClampNeg)] hX sh_161 ml_1205 (tM_touchBy hc_11) (by decide) rfl rfl (Nat.le_of_ble_eq_true rfl) dX11_divide_144 (pq := 147) rfl ?_
        refine wb_aload_n 0 hX dX11_divide_147 rfl (pq := 148) rfl ?_
        refine wb_iload_n 1 hX dX11_divide_148 rfl (pq := 149) rfl ?_
        refine wb_iload 4 hX dX11_divide_149 rfl (pq := 151) rfl ?_
        refine wb_iconst (v := iI (-1)) hX dX11_divide_151 rfl (pq := 152) rfl ?_
        obtain ⟨q_14, hc_13, h⟩ := bind_s h
        refine wb_callVv (s1 := q_14) [.int x1, .int x4, .int (iI (-1))] hX sh_161 ml_1205 (tM_touchBy hc_13) (by decide) rfl rfl (Nat.le_of_ble_eq_true rfl) dX11_divide_152 (pq := 155) rfl ?_
        exact tM_divide_J155 hX hQ hN hk105 h
set_option maxHeartbeats 4000000 in
set_option maxRecDepth 100000 in
theorem tM_divide {l : Launch} {G : wG} {s : wM} {x1 : Int32} {x2 : Int32} {r0 : Int32} {s1 : wM} (h : fM_divide s x1 x2 = some (r0, s1)) : wMet l G yX11_divide cX11_divide 5 (some .int) 2 [.ref (G.1 161), .int x1, .int x2] s (wQi G r0 s1) := by
  refine wMet_of (own := RX11) (by decide +kernel) rfl (Nat.le_of_ble_eq_true rfl) ?_
  intro X hX hQ hN hl
  show WB G X 0 [(0, .ref (G.1 161)), (1, .int x1), (2, .int x2)] [] s
  unfold fM_divide at h
  refine wb_aload_n 0 hX dX11_divide_0 rfl (pq := 1) rfl ?_
  refine wb_iconst (v := iI (0)) hX dX11_divide_1 rfl (pq := 2) rfl ?_
  refine wb_putI hX fp_1518 sh_161 rfl dX11_divide_2 rfl rfl (pq := 5) rfl ?_
  refine wb_mem (fun s_1 es_1 => ?_)
  have h := nmM_s h s_1 es_1
  refine wb_aload_n 0 hX dX11_divide_5 rfl (pq := 6) rfl ?_
  refine wb_iload_n 1 hX dX11_divide_6 rfl (pq := 7) rfl ?_
  obtain ⟨q_3, hc_2, h⟩ := bind_s h
  refine wb_callVi (r0 := q_3) (s1 := s_1) [.int x1] hX sh_161 ml_1170 (tM_isFarm hc_2) (by decide) rfl rfl (Nat.le_of_ble_eq_true rfl) dX11_divide_7 (pq := 10) rfl ?_
  refine wb_if_eq (tgt := 35) hX dX11_divide_10 (by decide) (fun c_4 => ?_) (pq := 13) rfl (fun c_4 => ?_)
  · have h := ite_t c_4 h
    refine wb_sub [] (loc' := []) rfl ?_
    exact tM_divide_J35 hX hQ hN h
  · have h := ite_f c_4 h
    refine wb_iload_n 2 hX dX11_divide_13 rfl (pq := 14) rfl ?_
    refine wb_aload_n 0 hX dX11_divide_14 rfl (pq := 15) rfl ?_
    refine wb_getR hX fl_1524 sh_161 rfl dX11_divide_15 (pq := 18) rfl ?_
    refine wb_iload_n 1 hX dX11_divide_18 rfl (pq := 19) rfl ?_
    obtain ⟨hi_5, h⟩ := chk_some h
    refine wb_iald hX sh_165 hi_5 dX11_divide_19 (pq := 20) rfl ?_
    refine wb_iconst (v := iI (-1)) hX dX11_divide_20 rfl (pq := 21) rfl ?_
    refine wb_ixor hX dX11_divide_21 (pq := 22) rfl ?_
    refine wb_iand hX dX11_divide_22 (pq := 23) rfl ?_
    refine wb_if_ne (tgt := 35) hX dX11_divide_23 (by decide) (pq := 26) rfl (fun c_6 => ?_) (fun c_6 => ?_)
    · have h := ite_t c_6 h
      refine wb_aload_n 0 hX dX11_divide_26 rfl (pq := 27) rfl ?_
      refine wb_getI hX fl_1521 sh_161 rfl dX11_divide_27 (pq := 30) rfl ?_
      refine wb_bipush (v := iI (9)) hX dX11_divide_30 (by decide) (pq := 32) rfl ?_
      refine wb_icmp_ne (tgt := 37) hX dX11_divide_32 (by decide) (pq := 35) rfl (fun c_7 => ?_) (fun c_7 => ?_)
      · have h := ite_t c_7 h
        refine wb_sub [] (loc' := []) rfl ?_
        exact tM_divide_J35 hX hQ hN h
      · have h := ite_f c_7 h
        refine wb_aload_n 0 hX dX11_divide_37 rfl (pq := 38) rfl ?_
        refine wb_getI hX fl_1521 sh_161 rfl dX11_divide_38 (pq := 41) rfl ?_
        refine wb_istore_n (loc' := [(3, .int (s_1.1 161 3)), (0, .ref (G.1 161)), (1, .int x1), (2, .int x2)]) hX hN dX11_divide_41 (by decide) rfl (pq := 42) rfl ?_
        refine wb_aload_n 1 hX dX11_divide_42 rfl (pq := 43) rfl ?_
        refine wb_dup hX dX11_divide_43 rfl (pq := 44) rfl ?_
        refine wb_getI hX fl_1521 sh_161 rfl dX11_divide_44 (pq := 47) rfl ?_
        refine wb_iconst (v := iI (1)) hX dX11_divide_47 rfl (pq := 48) rfl ?_
        refine wb_iadd hX dX11_divide_48 (pq := 49) rfl ?_
        refine wb_putI hX fp_1521 sh_161 rfl dX11_divide_49 rfl rfl (pq := 52) rfl ?_
        refine wb_mem (fun s_8 es_8 => ?_)
        have h := nmM_s h s_8 es_8
        refine wb_aload_n 1 hX dX11_divide_52 rfl (pq := 53) rfl ?_
        refine wb_getR hX fl_1522 sh_161 rfl dX11_divide_53 (pq := 56) rfl ?_
        refine wb_iload_n 0 hX dX11_divide_56 rfl (pq := 57) rfl ?_
        refine wb_aload_n 1 hX dX11_divide_57 rfl (pq := 58) rfl ?_
        refine wb_getR hX fl_1522 sh_161 rfl dX11_divide_58 (pq := 61) rfl ?_
        refine wb_iload_n 2 hX dX11_divide_61 rfl (pq := 62) rfl ?_
        refine wb_iald hX sh_163 hi_5 dX11_divide_62 (pq := 63) rfl ?_
        refine wb_iconst (v := iI (2)) hX dX11_divide_63 rfl (pq := 64) rfl ?_
        refine wb_idiv hX dX11_divide_64 (by decide) (pq := 65) rfl ?_
        obtain ⟨hi_9, h⟩ := chk_some h
        refine wb_iast hX sh_163 hi_9 dX11_divide_65 (pq := 66) rfl ?_
        refine wb_mem (fun s_10 es_10 => ?_)
        have h := nmM_s h s_10 es_10
        refine wb_aload_n 1 hX dX11_divide_66 rfl (pq := 67) rfl ?_
        refine wb_getR hX fl_1522 sh_161 rfl dX11_divide_67 (pq := 70) rfl ?_
        refine wb_iload_n 2 hX dX11_divide_70 rfl (pq := 71) rfl ?_
        refine wb_dup2 hX dX11_divide_71 rfl rfl (pq := 72) rfl ?_
        refine wb_iald hX sh_163 hi_5 dX11_divide_72 (pq := 73) rfl ?_
        refine wb_aload_n 1 hX dX11_divide_73 rfl (pq := 74) rfl ?_
        refine wb_getR hX fl_1522 sh_161 rfl dX11_divide_74 (pq := 77) rfl ?_
        refine wb_iload_n 0 hX dX11_divide_77 rfl (pq := 78) rfl ?_
        refine wb_iald hX sh_163 hi_9 dX11_divide_78 (pq := 79) rfl ?_
        refine wb_isub hX dX11_divide_79 (pq := 80) rfl ?_
        refine wb_iast hX sh_163 hi_5 dX11_divide_80 (pq := 81) rfl ?_
        refine wb_mem (fun s_11 es_11 => ?_)
        have h := nmM_s h s_11 es_11
        refine wb_aload_n 1 hX dX11_divide_81 rfl (pq := 82) rfl ?_
        refine wb_getR hX fl_1523 sh_161 rfl dX11_divide_82 (pq := 85) rfl ?_
        refine wb_iload_n 0 hX dX11_divide_85 rfl (pq := 86) rfl ?_
        refine wb_iconst (v := iI (0)) hX dX11_divide_86 rfl (pq := 87) rfl ?_
        refine wb_iast hX sh_164 hi_9 dX11_divide_87 (pq := 88) rfl ?_
        refine wb_mem (fun s_12 es_12 => ?_)
        have h := nmM_s h s_12 es_12
        refine wb_aload_n 1 hX dX11_divide_88 rfl (pq := 89) rfl ?_
        refine wb_getR hX fl_1526 sh_161 rfl dX11_divide_89 (pq := 92) rfl ?_
        refine wb_iload_n 0 hX dX11_divide_92 rfl (pq := 93) rfl ?_
        refine wb_iconst (v := iI (0)) hX dX11_divide_93 rfl (pq := 94) rfl ?_
        refine wb_iast hX sh_167 hi_9 dX11_divide_94 (pq := 95) rfl ?_
        refine wb_mem (fun s_13 es_13 => ?_)
        have h := nmM_s h s_13 es_13
        refine wb_aload_n 1 hX dX11_divide_95 rfl (pq := 96) rfl ?_
        refine wb_getR hX fl_1524 sh_161 rfl dX11_divide_96 (pq := 99) rfl ?_
        refine wb_iload_n 0 hX dX11_divide_99 rfl (pq := 100) rfl ?_
        refine wb_iconst (v := iI (0)) hX dX11_divide_100 rfl (pq := 101) rfl ?_
        refine wb_iast hX sh_165 hi_9 dX11_divide_101 (pq := 102) rfl ?_
        refine wb_mem (fun s_14 es_14 => ?_)
        have h := nmM_s h s_14 es_14
        refine wb_iconst (v := iI (0)) hX dX11_divide_102 rfl (pq := 103) rfl ?_
        refine wb_istore (loc' := [(4, .int (iI (0))), (3, .int (s_1.1 161 3)), (0, .ref (G.1 161)), (1, .int x1), (2, .int x2)]) hX hN dX11_divide_103 (by decide) rfl (pq := 105) rfl ?_
        refine wb_sub [2, 3, 4, 1, 0] (loc' := [(0, .ref (G.1 161)), (1, .int x1), (2, .int x2), (3, .int (s_1.1 161 3)), (4, .int (iI (0)))]) rfl ?_
        exact tM_divide_L105 hX hQ hN 100000 _ _ h
    · have h := ite_f c_6 h
      refine wb_sub [] (loc' := []) rfl ?_
      exact tM_divide_J35 hX hQ hN h
