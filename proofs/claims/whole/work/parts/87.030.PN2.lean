theorem op4 : op_4 wInv := fun s a1 a2 hI => by
  obtain ⟨n, T, S, D, SP, ap, fi, bk, G, w, pl, kp, tx, se, l, hv, hw, hm, r1, r2, hl⟩ := id hI
  obtain ⟨x, x1, x2, rfl⟩ := exI a1
  obtain ⟨y, y1, y2, rfl⟩ := exI a2
  have hn := hv.1.1.1
  have hm1 := hm.1.thr (v := iI 0)
  unfold fW_stone fW_stone_J35 fM_stone fM_stone_J45
  simp only [nmM]
  rw [Land_hasTwo hn hw.1.1 y1 y2 x1 x2, Option.bind_some, M_areTwo hn hm1.1 y1 y2 x1 x2, Option.bind_some]
  simp only [bI_0, decide_eq_false_iff_not]
  by_cases c : 0 ≤ x ∧ x < n ∧ 0 ≤ y ∧ y < n ∧ x ≠ y
  · obtain ⟨b, rfl⟩ : ∃ q : Nat, y = q := ⟨y.toNat, by omega⟩
    obtain ⟨a, rfl⟩ : ∃ g : Nat, x = g := ⟨x.toNat, by omega⟩
    rw [if_neg (by simpa using c), if_neg (by simpa using c), Land_between hw.1.1 (by omega) (by omega), Option.bind_some, chk_in (by omega) (by omega) (by omega), iI_natc (by omega), M_tb hm1.1 (by omega) (by omega), Option.bind_some]
    simp only [between_n hv.1.1, bI_0]
    by_cases hT : T a b = true
    · rw [if_neg (show ¬ T a b = false by rw [hT]; decide), if_neg (show ¬ T a b = false by rw [hT]; decide), iI_mul, iI_add, chk_in (by omega) (by omega) (by omega), iI_ix' (by omega) (by omega), hm1.1.2.2 a b (by omega) (by omega) hT, if_pos hT]
      exact ⟨_, _, rfl, rfl, wInv_thr hI⟩
    · have hT' : T a b = false := by simpa using hT
      rw [if_pos hT', if_pos hT']
      exact ⟨_, _, rfl, rfl, wInv_thr hI⟩
  · rw [if_pos c, if_pos c]
    exact ⟨_, _, rfl, rfl, wInv_thr hI⟩
section MU
variable {s t : wM} {n : Nat} {T : Nat → Nat → Bool} {S : Nat → Nat → Int} {D SP : Nat → Int} {ap fi bk : Int} {G : Nat → Int32} {w v : Int32} {pl : List PI} {kp : Nat → KI} {tx : List Nat} {se : List (Nat × Nat)} {l : List Int32}
theorem CW.join {a b : Nat} {v : Int} (h : CW s n T S D SP ap fi bk) (hn : n ≤ 9) (ha : a < n) (hb : b < n) (hab : a ≠ b) (hv : -1 ≤ v ∧ v ≤ 9) : ∃ t, fLand_join s (iI (a : Int)) (iI (b : Int)) (iI v) = some t ∧ CW t n (uT T a b (decide (0 ≤ v))) (uS S a b (max 0 v)) D SP ap fi bk ∧ Off (fun k _ => k == 12) s t := by
  obtain ⟨h1, h2, h3, h4, h5, h6, h7⟩ := h
  obtain ⟨t, e, hl, o⟩ := W_join h1 (show a < 9 by omega) (show b < 9 by omega) hab hv
  refine ⟨t, e, ⟨hl, h2.of (o.row fun j => rfl), h3.of (o.row fun j => rfl), ?_, ?_, ?_, fun j hj => ?_⟩, o⟩
  · rw [o 11 0 rfl]; exact h4
  · rw [o 11 1 rfl]; exact h5
  · rw [o 11 2 rfl]; exact h6
  · rw [o 14 j rfl, o 15 j rfl]; exact h7 j hj
theorem CM.joins {a b : Nat} {v : Int} (h : CM s n T S D SP ap fi bk) (hn : n ≤ 9) (ha : a < n) (hb : b < n) (hab : a ≠ b) (hv : -1 ≤ v ∧ v ≤ 9) : ∃ t, fM_touchBy s (iI (a : Int)) (iI (b : Int)) (iI v) = some t ∧ CM t n (uT T a b (decide (0 ≤ v))) (uS S a b (max 0 v)) D SP ap fi bk ∧ Off (fun k _ => k == 165 || k == 166) s t := by
  obtain ⟨h1, h2, h3, h4, h5, h6, h7⟩ := h
  obtain ⟨t, e, hl, o⟩ := M_touchBy h1 (show a < 9 by omega) (show b < 9 by omega) hab hv
  refine ⟨t, e, ⟨hl, h2.of (o.row fun j => rfl), h3.of (o.row fun j => rfl), ?_, ?_, ?_, fun j hj => ?_⟩, o⟩
  · rw [o 168 0 rfl]; exact h4
  · rw [o 168 1 rfl]; exact h5
  · rw [o 168 2 rfl]; exact h6
  · rw [o 184 j rfl, o 187 j rfl]; exact h7 j hj
theorem CW.toD {f : Nat} {v : Int} (h : CW s n T S D SP ap fi bk) : CW (wsI s 8 f (iI v)) n T S (uI D f v) SP ap fi bk := by
  obtain ⟨h1, h2, h3, h4, h5, h6, h7⟩ := h
  refine ⟨h1.of (by rw [rd_ne (by decide)]) (rd_ne (by decide)), ?_, h3.of (rd_ne (by decide)), ?_, ?_, ?_, fun j hj => ?_⟩
  · rw [wsI_R h2]; exact wR_Rw
  · rw [rd_ne (by decide)]; exact h4
  · rw [rd_ne (by decide)]; exact h5
  · rw [rd_ne (by decide)]; exact h6
  · rw [rd_ne (by decide), rd_ne (by decide)]; exact h7 j hj
theorem CW.toSP {f : Nat} {v : Int} (h : CW s n T S D SP ap fi bk) : CW (wsI s 9 f (iI v)) n T S D (uI SP f v) ap fi bk := by
  obtain ⟨h1, h2, h3, h4, h5, h6, h7⟩ := h
  refine ⟨h1.of (by rw [rd_ne (by decide)]) (rd_ne (by decide)), h2.of (rd_ne (by decide)), ?_, ?_, ?_, ?_, fun j hj => ?_⟩
  · rw [wsI_R h3]; exact wR_Rw
  · rw [rd_ne (by decide)]; exact h4
  · rw [rd_ne (by decide)]; exact h5
  · rw [rd_ne (by decide)]; exact h6
  · rw [rd_ne (by decide), rd_ne (by decide)]; exact h7 j hj
theorem CM.toD {f : Nat} {v : Int} (h : CM s n T S D SP ap fi bk) : CM (wsI s 163 f (iI v)) n T S (uI D f v) SP ap fi bk := by
  obtain ⟨h1, h2, h3, h4, h5, h6, h7⟩ := h
  refine ⟨h1.of (by rw [rd_ne (by decide)]) (rd_ne (by decide)) (rd_ne (by decide)), ?_, h3.of (rd_ne (by decide)), ?_, ?_, ?_, fun j hj => ?_⟩
  · rw [wsI_R h2]; exact wR_Rw
  · rw [rd_ne (by decide)]; exact h4
  · rw [rd_ne (by decide)]; exact h5
  · rw [rd_ne (by decide)]; exact h6
  · rw [rd_ne (by decide), rd_ne (by decide)]; exact h7 j hj
end MU
theorem op5 : op_5 wInv := fun s a1 a2 a3 hI => by
  obtain ⟨n, T, S, D, SP, ap, fi, bk, G, w, pl, kp, tx, se, l, hv, hw, hm, r1, r2, hl⟩ := id hI
  obtain ⟨x, x1, x2, rfl⟩ := exI a1
  obtain ⟨y, y1, y2, rfl⟩ := exI a2
  obtain ⟨z, z1, z2, rfl⟩ := exI a3
  have hn := hv.1.1.1
  have mE : ∀ u, HM u n T S D SP ap fi bk G w pl kp tx se → fM_touch u (iI x) (iI y) (iI z) = if ¬ (0 ≤ x ∧ x < n ∧ 0 ≤ y ∧ y < n ∧ x ≠ y) then some (iI 0, wsI u 161 0 (iI 0)) else if ¬ (-1 ≤ z ∧ z ≤ 9) then some (iI 0, wsI u 161 0 (iI 0)) else (fM_touchBy (wsI u 161 0 (iI 0)) (iI x) (iI y) (iI z)).bind fun q => some (iI 1, q) := fun u hu => by
    have hm1 := hu.1.thr (v := iI 0)
    unfold fM_touch fM_touch_J28
    simp only [nmM]
    rw [M_areTwo hn hm1.1 y1 y2 x1 x2, Option.bind_some, M_in, Option.bind_some, iL z1 z2]
    simp only [bI_0, decide_eq_false_iff_not]
    rfl
  unfold fW_touch fW_touch_J22
  rw [Land_hasTwo hn hw.1.1 y1 y2 x1 x2, Option.bind_some, W_isWithin z1 z2 (by omega) (by omega) (by omega) (by omega), Option.bind_some]
  simp only [bI_0, decide_eq_false_iff_not]
  by_cases c : 0 ≤ x ∧ x < n ∧ 0 ≤ y ∧ y < n ∧ x ≠ y
  · by_cases c2 : -1 ≤ z ∧ z ≤ 9
    · obtain ⟨b, rfl⟩ : ∃ q : Nat, y = q := ⟨y.toNat, by omega⟩
      obtain ⟨a, rfl⟩ : ∃ g : Nat, x = g := ⟨x.toNat, by omega⟩
      obtain ⟨s1, e1, c1, o1⟩ := hw.1.join hn (a := a) (b := b) (v := z) (by omega) (by omega) (by omega) c2
      have lo : Lo s s1 := fun k hk => o1.row fun j => by simp; omega
      have hm1 := hm.lo lo
      obtain ⟨s2, e2, c3, o2⟩ := (hm1.1.thr (v := iI 0)).joins hn (a := a) (b := b) (v := z) (by omega) (by omega) (by omega) c2
      rw [if_neg (by simpa using c), if_neg (by simpa using c2), e1, Option.bind_some]
      refine ⟨iI 1, s1, s2, rfl, ?_, wInv_mk ⟨⟨hv.1.1.set (by omega) (by omega) (by omega) (by omega), hv.1.2⟩, hv.2⟩ (hw.cw c1 (hw.2.1.of (o1.row fun j => rfl) (o1 7 5 rfl)) (fun k hk => o1.row fun j => by simp; omega)) (fun k hk => ?_) (hm1.cm2 c3 (hm1.2.1.of ?_ ?_) (fun k j hk => ?_)) (r1.of (o1 32 1 rfl) (o1.row fun j => rfl)) ((r2.lo lo).of ?_ ?_) hl⟩
      · rw [mE s1 hm1, if_neg (by simpa using c), if_neg (by simpa using c2), e2, Option.bind_some]
      · rw [o2.row (k := k) (fun j => by simp; omega), rd_ne (by omega)]
      · rw [o2.row (k := 167) (fun j => rfl), rd_ne (by decide)]
      · rw [o2 161 10 rfl, rd_of (by decide)]
      · rw [o2 k j (by simp; omega)]
        by_cases e : k = 161
        · subst e; rw [rd_of (by omega)]
        · rw [rd_ne e]
      · rw [o2 161 1 rfl, rd_of (by decide)]
      · rw [o2.row (k := 162) (fun j => rfl), rd_ne (by decide)]
    · rw [if_neg (by simpa using c), if_pos c2]
      refine ⟨iI 0, s, wsI s 161 0 (iI 0), rfl, ?_, wInv_thr hI⟩
      rw [mE s hm, if_neg (by simpa using c), if_pos c2]
  · rw [if_pos c]
    refine ⟨iI 0, s, wsI s 161 0 (iI 0), rfl, ?_, wInv_thr hI⟩
    rw [mE s hm, if_pos c]
theorem op7 : op_7 wInv := fun s a1 a2 a3 hI => by
  obtain ⟨n, T, S, D, SP, ap, fi, bk, G, w, pl, kp, tx, se, l, hv, hw, hm, r1, r2, hl⟩ := id hI
  obtain ⟨x, x1, x2, rfl⟩ := exI a1
  obtain ⟨y, y1, y2, rfl⟩ := exI a2
  obtain ⟨z, z1, z2, rfl⟩ := exI a3
  have hn := hv.1.1.1
  have mE : ∀ u, HM u n T S D SP ap fi bk G w pl kp tx se → fM_set u (iI x) (iI y) (iI z) = if ¬ (0 ≤ x ∧ x ≤ 1) then some (iI (-1), wsI u 161 0 (iI 0)) else if ¬ (0 ≤ y ∧ y < n) then some (iI (-1), wsI u 161 0 (iI 0)) else if x = 0 then (if ¬ (0 ≤ z ∧ z ≤ 99) then some (iI (-1), wsI u 161 0 (iI 0)) else chk (iI y) 9 (some ((wsI u 161 0 (iI 0)).1 163 (iI y).toNatClampNeg, wsI (wsI u 161 0 (iI 0)) 163 (iI y).toNatClampNeg (iI z)))) else (if ¬ (0 ≤ z ∧ z ≤ 9) then some (iI (-1), wsI u 161 0 (iI 0)) else chk (iI y) 9 (some ((wsI u 161 0 (iI 0)).1 164 (iI y).toNatClampNeg, wsI (wsI u 161 0 (iI 0)) 164 (iI y).toNatClampNeg (iI z)))) := fun u hu => by
    have hm1 := hu.1.thr (v := iI 0)
    unfold fM_set fM_set_J39 fM_set_J45 fM_set_J62
    simp only [nmM]
    rw [M_isFarm hn hm1.1 y1 y2, Option.bind_some, M_in, Option.bind_some, M_in, Option.bind_some, M_in, Option.bind_some, iL x1 x2, iL z1 z2]
    simp only [bI_0, decide_eq_false_iff_not, iI_eq x1 x2 (show (-2147483648 : Int) ≤ 0 by omega) (show (0 : Int) ≤ 2147483647 by omega), show (0 : Int64).toInt = 0 from rfl, show (1 : Int64).toInt = 1 from rfl, show (9 : Int64).toInt = 9 from rfl, show (99 : Int64).toInt = 99 from rfl]
    by_cases h : x = 0
    · simp only [h, if_true]
    · simp only [h, if_false]
  unfold fW_set fW_set_J33 fW_set_J39 fW_set_J62
  rw [Land_has hn hw.1.1 y1 y2, Option.bind_some, W_isWithin x1 x2 (by omega) (by omega) (by omega) (by omega), Option.bind_some, W_isWithin z1 z2 (by omega) (by omega) (by omega) (by omega), Option.bind_some, W_isWithin z1 z2 (by omega) (by omega) (by omega) (by omega), Option.bind_some]
  simp only [bI_0, decide_eq_false_iff_not, nmM, iI_eq x1 x2 (show (-2147483648 : Int) ≤ 0 by omega) (show (0 : Int) ≤ 2147483647 by omega)]
  by_cases c : 0 ≤ y ∧ y < n
  · by_cases c2 : 0 ≤ x ∧ x ≤ 1
    · obtain ⟨a, rfl⟩ : ∃ g : Nat, y = g := ⟨y.toNat, by omega⟩
      rw [if_neg (by simpa using c), if_neg (by simpa using c2)]
      by_cases h0 : x = 0
      · rw [if_pos h0]
        by_cases c3 : 0 ≤ z ∧ z ≤ 99
        · rw [if_neg (by simpa using c3), if_pos h0, chk_in (by omega) (by omega) (by omega), iI_natc (by omega), show s.1 8 = _ from hw.1.2.1]
          have lo : Lo s (wsI s 8 a (iI z)) := fun k hk => rd_ne (by omega)
          have hm1 := hm.lo lo
          refine ⟨iI (D a), _, wsI (wsI (wsI s 8 a (iI z)) 161 0 (iI 0)) 163 a (iI z), rfl, ?_, wInv_mk (s1 := wsI s 8 a (iI z)) ⟨⟨hv.1.1, uI_bd hv.1.2.1 c3, uI_Z9 hv.1.2.2.1 (by omega), hv.1.2.2.2⟩, hv.2⟩ (hw.cw hw.1.toD (hw.2.1.of (rd_ne (by decide)) (by rw [rd_ne (by decide)])) (fun k hk => rd_ne (by omega))) (fun k hk => by rw [rd_ne (by omega), rd_ne (by omega)]) (hm1.cm2 (hm1.1.thr.toD) (hm1.2.1.of (by rw [rd_ne (by decide), rd_ne (by decide)]) (by rw [rd_ne (by decide), rd_of (by decide)])) (fun k j hk => ?_)) (r1.of (by rw [rd_ne (by decide)]) (rd_ne (by decide))) ((r2.lo lo).of (by rw [rd_ne (by decide), rd_of (by decide)]) (by rw [rd_ne (by decide), rd_ne (by decide)])) hl⟩
          · rw [mE _ hm1, if_neg (by simpa using c2), if_neg (by simpa using c), if_pos h0, if_neg (by simpa using c3), chk_in (by omega) (by omega) (by omega), iI_natc (by omega), show (wsI (wsI s 8 a (iI z)) 161 0 (iI 0)).1 163 = _ from hm1.1.thr.2.1]
          · rw [rd_ne (by omega)]
            by_cases e : k = 161
            · subst e; rw [rd_of (by omega)]
            · rw [rd_ne e]
        · rw [if_pos c3]
          refine ⟨iI (-1), s, wsI s 161 0 (iI 0), rfl, ?_, wInv_thr hI⟩
          rw [mE s hm, if_neg (by simpa using c2), if_neg (by simpa using c), if_pos h0, if_pos c3]
      · rw [if_neg h0]
        by_cases c3 : 0 ≤ z ∧ z ≤ 9
        · rw [if_neg (by simpa using c3), if_neg h0, chk_in (by omega) (by omega) (by omega), iI_natc (by omega), show s.1 9 = _ from hw.1.2.2.1]
          have lo : Lo s (wsI s 9 a (iI z)) := fun k hk => rd_ne (by omega)
          have hm1 := hm.lo lo
          refine ⟨iI (SP a), _, wsI (wsI (wsI s 9 a (iI z)) 161 0 (iI 0)) 164 a (iI z), rfl, ?_, wInv_mk (s1 := wsI s 9 a (iI z)) ⟨hv.1.setSP (by omega) c3, hv.2⟩ (hw.cw hw.1.toSP (hw.2.1.of (rd_ne (by decide)) (by rw [rd_ne (by decide)])) (fun k hk => rd_ne (by omega))) (fun k hk => by rw [rd_ne (by omega), rd_ne (by omega)]) (hm1.cm2 (hm1.1.thr.setSP) (hm1.2.1.of (by rw [rd_ne (by decide), rd_ne (by decide)]) (by rw [rd_ne (by decide), rd_of (by decide)])) (fun k j hk => ?_)) (r1.of (by rw [rd_ne (by decide)]) (rd_ne (by decide))) ((r2.lo lo).of (by rw [rd_ne (by decide), rd_of (by decide)]) (by rw [rd_ne (by decide), rd_ne (by decide)])) hl⟩
          · rw [mE _ hm1, if_neg (by simpa using c2), if_neg (by simpa using c), if_neg h0, if_neg (by simpa using c3), chk_in (by omega) (by omega) (by omega), iI_natc (by omega), show (wsI (wsI s 9 a (iI z)) 161 0 (iI 0)).1 164 = _ from hm1.1.thr.2.2.1]
          · rw [rd_ne (by omega)]
            by_cases e : k = 161
            · subst e; rw [rd_of (by omega)]
            · rw [rd_ne e]
        · rw [if_pos c3]
          refine ⟨iI (-1), s, wsI s 161 0 (iI 0), rfl, ?_, wInv_thr hI⟩
          rw [mE s hm, if_neg (by simpa using c2), if_neg (by simpa using c), if_neg h0, if_pos c3]
    · rw [if_neg (by simpa using c), if_pos c2]
      refine ⟨iI (-1), s, wsI s 161 0 (iI 0), rfl, ?_, wInv_thr hI⟩
      rw [mE s hm, if_pos c2]
  · rw [if_pos c]
    refine ⟨iI (-1), s, wsI s 161 0 (iI 0), rfl, ?_, wInv_thr hI⟩
    rw [mE s hm]
    by_cases c2 : 0 ≤ x ∧ x ≤ 1
    · rw [if_neg (by simpa using c2), if_pos c]
    · rw [if_pos c2]
