theorem op6 : op_6 wInv := fun s a1 a2 hI => by
  obtain ⟨n, T, S, D, SP, ap, fi, bk, G, w, pl, kp, tx, se, l, hv, hw, hm, r1, r2, hl⟩ := id hI
  obtain ⟨x, x1, x2, rfl⟩ := exI a1
  obtain ⟨z, z1, z2, rfl⟩ := exI a2
  have mE : ∀ u : wM, fM_law u (iI x) (iI z) = if ¬ (0 ≤ x ∧ x ≤ 2) then some (iI (-1), wsI u 161 0 (iI 0)) else if ¬ ((if x = 1 then 0 else 1) ≤ z ∧ z ≤ 9) then some (iI (-1), wsI u 161 0 (iI 0)) else chk (iI x) 3 (some ((wsI u 161 0 (iI 0)).1 168 (iI x).toNatClampNeg, wsI (wsI u 161 0 (iI 0)) 168 (iI x).toNatClampNeg (iI z))) := fun u => by
    unfold fM_law fM_law_J29 fM_law_J38
    simp only [nmM]
    rw [M_in, Option.bind_some, M_in, Option.bind_some, M_in, Option.bind_some, iL x1 x2, iL z1 z2]
    simp only [bI_0, decide_eq_false_iff_not, iI_eq x1 x2 (show (-2147483648 : Int) ≤ 1 by omega) (show (1 : Int) ≤ 2147483647 by omega), show (0 : Int64).toInt = 0 from rfl, show (1 : Int64).toInt = 1 from rfl, show (2 : Int64).toInt = 2 from rfl, show (9 : Int64).toInt = 9 from rfl]
    by_cases h : x = 1
    · simp only [h, if_true]
    · simp only [h, if_false]
  have wE : fW_law s (iI x) (iI z) = if ¬ (0 ≤ x ∧ x ≤ 2) then some (iI (-1), s) else if ¬ ((if x = 1 then 0 else 1) ≤ z ∧ z ≤ 9) then some (iI (-1), s) else chk (iI x) 3 (some (s.1 11 (iI x).toNatClampNeg, wsI s 11 (iI x).toNatClampNeg (iI z))) := by
    unfold fW_law fW_law_J20 fW_law_J28
    rw [W_isWithin x1 x2 (by omega) (by omega) (by omega) (by omega), Option.bind_some, W_isWithin z1 z2 (by omega) (by omega) (by omega) (by omega), Option.bind_some, W_isWithin z1 z2 (by omega) (by omega) (by omega) (by omega), Option.bind_some]
    simp only [bI_0, decide_eq_false_iff_not, nmM, iI_eq x1 x2 (show (-2147483648 : Int) ≤ 1 by omega) (show (1 : Int) ≤ 2147483647 by omega)]
    by_cases h : x = 1
    · simp only [h, if_true]
    · simp only [h, if_false]
  rw [wE]
  by_cases c : 0 ≤ x ∧ x ≤ 2
  · by_cases c2 : (if x = 1 then 0 else 1) ≤ z ∧ z ≤ 9
    · obtain ⟨a, rfl⟩ : ∃ g : Nat, x = g := ⟨x.toNat, by omega⟩
      rw [if_neg (by simpa using c), if_neg (by simpa using c2), chk_in (by omega) (by omega) (by omega), iI_natc (by omega)]
      have lo : Lo s (wsI s 11 a (iI z)) := fun k hk => rd_ne (by omega)
      have hm1 := hm.lo lo
      have ht := hm1.1.thr (v := iI 0)
      have hc2 : (if (a : Int) = 1 then (0 : Int) else 1) = if a = 1 then 0 else 1 := by split <;> split <;> omega
      rw [hc2] at c2
      have hwv : CV n T S D SP (if a = 0 then z else ap) (if a = 1 then z else fi) (if a = 2 then z else bk) := by
        obtain ⟨g1, g2, g3, g4, g5, g6, g7, g8⟩ := hv.1
        refine ⟨g1, g2, g3, g4, g5, ?_, ?_, ?_⟩
        · split
          · rw [if_neg (by omega)] at c2; omega
          · exact g6
        · split
          · rw [if_pos (by omega)] at c2; omega
          · exact g7
        · split
          · rw [if_neg (by omega)] at c2; omega
          · exact g8
      have hcw : CW (wsI s 11 a (iI z)) n T S D SP (if a = 0 then z else ap) (if a = 1 then z else fi) (if a = 2 then z else bk) := by
        obtain ⟨h1, h2, h3, h4, h5, h6, h7⟩ := hw.1
        refine ⟨h1.of (by rw [rd_ne (by decide)]) (rd_ne (by decide)), h2.of (rd_ne (by decide)), h3.of (rd_ne (by decide)), ?_, ?_, ?_, fun j hj => by rw [rd_ne (by decide), rd_ne (by decide)]; exact h7 j hj⟩
        · rw [rd_if, h4]; by_cases e : a = 0
          · rw [if_pos e.symm, if_pos e]
          · rw [if_neg (fun h => e h.symm), if_neg e]
        · rw [rd_if, h5]; by_cases e : a = 1
          · rw [if_pos e.symm, if_pos e]
          · rw [if_neg (fun h => e h.symm), if_neg e]
        · rw [rd_if, h6]; by_cases e : a = 2
          · rw [if_pos e.symm, if_pos e]
          · rw [if_neg (fun h => e h.symm), if_neg e]
      have hcm : CM (wsI (wsI (wsI s 11 a (iI z)) 161 0 (iI 0)) 168 a (iI z)) n T S D SP (if a = 0 then z else ap) (if a = 1 then z else fi) (if a = 2 then z else bk) := by
        obtain ⟨h1, h2, h3, h4, h5, h6, h7⟩ := ht
        refine ⟨h1.of (by rw [rd_ne (by decide)]) (rd_ne (by decide)) (rd_ne (by decide)), h2.of (rd_ne (by decide)), h3.of (rd_ne (by decide)), ?_, ?_, ?_, fun j hj => by rw [rd_ne (by decide), rd_ne (by decide)]; exact h7 j hj⟩
        · rw [rd_if, h4]; by_cases e : a = 0
          · rw [if_pos e.symm, if_pos e]
          · rw [if_neg (fun h => e h.symm), if_neg e]
        · rw [rd_if, h5]; by_cases e : a = 1
          · rw [if_pos e.symm, if_pos e]
          · rw [if_neg (fun h => e h.symm), if_neg e]
        · rw [rd_if, h6]; by_cases e : a = 2
          · rw [if_pos e.symm, if_pos e]
          · rw [if_neg (fun h => e h.symm), if_neg e]
      have hval : (wsI (wsI s 11 a (iI z)) 161 0 (iI 0)).1 168 a = s.1 11 a := by
        have : a = 0 ∨ a = 1 ∨ a = 2 := by omega
        rcases this with rfl | rfl | rfl
        · rw [ht.2.2.2.1, hw.1.2.2.2.1]
        · rw [ht.2.2.2.2.1, hw.1.2.2.2.2.1]
        · rw [ht.2.2.2.2.2.1, hw.1.2.2.2.2.2.1]
      refine ⟨s.1 11 a, _, wsI (wsI (wsI s 11 a (iI z)) 161 0 (iI 0)) 168 a (iI z), rfl, ?_, wInv_mk (s1 := wsI s 11 a (iI z)) ⟨hwv, hv.2⟩ (hw.cw hcw (hw.2.1.of (rd_ne (by decide)) (by rw [rd_ne (by decide)])) (fun k hk => rd_ne (by omega))) (fun k hk => by rw [rd_ne (by omega), rd_ne (by omega)]) (hm1.cm2 hcm (hm1.2.1.of (by rw [rd_ne (by decide), rd_ne (by decide)]) (by rw [rd_ne (by decide), rd_of (by decide)])) (fun k j hk => ?_)) (r1.of (by rw [rd_ne (by decide)]) (rd_ne (by decide))) ((r2.lo lo).of (by rw [rd_ne (by decide), rd_of (by decide)]) (by rw [rd_ne (by decide), rd_ne (by decide)])) hl⟩
      · rw [mE, if_neg (by simpa using c), if_neg (by rw [hc2]; simpa using c2), chk_in (by omega) (by omega) (by omega), iI_natc (by omega), hval]
      · rw [rd_ne (by omega)]
        by_cases e : k = 161
        · subst e; rw [rd_of (by omega)]
        · rw [rd_ne e]
    · rw [if_neg (by simpa using c), if_pos c2]
      refine ⟨iI (-1), s, wsI s 161 0 (iI 0), rfl, ?_, wInv_thr hI⟩
      rw [mE, if_neg (by simpa using c), if_pos c2]
  · rw [if_pos c]
    refine ⟨iI (-1), s, wsI s 161 0 (iI 0), rfl, ?_, wInv_thr hI⟩
    rw [mE, if_pos c]
theorem op1 : op_1 wInv := fun s a1 hI => by
  obtain ⟨n, T, S, D, SP, ap, fi, bk, G, w, pl, kp, tx, se, l, hv, hw, hm, r1, r2, hl⟩ := id hI
  obtain ⟨x, x1, x2, rfl⟩ := exI a1
  have ht := hv.2.2.2.1
  have w5 := hw.2.2.2.2.1
  have h80 := ht.1
  have wE : fW_end s (iI x) = if 0 ≤ x ∧ x ≤ tx.length then some (iI 1, wsI s 1 1 (iI x)) else some (iI 0, s) := by
    unfold fW_end fTx_cut fTx_cut_J12
    rw [w5.1]
    simp only [iI_lt x1 x2 (show (-2147483648 : Int) ≤ 0 by omega) (show (0 : Int) ≤ 2147483647 by omega), iI_le x1 x2 (show (-2147483648 : Int) ≤ (tx.length : Int) by omega) (show (tx.length : Int) ≤ 2147483647 by omega), nmM]
    by_cases c1 : x < 0
    · rw [if_pos c1, if_neg (by omega), Option.bind_some, chkZ_0]
    · by_cases c2 : x ≤ tx.length
      · rw [if_neg c1, if_pos c2, if_pos (by omega), Option.bind_some, chkZ_1]
      · rw [if_neg c1, if_neg c2, if_neg (by omega), Option.bind_some, chkZ_0]
  have mE : ∀ u, HM u n T S D SP ap fi bk G w pl kp tx se → fM_end u (iI x) = if 0 ≤ x ∧ x ≤ tx.length then some (iI 1, wsI (wsI u 161 0 (iI 0)) 161 12 (iI x)) else some (iI 0, wsI u 161 0 (iI 0)) := fun u hu => by
    unfold fM_end
    simp only [nmM]
    rw [M_in, Option.bind_some, rd_of (by decide), hu.2.2.2.2.1.1, iL x1 x2, iL (by omega) (by omega)]
    simp only [bI_0, decide_eq_false_iff_not, show (0 : Int64).toInt = 0 from rfl]
    by_cases c1 : 0 ≤ x ∧ x ≤ tx.length
    · rw [if_neg (by simpa using c1), if_pos c1]
    · rw [if_pos c1, if_neg c1]
  rw [wE]
  by_cases c : 0 ≤ x ∧ x ≤ tx.length
  · obtain ⟨a, rfl⟩ : ∃ g : Nat, x = g := ⟨x.toNat, by omega⟩
    have lo : Lo s (wsI s 1 1 (iI (a : Int))) := fun k hk => rd_ne (by omega)
    have hm1 := hm.lo lo
    rw [if_pos c]
    refine ⟨iI 1, _, wsI (wsI (wsI s 1 1 (iI (a : Int))) 161 0 (iI 0)) 161 12 (iI (a : Int)), rfl, by rw [mE _ hm1, if_pos c], wInv_mk (s1 := wsI s 1 1 (iI (a : Int))) (tx := tx.take a) ⟨hv.1, hv.2.1, hv.2.2.1, ⟨by simp; omega, fun c hc => ht.2 c (List.mem_of_mem_take hc)⟩, hv.2.2.2.2⟩ (hw.toTx (fun k h1 h2 => rd_ne h1) ⟨by rw [rd_at]; simp; congr 1; omega, fun i hi => ?_⟩) (fun k hk => by rw [rd_ne (by omega), rd_ne (by omega)]) (hm1.toTx (fun k j h1 h2 => ?_) ⟨by rw [rd_at]; simp; congr 1; omega, fun i hi => ?_⟩) (r1.of (by rw [rd_ne (by decide)]) (rd_ne (by decide))) ((r2.lo lo).of (by rw [rd_of (by decide), rd_of (by decide)]) (by rw [rd_ne (by decide), rd_ne (by decide)])) hl⟩
    · rw [rd_ne (by decide)]; simp at hi ⊢; exact w5.2 i (by omega)
    · by_cases e : k = 161
      · subst e; rw [rd_of (by omega), rd_of (by omega)]
      · rw [rd_ne e, rd_ne e]
    · rw [rd_ne (by decide), rd_ne (by decide)]; simp at hi ⊢; exact hm1.2.2.2.2.1.2 i (by omega)
  · rw [if_neg c]
    exact ⟨iI 0, s, wsI s 161 0 (iI 0), rfl, by rw [mE s hm, if_neg c], wInv_thr hI⟩
theorem op3 : op_3 wInv := fun s a1 a2 hI => by
  obtain ⟨n, T, S, D, SP, ap, fi, bk, G, w, pl, kp, tx, se, l, hv, hw, hm, r1, r2, hl⟩ := id hI
  obtain ⟨x, x1, x2, rfl⟩ := exI a1
  obtain ⟨y, y1, y2, rfl⟩ := exI a2
  have hn := hv.1.1.1
  have hap : 0 ≤ ap ∧ ap ≤ 9 := by have := hv.1.2.2.2.2.2.1; omega
  have hm1 := hm.1.thr (v := iI 0)
  have hP : (wsI s 161 0 (iI 0)).1 167 = s.1 10 := by rw [rd_ne (by decide), hm.2.1.1, hw.2.1.1]
  have fin0 : fW_farm s (iI x) (iI y) = some none → fM_farm s (iI x) (iI y) = some (iI 0, wsI (wsI s 161 0 (iI 0)) 161 0 (iI 1)) → ∃ (kk rb : Int32) (s1 s2 : wM), fL_farm s (iI x) (iI y) = some (kk, s1) ∧ fM_farm s1 (iI x) (iI y) = some (rb, s2) ∧ fM_thrown s2 = some kk ∧ (kk = iI 0 → s2.2 196 0 = rb.toInt64) ∧ wInv s2 := fun e1 e2 => by
    refine ⟨iI 1, iI 0, s, _, ?_, e2, ?_, fun h => absurd h (by decide), wInv_thr (wInv_thr hI)⟩
    · unfold fL_farm; rw [e1]; rfl
    · unfold fM_thrown; rw [rd_at]
  have fin1 : ∀ v : Int32, fW_farm s (iI x) (iI y) = some (some v) → (∀ u : wM, u.1 = s.1 → fM_farm u (iI x) (iI y) = some (v, wsI u 161 0 (iI 0))) → ∃ (kk rb : Int32) (s1 s2 : wM), fL_farm s (iI x) (iI y) = some (kk, s1) ∧ fM_farm s1 (iI x) (iI y) = some (rb, s2) ∧ fM_thrown s2 = some kk ∧ (kk = iI 0 → s2.2 196 0 = rb.toInt64) ∧ wInv s2 := fun v e1 e2 => by
    refine ⟨iI 0, v, wsL s 196 0 v.toInt64, _, ?_, e2 _ rfl, ?_, fun h => ?_, wInv_thr (wInv_L hI)⟩
    · unfold fL_farm; rw [e1]; rfl
    · unfold fM_thrown; rw [rd_at]
    · rw [rd_2]; simp [wsL]
  have hmu : ∀ u : wM, u.1 = s.1 → HM u n T S D SP ap fi bk G w pl kp tx se := fun u hu => hm.lo fun k _ => by rw [hu]
  have mE : ∀ u : wM, u.1 = s.1 → fM_farm u (iI x) (iI y) = if ¬ (0 ≤ x ∧ x < n) then some (iI 0, wsI (wsI u 161 0 (iI 0)) 161 0 (iI 1)) else if ¬ (0 ≤ y ∧ y ≤ 4) then some (iI 0, wsI (wsI u 161 0 (iI 0)) 161 0 (iI 1)) else if iI y = iI 0 then chk (iI x) 9 (some ((wsI u 161 0 (iI 0)).1 163 (iI x).toNatClampNeg, wsI u 161 0 (iI 0))) else if iI y = iI 1 then chk (iI x) 9 (some ((wsI u 161 0 (iI 0)).1 164 (iI x).toNatClampNeg, wsI u 161 0 (iI 0))) else if iI y = iI 2 then chk (iI x) 9 (some ((wsI u 161 0 (iI 0)).1 165 (iI x).toNatClampNeg, wsI u 161 0 (iI 0))) else if iI y = iI 3 then (fM_evenWith (wsI u 161 0 (iI 0)) 163 (iI x)).bind (fun q => some (q, wsI u 161 0 (iI 0))) else chk (iI x) 9 (some ((wsI u 161 0 (iI 0)).1 167 (iI x).toNatClampNeg, wsI u 161 0 (iI 0))) := fun u hu => by
    have hm1 := (hmu u hu).1.thr (v := iI 0)
    unfold fM_farm fM_farm_J25 fM_refuse
    simp only [nmM, Option.bind_some]
    rw [M_isFarm hn hm1.1 x1 x2, Option.bind_some, M_in, Option.bind_some, iL y1 y2]
    simp only [bI_0, decide_eq_false_iff_not]
    rfl
  by_cases c : 0 ≤ x ∧ x < n
  · obtain ⟨a, rfl⟩ : ∃ g : Nat, x = g := ⟨x.toNat, by omega⟩
    have wE : fW_farm s (iI (a : Int)) (iI y) = if iI y = iI 0 then some (some (iI (D a))) else if iI y = iI 1 then some (some (iI (SP a))) else if iI y = iI 2 then some (some (iI ((bt (T a) n : Nat) : Int))) else if iI y = iI 3 then some (some (iI ((bt (ev T ap D a) n : Nat) : Int))) else if iI y = iI 4 then some (some (s.1 10 a)) else some none := by
      unfold fW_farm
      rw [Land_has hn hw.1.1 x1 x2, Option.bind_some]
      simp only [bI_0, decide_eq_false_iff_not]
      rw [if_neg (by simpa using c), Land_touching hv.1.1 hw.1.1 (by omega), Land_evenWith hv.1.1 hw.1.1 hw.1.2.1 hv.1.2.1 hw.1.2.2.2.1 hap (by omega), iI_natc (by omega), show s.1 8 = _ from hw.1.2.1, show s.1 9 = _ from hw.1.2.2.1]
      simp only [chk_in (a := (a : Int)) (n := 9) (k := some (some (iI (D a)))) (by omega) (by omega) (by omega), chk_in (a := (a : Int)) (n := 9) (k := some (some (iI (SP a)))) (by omega) (by omega) (by omega), chk_in (a := (a : Int)) (n := 9) (k := some (some (s.1 10 a))) (by omega) (by omega) (by omega), Option.bind_some]
    have mV : ∀ u : wM, u.1 = s.1 → 0 ≤ y ∧ y ≤ 4 → fM_farm u (iI (a : Int)) (iI y) = if iI y = iI 0 then some (iI (D a), wsI u 161 0 (iI 0)) else if iI y = iI 1 then some (iI (SP a), wsI u 161 0 (iI 0)) else if iI y = iI 2 then some (iI ((bt (T a) n : Nat) : Int), wsI u 161 0 (iI 0)) else if iI y = iI 3 then some (iI ((bt (ev T ap D a) n : Nat) : Int), wsI u 161 0 (iI 0)) else some (s.1 10 a, wsI u 161 0 (iI 0)) := fun u hu hy => by
      have hm1 := (hmu u hu).1.thr (v := iI 0)
      have h167 : (wsI u 161 0 (iI 0)).1 167 = s.1 10 := by rw [rd_ne (by decide), hu, hm.2.1.1, hw.2.1.1]
      rw [mE u hu, if_neg (by simpa using c), if_neg (by simpa using hy), iI_natc (by omega), show (wsI u 161 0 (iI 0)).1 163 = _ from hm1.2.1, show (wsI u 161 0 (iI 0)).1 164 = _ from hm1.2.2.1, hm1.1.2.1 a (by omega), bt_T hv.1.1, h167, M_evenWith hv.1.1 hm1.1 hm1.2.1 hv.1.2.1 hm1.2.2.2.1 hap (by omega), Option.bind_some]
      simp only [chk_in (a := (a : Int)) (n := 9) (by omega) (by omega) (by omega)]
    by_cases h0 : y = 0
    · subst h0
      exact fin1 _ (by rw [wE, if_pos rfl]) (fun u hu => by rw [mV u hu (by omega), if_pos rfl])
    by_cases h1 : y = 1
    · subst h1
      exact fin1 _ (by rw [wE, if_neg (by decide), if_pos rfl]) (fun u hu => by rw [mV u hu (by omega), if_neg (by decide), if_pos rfl])
    by_cases h2 : y = 2
    · subst h2
      exact fin1 _ (by rw [wE, if_neg (by decide), if_neg (by decide), if_pos rfl]) (fun u hu => by rw [mV u hu (by omega), if_neg (by decide), if_neg (by decide), if_pos rfl])
    by_cases h3 : y = 3
    · subst h3
      exact fin1 _ (by rw [wE, if_neg (by decide), if_neg (by decide), if_neg (by decide), if_pos rfl]) (fun u hu => by rw [mV u hu (by omega), if_neg (by decide), if_neg (by decide), if_neg (by decide), if_pos rfl])
    by_cases h4 : y = 4
    · subst h4
      exact fin1 _ (by rw [wE, if_neg (by decide), if_neg (by decide), if_neg (by decide), if_neg (by decide), if_pos rfl]) (fun u hu => by rw [mV u hu (by omega), if_neg (by decide), if_neg (by decide), if_neg (by decide), if_neg (by decide)])
    · refine fin0 ?_ ?_
      · rw [wE, if_neg (by rw [iI_eq y1 y2 (by omega) (by omega)]; exact h0), if_neg (by rw [iI_eq y1 y2 (by omega) (by omega)]; exact h1), if_neg (by rw [iI_eq y1 y2 (by omega) (by omega)]; exact h2), if_neg (by rw [iI_eq y1 y2 (by omega) (by omega)]; exact h3), if_neg (by rw [iI_eq y1 y2 (by omega) (by omega)]; exact h4)]
      · rw [mE s rfl, if_neg (by simpa using c), if_pos (by omega)]
  · refine fin0 ?_ ?_
    · unfold fW_farm
      rw [Land_has hn hw.1.1 x1 x2, Option.bind_some]
      simp only [bI_0, decide_eq_false_iff_not]
      rw [if_pos c]
    · rw [mE s rfl, if_pos c]
theorem op47 : op_47 wInv := fun s a1 hI => by
  obtain ⟨n, T, S, D, SP, ap, fi, bk, G, w, pl, kp, tx, se, l, hv, hw, hm, r1, r2, hl⟩ := id hI
  obtain ⟨x, x1, x2, rfl⟩ := exI a1
  have mE : ∀ u : wM, u.1 = s.1 → fM_row u (iI x) = if ¬ (0 ≤ x ∧ x ≤ (l.length : Int) - 1) then some (iI 0, wsI (wsI u 161 0 (iI 0)) 161 0 (iI 1)) else chk (iI x) 24 (some ((wsI u 161 0 (iI 0)).1 162 (iI x).toNatClampNeg, wsI u 161 0 (iI 0))) := fun u hu => by
    unfold fM_row
    simp only [nmM]
    rw [M_in, Option.bind_some, iL x1 x2, rd_of (by decide), hu, r2.1, iI_sub, iL (by omega) (by omega)]
    simp only [bI_0, decide_eq_false_iff_not]
    rfl
  have wE : fW_row s (iI x) = if x < 0 then some none else if x < l.length then chk (iI x) 10 (some (some (s.1 33 (iI x).toNatClampNeg))) else some none := by
    unfold fW_row fW_row_J15
    rw [r1.1]
    simp only [iI_lt x1 x2 (show (-2147483648 : Int) ≤ 0 by omega) (show (0 : Int) ≤ 2147483647 by omega), iI_lt x1 x2 (show (-2147483648 : Int) ≤ (l.length : Int) by omega) (show (l.length : Int) ≤ 2147483647 by omega)]
  by_cases c : 0 ≤ x ∧ x ≤ (l.length : Int) - 1
  · obtain ⟨a, rfl⟩ : ∃ g : Nat, x = g := ⟨x.toNat, by omega⟩
    have ha : a < l.length := by omega
    refine ⟨iI 0, l[a], wsL s 196 0 (l[a]).toInt64, wsI (wsL s 196 0 (l[a]).toInt64) 161 0 (iI 0), ?_, ?_, ?_, fun h => ?_, wInv_thr (wInv_L hI)⟩
    · unfold fL_row
      rw [wE, if_neg (by omega), if_pos (by omega), chk_in (by omega) (by omega) (by omega), iI_natc (by omega), r1.2 a ha]; rfl
    · rw [mE (wsL s 196 0 (l[a]).toInt64) rfl, if_neg (by simpa using c), chk_in (by omega) (by omega) (by omega), iI_natc (by omega), rd_ne (by decide)]
      show some (s.1 162 a, _) = _
      rw [r2.2 a ha]
    · unfold fM_thrown; rw [rd_at]
    · rw [rd_2]; simp [wsL]
  · refine ⟨iI 1, iI 0, s, wsI (wsI s 161 0 (iI 0)) 161 0 (iI 1), ?_, by rw [mE s rfl, if_pos c], by unfold fM_thrown; rw [rd_at], fun h => absurd h (by decide), wInv_thr (wInv_thr hI)⟩
    unfold fL_row
    rw [wE]
    by_cases c1 : x < 0
    · rw [if_pos c1]; rfl
    · rw [if_neg c1, if_neg (by omega)]; rfl
