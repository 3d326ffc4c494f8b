section SEEN
variable {s t : wM} {n : Nat} {T : Nat → Nat → Bool} {S : Nat → Nat → Int} {D SP : Nat → Int} {ap fi bk : Int} {G : Nat → Int32} {w v : Int32} {pl : List PI} {kp : Nat → KI} {tx : List Nat} {se : List (Nat × Nat)} {l : List Int32}
theorem W_seen (hw : HW s n T S D SP ap fi bk G w pl kp tx se) (hse : SeV se) (hr : RW s l) {x y : Int} (x1 : -2147483648 ≤ x) (x2 : x ≤ 2147483647) (y1 : -2147483648 ≤ y) (y2 : y ≤ 2147483647) : ∃ s', fW_seen s (iI x) (iI y) = some (iI (if 1 ≤ x ∧ x ≤ 100 ∧ 0 ≤ y ∧ y ≤ 36 ∧ se.length ≠ 10 then (se.length : Int) + 1 else -1), s') ∧ HW s' n T S D SP ap fi bk G w pl kp tx (if 1 ≤ x ∧ x ≤ 100 ∧ 0 ≤ y ∧ y ≤ 36 ∧ se.length ≠ 10 then se ++ [(x.toNat, y.toNat)] else se) ∧ Lo s s' ∧ RW s' l := by
  have hl10 := hse.1
  have w6 := hw.2.2.2.2.2
  unfold fW_seen fW_seen_J32
  rw [W_isWithin x1 x2 (by omega) (by omega) (by omega) (by omega), Option.bind_some, W_isWithin y1 y2 (by omega) (by omega) (by omega) (by omega), Option.bind_some]
  simp only [bI_0, decide_eq_false_iff_not]
  rw [w6.1]
  by_cases c : 1 ≤ x ∧ x ≤ 100 ∧ 0 ≤ y ∧ y ≤ 36 ∧ se.length ≠ 10
  · obtain ⟨p, rfl⟩ : ∃ p : Nat, x = p := ⟨x.toNat, by omega⟩
    obtain ⟨q, rfl⟩ : ∃ q : Nat, y = q := ⟨y.toNat, by omega⟩
    rw [if_neg (by omega), if_neg (by omega), if_neg (by rw [iI_eq (by omega) (by omega) (by omega) (by omega)]; omega), if_pos c, if_pos c]
    unfold fSi_add fSi_add_J39
    rw [w6.1, if_neg (by rw [iI_le (by omega) (by omega) (by omega) (by omega)]; omega), chk_in (by omega) (by omega) (by omega), iI_natc (by omega)]
    simp only [nmM, rd_ne (show (142 : Nat) ≠ 143 by decide), rd_ne (show (142 : Nat) ≠ 144 by decide), w6.1]
    rw [chk_in (by omega) (by omega) (by omega), Option.bind_some, rd_at, iI_natc (by omega), iI_add]
    refine ⟨_, rfl, hw.toSe (fun k h1 h2 h3 => by rw [rd_ne h1, rd_ne h3, rd_ne h2]) ⟨by rw [rd_at]; simp, fun i hi => ?_⟩, fun k hk => by rw [rd_ne (by omega), rd_ne (by omega), rd_ne (by omega)], hr.of (by rw [rd_ne (by decide), rd_ne (by decide), rd_ne (by decide)]) (by rw [rd_ne (by decide), rd_ne (by decide), rd_ne (by decide)])⟩
    rw [rd_ne (by decide), rd_ne (by decide), rd_if, rd_ne (by decide), rd_if, rd_ne (by decide)]
    simp at hi
    by_cases e : i = se.length
    · subst e; simp
    · rw [if_neg e, if_neg e, List.getElem_append_left (by omega)]; exact w6.2 i (by omega)
  · rw [if_neg c, if_neg c]
    refine ⟨s, ?_, hw, Lo.refl s, hr⟩
    by_cases c1 : 1 ≤ x ∧ x ≤ 100
    · by_cases c2 : 0 ≤ y ∧ y ≤ 36
      · rw [if_neg (by omega), if_neg (by omega), if_pos (by rw [show se.length = 10 by omega]; rfl)]
      · rw [if_neg (by omega), if_pos c2]
    · rw [if_pos c1]
theorem M_seen (hm : HM s n T S D SP ap fi bk G w pl kp tx se) (hse : SeV se) (hr : RM s l) {x y : Int} (x1 : -2147483648 ≤ x) (x2 : x ≤ 2147483647) (y1 : -2147483648 ≤ y) (y2 : y ≤ 2147483647) : ∃ s', fM_seen s (iI x) (iI y) = some (iI (if 1 ≤ x ∧ x ≤ 100 ∧ 0 ≤ y ∧ y ≤ 36 ∧ se.length ≠ 10 then (se.length : Int) + 1 else -1), s') ∧ HM s' n T S D SP ap fi bk G w pl kp tx (if 1 ≤ x ∧ x ≤ 100 ∧ 0 ≤ y ∧ y ≤ 36 ∧ se.length ≠ 10 then se ++ [(x.toNat, y.toNat)] else se) ∧ Hi s s' ∧ RM s' l := by
  have hl10 := hse.1
  have w6 := hm.2.2.2.2.2
  unfold fM_seen fM_seen_J38
  simp only [nmM]
  rw [M_in, Option.bind_some, M_in, Option.bind_some, iL x1 x2, iL y1 y2]
  simp only [bI_0, decide_eq_false_iff_not, rd_of (show (43 : Nat) ≠ 0 by decide), rd_ne (show (161 : Nat) ≠ 191 by decide), rd_ne (show (161 : Nat) ≠ 192 by decide), rd_at, w6.1, show (1 : Int64).toInt = 1 from rfl, show (100 : Int64).toInt = 100 from rfl, show (0 : Int64).toInt = 0 from rfl, show (36 : Int64).toInt = 36 from rfl]
  by_cases c : 1 ≤ x ∧ x ≤ 100 ∧ 0 ≤ y ∧ y ≤ 36 ∧ se.length ≠ 10
  · obtain ⟨p, rfl⟩ : ∃ p : Nat, x = p := ⟨x.toNat, by omega⟩
    obtain ⟨q, rfl⟩ : ∃ q : Nat, y = q := ⟨y.toNat, by omega⟩
    rw [if_neg (by omega), if_neg (by omega), if_neg (by rw [iI_eq (by omega) (by omega) (by omega) (by omega)]; omega), if_pos c, if_pos c, chk_in (by omega) (by omega) (by omega), chk_in (by omega) (by omega) (by omega), iI_natc (by omega), iI_add]
    refine ⟨_, rfl, hm.toSe (fun k j h1 h2 h3 => ?_) ⟨by rw [rd_at]; simp, fun i hi => ?_⟩, fun k hk => by rw [rd_ne (by omega), rd_ne (by omega), rd_ne (by omega), rd_ne (by omega)], hr.of (by rw [rd_of (by decide), rd_ne (by decide), rd_ne (by decide), rd_of (by decide)]) (by rw [rd_ne (by decide), rd_ne (by decide), rd_ne (by decide), rd_ne (by decide)])⟩
    · by_cases e : k = 161
      · subst e; rw [rd_of (by omega), rd_ne (by decide), rd_ne (by decide), rd_of (by omega)]
      · rw [rd_ne e, rd_ne h3, rd_ne h2, rd_ne e]
    · rw [rd_ne (by decide), rd_ne (by decide), rd_if, rd_ne (by decide), rd_ne (by decide), rd_if, rd_ne (by decide), rd_ne (by decide)]
      simp at hi
      by_cases e : i = se.length
      · subst e; simp
      · rw [if_neg e, if_neg e, List.getElem_append_left (by omega)]; exact w6.2 i (by omega)
  · rw [if_neg c, if_neg c]
    refine ⟨wsI s 161 0 (iI 0), ?_, hm.thr, Hi.thr, hr.thr⟩
    by_cases c1 : 1 ≤ x ∧ x ≤ 100
    · by_cases c2 : 0 ≤ y ∧ y ≤ 36
      · rw [if_neg (by omega), if_neg (by omega), if_pos (by rw [show se.length = 10 by omega]; rfl)]
      · rw [if_neg (by omega), if_pos c2]
    · rw [if_pos c1]
end SEEN
theorem op37 : op_37 wInv := fun s a1 a2 hI => by
  obtain ⟨n, T, S, D, SP, ap, fi, bk, G, w, pl, kp, tx, se, l, hv, hw, hm, r1, r2, hl⟩ := hI
  obtain ⟨x, x1, x2, rfl⟩ := exI a1
  obtain ⟨y, y1, y2, rfl⟩ := exI a2
  obtain ⟨s1, e1, hw1, lo, rr1⟩ := W_seen hw hv.2.2.2.2 r1 x1 x2 y1 y2
  obtain ⟨s2, e2, hm2, hi, rr2⟩ := M_seen (hm.lo lo) hv.2.2.2.2 (r2.lo lo) x1 x2 y1 y2
  refine ⟨_, s1, s2, e1, e2, wInv_mk ⟨hv.1, hv.2.1, hv.2.2.1, hv.2.2.2.1, ?_⟩ hw1 hi hm2 rr1 rr2 hl⟩
  have hse := hv.2.2.2.2
  split
  · rename_i c
    have := hse.1
    refine ⟨by simp; omega, fun z hz => ?_⟩
    rcases List.mem_append.mp hz with h | h
    · exact hse.2 z h
    · simp at h; subst h; simp only; omega
  · exact hse
theorem op38 : op_38 wInv := fun s hI => by
  obtain ⟨n, T, S, D, SP, ap, fi, bk, G, w, pl, kp, tx, se, l, hv, hw, hm, r1, r2, hl⟩ := id hI
  have hse := hv.2.2.2.2
  have hl10 := hse.1
  have w6 := hw.2.2.2.2.2
  have m6 := hm.2.2.2.2.2
  unfold fW_forget
  rw [w6.1]
  by_cases c : se.length = 0
  · rw [if_pos (by rw [c]; rfl)]
    refine ⟨_, s, wsI s 161 0 (iI 0), rfl, ?_, wInv_thr hI⟩
    unfold fM_forget
    simp only [nmM]
    rw [rd_of (by decide), m6.1, if_pos (by rw [c]; rfl)]
  · rw [if_neg (by rw [iI_eq (by omega) (by omega) (by omega) (by omega)]; omega)]
    simp only [nmM]
    rw [iI_sub]
    have lo : Lo s (wsI s 142 0 (iI ((se.length : Int) - 1))) := fun k hk => rd_ne (by omega)
    have hw1 : HW (wsI s 142 0 (iI ((se.length : Int) - 1))) n T S D SP ap fi bk G w pl kp tx se.dropLast := hw.toSe (fun k h1 h2 h3 => rd_ne h1) ⟨by rw [rd_at]; simp; congr 1; omega, fun i hi => by
      rw [rd_ne (by decide), rd_ne (by decide), List.getElem_dropLast]; simp at hi; exact w6.2 i (by omega)⟩
    have hm1 := hm.lo lo
    have hm2 : HM (wsI (wsI (wsI s 142 0 (iI ((se.length : Int) - 1))) 161 0 (iI 0)) 161 43 (iI ((se.length : Int) - 1))) n T S D SP ap fi bk G w pl kp tx se.dropLast := hm1.toSe (fun k j h1 h2 h3 => by
      by_cases e : k = 161
      · subst e; rw [rd_of (by omega), rd_of (by omega)]
      · rw [rd_ne e, rd_ne e]) ⟨by rw [rd_at]; simp; congr 1; omega, fun i hi => by
      rw [rd_ne (by decide), rd_ne (by decide), rd_ne (by decide), rd_ne (by decide), List.getElem_dropLast]; simp at hi; exact hm1.2.2.2.2.2.2 i (by omega)⟩
    refine ⟨iI ((se.length : Int) - 1), _, _, by rw [rd_at], ?_, wInv_mk (s1 := wsI s 142 0 (iI ((se.length : Int) - 1))) (s2 := wsI (wsI (wsI s 142 0 (iI ((se.length : Int) - 1))) 161 0 (iI 0)) 161 43 (iI ((se.length : Int) - 1))) ⟨hv.1, hv.2.1, hv.2.2.1, hv.2.2.2.1, by simp; omega, fun z hz => hse.2 z (List.dropLast_subset _ hz)⟩ hw1 (fun k hk => by rw [rd_ne (by omega), rd_ne (by omega)]) hm2 (r1.of (by rw [rd_ne (by decide)]) (rd_ne (by decide))) ((r2.lo lo).of (by rw [rd_of (by decide), rd_of (by decide)]) (by rw [rd_ne (by decide), rd_ne (by decide)])) hl⟩
    unfold fM_forget
    simp only [nmM]
    rw [rd_of (by decide), hm1.2.2.2.2.2.1, if_neg (by rw [iI_eq (by omega) (by omega) (by omega) (by omega)]; omega), rd_at, iI_sub]
theorem op46 : op_46 wInv := fun s a1 hI => by
  obtain ⟨n, T, S, D, SP, ap, fi, bk, G, w, pl, kp, tx, se, l, hv, hw, hm, r1, r2, hl⟩ := id hI
  have hm1 := hm.thr (v := iI 0)
  have rr := r2.thr (v := iI 0)
  obtain ⟨C, hC⟩ := exRw s 10
  obtain ⟨nt, hp⟩ := hw.2.2.1
  have hCm : Rw (wsI s 161 0 (iI 0)) 167 C := by
    show _ = _
    rw [hm1.2.1.1, ← hw.2.1.1]; exact hC
  have e1 : (wsI s 161 0 (iI 0)).1 161 10 = s.1 7 5 := by rw [hm1.2.1.2, hw.2.1.2.1]
  unfold fW_count fM_count
  simp only [nmM]
  rw [Land_allDepths hv.1.1 hw.1.1 hw.1.2.1, Land_allPaid hv.1.1 hw.1.1 hC, Land_touchingPairs hv.1.1 hw.1.1, M_sumOf hv.1.1.1 hm1.1.1 hm1.1.2.1, M_sumOf hv.1.1.1 hm1.1.1 hCm, M_pairsThere hv.1.1 hm1.1.1, hw.1.1.1, hm1.1.1.1, e1, hp.2.1, hm1.2.2.1.1, hw.2.2.2.2.2.1, hm1.2.2.2.2.2.1, r1.1, rr.1, hw.2.2.2.2.1.1, hm1.2.2.2.2.1.1]
  simp only [Option.bind_some]
  by_cases h0 : a1 = iI 0
  · rw [if_pos h0, if_pos h0]; exact ⟨_, _, rfl, rfl, wInv_thr hI⟩
  rw [if_neg h0, if_neg h0]
  by_cases h0 : a1 = iI 1
  · rw [if_pos h0, if_pos h0]; exact ⟨_, _, rfl, rfl, wInv_thr hI⟩
  rw [if_neg h0, if_neg h0]
  by_cases h0 : a1 = iI 2
  · rw [if_pos h0, if_pos h0]; exact ⟨_, _, rfl, rfl, wInv_thr hI⟩
  rw [if_neg h0, if_neg h0]
  by_cases h0 : a1 = iI 3
  · rw [if_pos h0, if_pos h0]; exact ⟨_, _, rfl, rfl, wInv_thr hI⟩
  rw [if_neg h0, if_neg h0]
  by_cases h0 : a1 = iI 4
  · rw [if_pos h0, if_pos h0]; exact ⟨_, _, rfl, rfl, wInv_thr hI⟩
  rw [if_neg h0, if_neg h0]
  by_cases h0 : a1 = iI 5
  · rw [if_pos h0, if_pos h0]; exact ⟨_, _, rfl, rfl, wInv_thr hI⟩
  rw [if_neg h0, if_neg h0]
  by_cases h0 : a1 = iI 6
  · rw [if_pos h0, if_pos h0]; exact ⟨_, _, rfl, rfl, wInv_thr hI⟩
  rw [if_neg h0, if_neg h0]
  by_cases h0 : a1 = iI 7
  · rw [if_pos h0, if_pos h0]; exact ⟨_, _, rfl, rfl, wInv_thr hI⟩
  rw [if_neg h0, if_neg h0]
  by_cases h0 : a1 = iI 8
  · rw [if_pos h0, if_pos h0]; exact ⟨_, _, rfl, rfl, wInv_thr hI⟩
  rw [if_neg h0, if_neg h0]
  exact ⟨_, _, rfl, rfl, wInv_thr hI⟩
