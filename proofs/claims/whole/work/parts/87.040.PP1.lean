section SF
variable {s t : wM} {n : Nat} {T : Nat → Nat → Bool} {S : Nat → Nat → Int} {D D' SP : Nat → Int} {ap fi bk : Int} {k : Nat} {G : Nat → Int32} {w : Int32} {pl pl' : List PI} {kp : Nat → KI} {tx : List Nat} {se : List (Nat × Nat)} {x : PI}
theorem mv_undo (b : Int) (D : Nat → Int) {x y : Nat} (h : x ≠ y) : uI (uI (mv b D x y) x (mv b D x y x + b)) y (uI (mv b D x y) x (mv b D x y x + b) y - b) = D := by
  funext j
  unfold mv uI
  by_cases h1 : j = x
  · subst h1; simp [h] <;> omega
  · by_cases h2 : j = y
    · subst h2; simp [h.symm] <;> omega
    · simp [h1, h2]
theorem M_bestFor {a : Nat} (hv : CV n T S D SP ap fi bk) (hm : CM s n T S D SP ap fi bk) (ha : a < 9) : fM_bestFor s (iI (a : Int)) = some (iI (bestF n T ap bk D a n).1, wsI s 161 37 (iI ((bestF n T ap bk D a n).2 : Int))) := by
  have hn := hv.1.1
  have hS := hv.1
  have bD := hv.2.1
  have hap : 0 ≤ ap ∧ ap ≤ 9 := by have := hv.2.2.2.2.2.1; omega
  have hbk := hv.2.2.2.2.2.2.2
  unfold fM_bestFor
  rw [M_evenWith hS hm.1 hm.2.1 bD hm.2.2.2.1 hap ha, Option.bind_some, bitc_bt hn, Option.bind_some]
  simp only [nmM]
  have hL : ∀ v, LM (wsI s 161 37 v) n T S := fun v => hm.1.of (rd_of (by decide)) (rd_ne (by decide)) (rd_ne (by decide))
  have hD : ∀ v, Rw (wsI s 161 37 v) 163 D := fun v => hm.2.1.of (rd_ne (by decide))
  have h0 : ∀ v, (wsI s 161 37 v).1 168 0 = iI ap := fun v => by rw [rd_ne (by decide)]; exact hm.2.2.2.1
  have h2 : ∀ v, (wsI s 161 37 v).1 168 2 = iI bk := fun v => by rw [rd_ne (by decide)]; exact hm.2.2.2.2.2.1
  have := for3a (f := fM_bestFor_L20 (iI (a : Int))) (fun i => iI (bestF n T ap bk D a i).1) (fun i => wsI s 161 37 (iI ((bestF n T ap bk D a i).2 : Int))) (i0 := 0) (n := n) (r := some (iI (bestF n T ap bk D a n).1, wsI s 161 37 (iI ((bestF n T ap bk D a n).2 : Int)))) (Nat.zero_le _) (by omega) (fun i _ hi c => ?_) (fun c => ?_)
  · exact this
  · have hle := bestF_le n T ap bk D a i
    unfold fM_bestFor_L20 fM_bestFor_J114 fM_bestFor_J128
    rw [(hL _).1, if_neg (by rw [iI_le (by omega) (by omega) (by omega) (by omega)]; omega), M_canCarry (hL _) (hD _) bD (h2 _) hbk ha (by omega), Option.bind_some]
    simp only [bI_0, iI_add, iI_eq (a := (i : Int)) (b := (a : Int)) (by omega) (by omega) (by omega) (by omega)]
    by_cases hc : cc T bk D a i = true
    · have hcn := cc_ne hS hc
      have hm' : Bd (mv bk D a i) 0 99 := mv_bd hcn.1 bD hcn.2.2.2.1 hcn.2.2.2.2 (by omega)
      rw [if_neg (by omega), if_neg (by rw [hc]; decide), M_carries (by decide) (hD _) (h2 _) ha (by omega), Option.bind_some, M_evenWith hS ((hL _).of (by rw [wR_ne (by decide)]) (wR_ne (by decide)) (wR_ne (by decide))) wR_Rw hm' (by rw [wR_ne (by decide)]; exact h0 _) hap ha, Option.bind_some, bitc_bt hn, Option.bind_some, chk_in (by omega) (by omega) (by omega)]
      simp only [nmM]
      rw [chk_in (by omega) (by omega) (by omega), iI_natc (by omega), iI_natc (by omega), z2, wRo_at, wR_ne (by decide), h2, iI_add, wsI_R (D := mv bk D a i) wRo_at, wR_wR, wRo_at, wR_ne (by decide), h2, iI_sub, wsI_R (D := uI (mv bk D a i) a (mv bk D a i a + bk)) wRo_at, wR_wR, mv_undo _ _ hcn.1, wR_id (hD _)]
      rw [rd_at]
      have hcl := cnt_le (ev T ap (mv bk D a i) a) n
      rw [iMin_i (by omega) (by omega) (by omega) (by omega), wsI_wsI]
      simp only [iI_le (a := ((bestF n T ap bk D a i).2 : Int)) (b := ((cnt (ev T ap (mv bk D a i) a) n : Nat) : Int)) (by omega) (by omega) (by omega) (by omega)]
      by_cases h5 : (bestF n T ap bk D a i).2 ≤ cnt (ev T ap (mv bk D a i) a) n
      · rw [if_pos (by omega)]
        have : ¬ cnt (ev T ap (mv bk D a i) a) n < (bestF n T ap bk D a i).2 := by omega
        rw [show bestF n T ap bk D a (i + 1) = bestF n T ap bk D a i by
          simp only [bestF] at this ⊢
          simp [bF, hc, this], show min ((bestF n T ap bk D a i).2 : Int) ((cnt (ev T ap (mv bk D a i) a) n : Nat) : Int) = ((bestF n T ap bk D a i).2 : Int) by omega]
      · rw [if_neg (by omega)]
        have : cnt (ev T ap (mv bk D a i) a) n < (bestF n T ap bk D a i).2 := by omega
        rw [show bestF n T ap bk D a (i + 1) = ((i : Int), cnt (ev T ap (mv bk D a i) a) n) by
          simp only [bestF] at this ⊢
          simp [bF, hc, this], show min ((bestF n T ap bk D a i).2 : Int) ((cnt (ev T ap (mv bk D a i) a) n : Nat) : Int) = ((cnt (ev T ap (mv bk D a i) a) n : Nat) : Int) by omega]
    · have hc' : cc T bk D a i = false := by simpa using hc
      rw [show bestF n T ap bk D a (i + 1) = bestF n T ap bk D a i by simp [bestF, bF, hc'], if_pos hc']
      split <;> rfl
  · unfold fM_bestFor_L20
    rw [(hL _).1, if_pos (by rw [iI_le (by omega) (by omega) (by omega) (by omega)]; omega)]
theorem bestF_ok (hS : Cty n T S) (a : Nat) : (bestF n T ap bk D a n).1 = -1 ∨ ∃ b : Nat, (bestF n T ap bk D a n).1 = (b : Int) ∧ b < n ∧ cc T bk D a b = true ∧ (bestF n T ap bk D a n).2 = cnt (ev T ap (mv bk D a b) a) n := by
  rcases bF_ok (cc T bk D a) (fun b => cnt (ev T ap (mv bk D a b) a) n) (cnt (ev T ap D a) n) n with h | ⟨j, h1, h2, h3, h4⟩
  · exact Or.inl h.1
  · exact Or.inr ⟨j, h2, h1, h4, h3⟩
theorem bestF_0 (a : Nat) (h : (bestF n T ap bk D a n).1 = -1) : (bestF n T ap bk D a n).2 = cnt (ev T ap D a) n := by
  rcases bF_ok (cc T bk D a) (fun b => cnt (ev T ap (mv bk D a b) a) n) (cnt (ev T ap D a) n) n with h' | ⟨j, h1, h2, h3, h4⟩
  · exact h'.2
  · unfold bestF at h; omega
theorem W_selfish (hv : CV n T S D SP ap fi bk) (hw : CW s n T S D SP ap fi bk) {f : Int} (h1 : -2147483648 ≤ f) (h2 : f ≤ 2147483647) : ∃ s', fW_selfish s (iI f) = some (iI (if 0 ≤ f ∧ f < n then (bestF n T ap bk D f.toNat n).1 else -2), s') ∧ WQ s s' (if 0 ≤ f ∧ f < n then some [iI ((bestF n T ap bk D f.toNat n).2 : Int)] else none) := by
  have hn := hv.1.1
  have hap : 0 ≤ ap ∧ ap ≤ 9 := by have := hv.2.2.2.2.2.1; omega
  have hbk := hv.2.2.2.2.2.2.2
  unfold fW_selfish
  rw [Land_has hn hw.1 h1 h2, Option.bind_some]
  simp only [bI_0, decide_eq_false_iff_not]
  by_cases c1 : 0 ≤ f ∧ f < n
  · obtain ⟨a, rfl⟩ : ∃ g : Nat, f = g := ⟨f.toNat, by omega⟩
    rw [if_neg (by simpa using c1), if_pos c1, if_pos c1, Land_bestFor hv.1 hw.1 hw.2.1 hv.2.1 hw.2.2.2.1 hap hw.2.2.2.2.2.1 hbk (by omega), Option.bind_some]
    simp only [Int.toNat_natCast]
    have e : fLand_evensAfter s (iI (a : Int)) (iI (bestF n T ap bk D a n).1) = some (iI ((bestF n T ap bk D a n).2 : Int), s) := by
      rcases bestF_ok (ap := ap) (bk := bk) (D := D) hv.1 a with h | ⟨b, h, hb, hc, h2⟩
      · rw [h, bestF_0 a h]; exact Land_evens0 hv.1 hw.1 hw.2.1 hv.2.1 hw.2.2.2.1 hap (by omega)
      · rw [h, h2]; exact Land_evensAfter hv.1 hw.1 hw.2.1 hv.2.1 hw.2.2.2.1 hap hw.2.2.2.2.2.1 hbk hc
    rw [e, Option.bind_some]
    obtain ⟨u, e2, r, o⟩ := Num_tell (s := s) (v := iI ((bestF n T ap bk D a n).2 : Int))
    dsimp only
    rw [e2, Option.bind_some]
    exact ⟨u, rfl, (WQ.refl hw.2.2.2.2.2.2).row o r (by simp)⟩
  · rw [if_pos c1, if_neg c1, if_neg c1]
    exact ⟨s, rfl, WQ.refl hw.2.2.2.2.2.2⟩
theorem M_selfish (hv : CV n T S D SP ap fi bk) (hm : CM s n T S D SP ap fi bk) {f : Int} (h1 : -2147483648 ≤ f) (h2 : f ≤ 2147483647) : ∃ s', fM_selfish s (iI f) = some (iI (if 0 ≤ f ∧ f < n then (bestF n T ap bk D f.toNat n).1 else -2), s') ∧ MQn s s' (if 0 ≤ f ∧ f < n then some [iI ((bestF n T ap bk D f.toNat n).2 : Int)] else none) := by
  have hn := hv.1.1
  have hm1 := hm.thr (v := iI 0)
  have hz := hm.2.2.2.2.2.2
  unfold fM_selfish
  simp only [nmM]
  rw [M_isFarm hn hm1.1 h1 h2, Option.bind_some]
  simp only [bI_0, decide_eq_false_iff_not]
  by_cases c1 : 0 ≤ f ∧ f < n
  · obtain ⟨a, rfl⟩ : ∃ g : Nat, f = g := ⟨f.toNat, by omega⟩
    rw [if_neg (by simpa using c1), if_pos c1, if_pos c1, M_bestFor hv hm1 (by omega), Option.bind_some]
    simp only [Int.toNat_natCast]
    rw [rd_of (show (37 : Nat) ≠ 1 by decide), rd_at]
    obtain ⟨u, e2, r, o⟩ := M_tell1 (t := wsI (wsI s 161 0 (iI 0)) 161 37 (iI ((bestF n T ap bk D a n).2 : Int))) (v := iI ((bestF n T ap bk D a n).2 : Int))
    rw [e2, Option.bind_some]
    refine ⟨u, rfl, MQn.row (t := wsI (wsI s 161 0 (iI 0)) 161 37 (iI ((bestF n T ap bk D a n).2 : Int))) ⟨((Off.refl s).set rfl).set rfl, fun j hj => ?_⟩ o r⟩
    rw [rd_ne (by decide), rd_ne (by decide), rd_ne (by decide), rd_ne (by decide)]; exact hz j hj
  · rw [if_pos c1, if_neg c1, if_neg c1]
    exact ⟨_, rfl, MQn.thr hz⟩
end SF
theorem op17 : op_17 wInv := fun s a1 hI => by
  obtain ⟨n, T, S, D, SP, ap, fi, bk, G, w, pl, kp, tx, se, l, hv, hw, hm, _⟩ := id hI
  obtain ⟨x, x1, x2, rfl⟩ := exI a1
  obtain ⟨s1, e1, q1⟩ := W_selfish hv.1 hw.1 x1 x2
  obtain ⟨s2, e2, q2⟩ := M_selfish hv.1 (hm.1.byW q1.off.1) x1 x2
  exact ⟨_, s1, s2, e1, e2, wInv_q hI q1 q2⟩
/-! rests -/
def rdF (n : Nat) (T : Nat → Nat → Bool) (ap bk : Int) (D : Nat → Int) : Nat → (Nat → Int) × Nat
  | 0 => (D, 0)
  | f + 1 => if (bestF n T ap bk (rdF n T ap bk D f).1 f n).1 < 0 then rdF n T ap bk D f else (mv bk (rdF n T ap bk D f).1 f (bestF n T ap bk (rdF n T ap bk D f).1 f n).1.toNat, (rdF n T ap bk D f).2 + 1)
def rsF (n : Nat) (T : Nat → Nat → Bool) (ap bk : Int) (D : Nat → Int) : Nat → (Nat → Int) × Bool × Nat
  | 0 => (D, false, 0)
  | i + 1 => ((rdF n T ap bk (rsF n T ap bk D i).1 n).1, decide ((rdF n T ap bk (rsF n T ap bk D i).1 n).2 = 0), (rsF n T ap bk D i).2.2 + (rdF n T ap bk (rsF n T ap bk D i).1 n).2)
def rsE (n : Nat) (T : Nat → Nat → Bool) (ap bk : Int) (D : Nat → Int) (q : Nat) : Nat := ff (fun i => (rsF n T ap bk D i).2.1) q
section RS
variable {s t : wM} {n : Nat} {T : Nat → Nat → Bool} {S : Nat → Nat → Int} {D D' SP : Nat → Int} {ap fi bk : Int} {k : Nat} {G : Nat → Int32} {w : Int32} {pl pl' : List PI} {kp : Nat → KI} {tx : List Nat} {se : List (Nat × Nat)} {x : PI}
theorem rdF_le : ∀ i, (rdF n T ap bk D i).2 ≤ i
  | 0 => Nat.le_refl 0
  | i + 1 => by
    have := rdF_le i
    unfold rdF; split
    · omega
    · simp only; omega
theorem rdF_cv (hv : CV n T S D SP ap fi bk) : ∀ i, CV n T S (rdF n T ap bk D i).1 SP ap fi bk
  | 0 => hv
  | i + 1 => by
    have h := rdF_cv hv i
    unfold rdF; split
    · exact h
    · rename_i c
      rcases bestF_ok (ap := ap) (bk := bk) (D := (rdF n T ap bk D i).1) hv.1 i with h' | ⟨b, h1, hb, hc, h2⟩
      · omega
      · rw [h1]; exact mv_cv h hc
theorem rsF_cv (hv : CV n T S D SP ap fi bk) : ∀ i, CV n T S (rsF n T ap bk D i).1 SP ap fi bk
  | 0 => hv
  | i + 1 => rdF_cv (rsF_cv hv i) n
theorem rsF_le (hn : n ≤ 9) : ∀ i, (rsF n T ap bk D i).2.2 ≤ 9 * i
  | 0 => Nat.le_refl 0
  | i + 1 => by
    have h1 := rsF_le hn i
    have h2 := rdF_le (n := n) (T := T) (ap := ap) (bk := bk) (D := (rsF n T ap bk D i).1) n
    show (rsF n T ap bk D i).2.2 + _ ≤ _
    omega
theorem W_round (hv : CV n T S D SP ap fi bk) (hw : CW s n T S D SP ap fi bk) : fW_carryRound s = some (bI (decide (0 < (rdF n T ap bk D n).2)), wRo s 8 (fun j => iI ((rdF n T ap bk D n).1 j))) := by
  have hn := hv.1.1
  have hap : 0 ≤ ap ∧ ap ≤ 9 := by have := hv.2.2.2.2.2.1; omega
  have hbk := hv.2.2.2.2.2.2.2
  unfold fW_carryRound
  have e0 : s = wRo s 8 (fun j => iI ((rdF n T ap bk D 0).1 j)) := (wR_id hw.2.1).symm
  conv => lhs; arg 5; rw [e0]
  have := for3a (f := fW_carryRound_L4) (fun i => bI (decide (0 < (rdF n T ap bk D i).2))) (fun i => wRo s 8 (fun j => iI ((rdF n T ap bk D i).1 j))) (i0 := 0) (n := n) (r := some (bI (decide (0 < (rdF n T ap bk D n).2)), wRo s 8 (fun j => iI ((rdF n T ap bk D n).1 j)))) (Nat.zero_le _) (by omega) (fun i _ hi c => ?_) (fun c => ?_)
  · exact this
  · have hvi := rdF_cv hv i
    have hwi := hw.R8 (D' := (rdF n T ap bk D i).1)
    unfold fW_carryRound_L4 fW_carryRound_J40
    rw [hwi.1.1, if_neg (by rw [iI_le (by omega) (by omega) (by omega) (by omega)]; omega), Land_bestFor hvi.1 hwi.1 hwi.2.1 hvi.2.1 hwi.2.2.2.1 hap hwi.2.2.2.2.2.1 hbk (by omega), Option.bind_some]
    dsimp only
    rw [iI_add]
    rcases bestF_ok (ap := ap) (bk := bk) (D := (rdF n T ap bk D i).1) hv.1 i with h' | ⟨b, h1, hb, hc, h2⟩
    · rw [h', if_pos rfl, show rdF n T ap bk D (i + 1) = rdF n T ap bk D i from if_pos (by omega)]
    · rw [h1, if_neg (by rw [iI_eq (by omega) (by omega) (by omega) (by omega)]; omega), Land_bring hwi.2.1 hwi.2.2.2.2.2.1 (by omega) (by omega), Option.bind_some, wR_wR, show rdF n T ap bk D (i + 1) = (mv bk (rdF n T ap bk D i).1 i b, (rdF n T ap bk D i).2 + 1) by
        show (if _ then _ else _) = _
        rw [if_neg (by omega), h1]; rfl]
      simp only
      rw [bI_d (by omega)]
  · have hwi := hw.R8 (D' := (rdF n T ap bk D n).1)
    unfold fW_carryRound_L4
    rw [hwi.1.1, if_pos (by rw [iI_le (by omega) (by omega) (by omega) (by omega)]; omega), chkZ_b]
def K37 : Nat → Nat → Bool := fun k j => k == 163 || k == 161 && j == 37
theorem K37_f {a j : Nat} (h : ¬ (a = 163 ∨ a = 161 ∧ j = 37)) : K37 a j = false := by
  simp only [K37, Bool.or_eq_false_iff, Bool.and_eq_false_iff, beq_eq_false_iff_ne]; omega
theorem HM.R37 {v : Int32} (h : HM s n T S D SP ap fi bk G w pl kp tx se) : HM (wsI s 161 37 v) n T S D SP ap fi bk G w pl kp tx se := h.of fun k j hk => by
  by_cases e : k = 161
  · subst e; rw [rd_of (by unfold cM at hk; omega)]
  · rw [rd_ne e]
theorem M_round {k30 : Int32 → Int32 → Int32 → wM → Option (Int32 × wM)} {x1 x2 : Int32} {tot : Nat} (hv : CV n T S D SP ap fi bk) (hm : HM s n T S D SP ap fi bk G w pl kp tx se) : ∃ u, wh4 (fM_rests_L46 k30 x1 x2) 100000 (iI (tot : Int)) (iI 1) (iI 0) s = k30 (x2 + iI 1) (iI ((tot + (rdF n T ap bk D n).2 : Nat) : Int)) (bI (decide ((rdF n T ap bk D n).2 = 0))) u ∧ HM u n T S (rdF n T ap bk D n).1 SP ap fi bk G w pl kp tx se ∧ Off K37 s u := by
  have hn := hv.1.1
  refine wh4_w (Q := fun y => ∃ u, y = k30 (x2 + iI 1) (iI ((tot + (rdF n T ap bk D n).2 : Nat) : Int)) (bI (decide ((rdF n T ap bk D n).2 = 0))) u ∧ HM u n T S (rdF n T ap bk D n).1 SP ap fi bk G w pl kp tx se ∧ Off K37 s u) (fun m y z v u => ∃ i : Nat, i ≤ n ∧ m = n - i ∧ y = iI ((tot + (rdF n T ap bk D i).2 : Nat) : Int) ∧ z = bI (decide ((rdF n T ap bk D i).2 = 0)) ∧ v = iI (i : Int) ∧ HM u n T S (rdF n T ap bk D i).1 SP ap fi bk G w pl kp tx se ∧ Off K37 s u) ?_ 100000 n _ _ _ s (by omega) ⟨0, by omega, rfl, rfl, rfl, rfl, hm, Off.refl s⟩
  rintro m y z v u ⟨i, h1, rfl, rfl, rfl, rfl, hu, ho⟩ c hc
  unfold fM_rests_L46 fM_rests_J86
  rw [hu.1.1.1]
  by_cases hi : i < n
  · have hvi := rdF_cv hv i
    rw [if_neg (by rw [iI_le (by omega) (by omega) (by omega) (by omega)]; omega), M_bestFor hvi hu.1 (by omega), Option.bind_some]
    dsimp only
    have hu' := hu.R37 (v := iI ((bestF n T ap bk (rdF n T ap bk D i).1 i n).2 : Int))
    have ho' : Off K37 s (wsI u 161 37 (iI ((bestF n T ap bk (rdF n T ap bk D i).1 i n).2 : Int))) := ho.set rfl
    generalize wsI u 161 37 (iI ((bestF n T ap bk (rdF n T ap bk D i).1 i n).2 : Int)) = u' at hu' ho' ⊢
    rw [iI_add, iI_add]
    rcases bestF_ok (ap := ap) (bk := bk) (D := (rdF n T ap bk D i).1) hv.1 i with h' | ⟨b, h1, hb, hcc, h2⟩
    · have e1 : rdF n T ap bk D (i + 1) = rdF n T ap bk D i := if_pos (by omega)
      rw [h', if_pos (by decide)]
      refine hc (n - (i + 1)) _ _ _ _ (by omega) ⟨i + 1, by omega, rfl, by rw [e1], by rw [e1], by simp, by rw [e1]; exact hu', ho'⟩
    · have e1 : rdF n T ap bk D (i + 1) = (mv bk (rdF n T ap bk D i).1 i b, (rdF n T ap bk D i).2 + 1) := by
        show (if _ then _ else _) = _
        rw [if_neg (by omega), h1]; rfl
      rw [h1, if_neg (by rw [iI_lt (by omega) (by omega) (by omega) (by omega)]; omega), M_carries (by decide) hu'.1.2.1 hu'.1.2.2.2.2.2.1 (by omega) (by omega), Option.bind_some]
      refine hc (n - (i + 1)) _ _ _ _ (by omega) ⟨i + 1, by omega, rfl, by rw [e1]; congr 1, ?_, by simp, by rw [e1]; exact hu'.R163, wR_off ho' fun j => rfl⟩
      rw [e1, bI_n (by simp)]
  · have : i = n := by omega
    subst this
    rw [if_pos (by rw [iI_le (by omega) (by omega) (by omega) (by omega)]; omega)]
    exact ⟨u, rfl, hu, ho⟩
end RS
