section LS
variable {s t : wM} {n : Nat} {T : Nat → Nat → Bool} {S : Nat → Nat → Int} {D SP : Nat → Int} {ap fi bk : Int} {rain : Int} {bits : Nat}
theorem Ah_firstEven (hS : Cty n T S) (hA : AH s n T S SP ap D) (bD : Bd D 0 99) (hap : 0 ≤ ap ∧ ap ≤ 9) : ((∀ p (h : p < (prs n T).length), ev T ap D (prs n T)[p].1 (prs n T)[p].2 = false) ∧ fAh_firstEven s = some (iI (-1))) ∨ ∃ p, ∃ h : p < (prs n T).length, ev T ap D (prs n T)[p].1 (prs n T)[p].2 = true ∧ (∀ q (h2 : q < p), ev T ap D (prs n T)[q].1 (prs n T)[q].2 = false) ∧ fAh_firstEven s = some (iI (p : Int)) := by
  have hn := hS.1
  have hl := prs_len T hn
  have step : ∀ i (h : i < (prs n T).length), ∀ k, fAh_firstEven_L2 s (iI (i : Int)) k = if ev T ap D (prs n T)[i].1 (prs n T)[i].2 then some (iI (i : Int)) else k (iI ((i : Int) + 1)) := fun i h k => by
    unfold fAh_firstEven_L2
    rw [hA.2.2.1, if_neg (by rw [iI_le (by omega) (by omega) (by omega) (by omega)]; omega), Ah_isEven hS hA bD hap h, Option.bind_some, iI_add]
    simp only [bI_0]
    by_cases h : ev T ap D (prs n T)[i].1 (prs n T)[i].2 = true
    · simp [h]
    · simp [h]
  rcases first_or (fun p => if h : p < (prs n T).length then !(ev T ap D (prs n T)[p].1 (prs n T)[p].2) else true) (prs n T).length with h | ⟨i, h1, h2, h3⟩
  · left
    refine ⟨fun p hp => by have := h p hp; simpa [hp] using this, ?_⟩
    unfold fAh_firstEven
    refine for1 (i0 := 0) (n := (prs n T).length) (Nat.zero_le _) (by omega) (fun i _ hi k => ?_) (fun k => ?_)
    · rw [step i hi k, if_neg (by have := h i hi; simpa [hi] using this)]
    · unfold fAh_firstEven_L2
      rw [hA.2.2.1, if_pos (by rw [iI_le (by omega) (by omega) (by omega) (by omega)]; omega)]
  · right
    refine ⟨i, h1, by simpa [h1] using h2, fun q hq => ?_, ?_⟩
    · have := h3 q hq; simpa [show q < (prs n T).length by omega] using this
    unfold fAh_firstEven
    refine for1 (i0 := 0) (n := i) (Nat.zero_le _) (by omega) (fun j _ hj k => ?_) (fun k => ?_)
    · rw [step j (by omega) k, if_neg (by have := h3 j hj; simpa [show j < (prs n T).length by omega] using this)]
    · rw [step i h1 k, if_pos (by simpa [h1] using h2)]
theorem Ah_isLawful (hS : Cty n T S) (hA : AH s n T S SP ap D) (bD : Bd D 0 99) (hap : 0 ≤ ap ∧ ap ≤ 9) : fAh_isLawful s = some (bI (decide (ep n T ap D = 0))) := by
  have hl := prs_len T hS.1
  unfold fAh_isLawful fAh_isLawful_J13
  rcases Ah_firstEven hS hA bD hap with ⟨h1, h2⟩ | ⟨p, hp, h1, h2, h3⟩
  · rw [h2, Option.bind_some, if_pos rfl, chkZ_1, bI_d (ep_0.mpr h1)]
  · rw [h3, Option.bind_some, if_neg (by rw [iI_eq (by omega) (by omega) (by omega) (by omega)]; omega), chkZ_0, bI_n (fun e => by rw [ep_0.mp e p hp] at h1; cases h1)]
def lastV (n : Nat) (T : Nat → Nat → Bool) (S : Nat → Nat → Int) (SP : Nat → Int) (ap : Int) (D : Nat → Int) : Nat := ff (fun i => decide (0 < ep n T ap (it n T S SP D (i + 1)))) 100
theorem Ah_lasting (hS : Cty n T S) (bS : Bd SP 0 9) (hap : 0 ≤ ap ∧ ap ≤ 9) (h : WA s t n T S SP ap D) : ∃ t' D', fAh_lasting t = some (iI ((lastV n T S SP ap D : Nat) + 1 : Int), t') ∧ WA s t' n T S SP ap D' := by
  unfold fAh_lasting
  refine wh2_w (Q := fun x => ∃ t' D', x = some (iI ((lastV n T S SP ap D : Nat) + 1 : Int), t') ∧ WA s t' n T S SP ap D') (fun m x u => ∃ i : Nat, i ≤ 100 ∧ m = 100 - i ∧ x = iI ((i : Int) + 1) ∧ WA s u n T S SP ap (it n T S SP D i) ∧ ∀ j, j < i → decide (0 < ep n T ap (it n T S SP D (j + 1))) = false) ?_ 100000 100 _ _ (by omega) ⟨0, by omega, rfl, rfl, h, fun j hj => by omega⟩
  rintro m x u ⟨i, h1, rfl, rfl, hu, hf⟩ c hc
  unfold fAh_lasting_L2
  by_cases hi : i < 100
  · rw [if_neg (by rw [iI_lt (by omega) (by omega) (by omega) (by omega)]; omega)]
    obtain ⟨u', e, hu', _⟩ := W_week hS bS hu (rain := 0) (bits := 0) (by omega) (by omega)
    rw [show iI (0 : Int) = iI ((0 : Nat) : Int) from rfl] at e ⊢
    rw [e, Option.bind_some, Ah_isLawful hS hu'.1 hu'.2.2.2.1 hap, Option.bind_some]
    have hnn := (ep_nn hS ap (wk n T S SP (it n T S SP D i) 0 0)).1
    simp only [show iI ((0 : Nat) : Int) = iI (0 : Int) from rfl, bI_0, decide_eq_false_iff_not, iI_add]
    by_cases h0 : ep n T ap (wk n T S SP (it n T S SP D i) 0 0) = 0
    · rw [if_neg (by simpa using h0)]
      refine hc (100 - (i + 1)) _ _ (by omega) ⟨i + 1, by omega, rfl, by simp, hu', fun j hj => ?_⟩
      by_cases e2 : j = i
      · subst e2; exact decide_eq_false (show ¬ 0 < ep n T ap (wk n T S SP (it n T S SP D j) 0 0) by omega)
      · exact hf j (by omega)
    · rw [if_pos h0]
      refine ⟨u', _, ?_, hu'⟩
      have : lastV n T S SP ap D = i := ff_eq (by omega) (fun _ => decide_eq_true (show 0 < ep n T ap (wk n T S SP (it n T S SP D i) 0 0) by omega)) hf
      rw [this]
  · have : i = 100 := by omega
    subst this
    rw [if_pos (by decide)]
    have : lastV n T S SP ap D = 100 := ff_eq (by omega) (fun h => by omega) hf
    exact ⟨u, _, by rw [this]; rfl, hu⟩
theorem M_lastsNow (hv : CV n T S D SP ap fi bk) (hm : CM s n T S D SP ap fi bk) : ∃ t' D', fM_lastsNow s = some (iI (if lastV n T S SP ap D < 100 then (lastV n T S SP ap D : Int) + 1 else -2), t') ∧ MA s t' n T S SP ap D' := by
  have hS := hv.1
  have bS := hv.2.2.2.1
  have hap : 0 ≤ ap ∧ ap ≤ 9 := by have := hv.2.2.2.2.2.1; omega
  obtain ⟨t, e, h⟩ := M_start hv hm
  unfold fM_lastsNow
  rw [e, Option.bind_some]
  refine wh2_w (Q := fun x => ∃ t' D', x = some (iI (if lastV n T S SP ap D < 100 then (lastV n T S SP ap D : Int) + 1 else -2), t') ∧ MA s t' n T S SP ap D') (fun m x u => ∃ i : Nat, i ≤ 100 ∧ m = 100 - i ∧ x = iI ((i : Int) + 1) ∧ MA s u n T S SP ap (it n T S SP D i) ∧ ∀ j, j < i → decide (0 < ep n T ap (it n T S SP D (j + 1))) = false) ?_ 100000 100 _ _ (by omega) ⟨0, by omega, rfl, rfl, h, fun j hj => by omega⟩
  rintro m x u ⟨i, h1, rfl, rfl, hu, hf⟩ c hc
  unfold fM_lastsNow_L6
  by_cases hi : i < 100
  · rw [if_neg (by rw [iI_lt (by omega) (by omega) (by omega) (by omega)]; omega)]
    obtain ⟨u', e, hu'⟩ := M_week hS bS hu (rain := 0) (bits := 0) (by omega) (by omega)
    rw [show iI (0 : Int) = iI ((0 : Nat) : Int) from rfl] at e ⊢
    rw [e, Option.bind_some, hu'.ep hS hap, Option.bind_some]
    have hnn := (ep_nn hS ap (wk n T S SP (it n T S SP D i) 0 0))
    by_cases h0 : ep n T ap (wk n T S SP (it n T S SP D i) 0 0) ≤ 0
    · rw [if_pos (by rw [iI_le (by omega) (by omega) (by omega) (by omega)]; exact h0), iI_add]
      refine hc (100 - (i + 1)) _ _ (by omega) ⟨i + 1, by omega, rfl, by simp, hu', fun j hj => ?_⟩
      by_cases e2 : j = i
      · subst e2; exact decide_eq_false (show ¬ 0 < ep n T ap (wk n T S SP (it n T S SP D j) 0 0) by omega)
      · exact hf j (by omega)
    · rw [if_neg (by rw [iI_le (by omega) (by omega) (by omega) (by omega)]; exact h0)]
      refine ⟨u', _, ?_, hu'⟩
      have : lastV n T S SP ap D = i := ff_eq (by omega) (fun _ => decide_eq_true (show 0 < ep n T ap (wk n T S SP (it n T S SP D i) 0 0) by omega)) hf
      rw [this, if_pos hi]
  · have : i = 100 := by omega
    subst this
    rw [if_pos (by decide)]
    have : lastV n T S SP ap D = 100 := ff_eq (by omega) (fun h => by omega) hf
    exact ⟨u, _, by rw [this]; rfl, hu⟩
theorem W_weeksTold {v : Nat} (h : v ≤ 100) : fW_weeksTold s (iI ((v : Int) + 1)) = some (iI (if v < 100 then (v : Int) + 1 else -2)) := by
  unfold fW_weeksTold fW_weeksTold_J12
  by_cases h1 : v < 100
  · rw [if_pos (by rw [iI_le (by omega) (by omega) (by omega) (by omega)]; omega), if_pos h1]
  · rw [if_neg (by rw [iI_le (by omega) (by omega) (by omega) (by omega)]; omega), if_neg h1]
end LS
theorem CM.byW {s t : wM} {n : Nat} {T : Nat → Nat → Bool} {S : Nat → Nat → Int} {D SP : Nat → Int} {ap fi bk : Int} (h : CM s n T S D SP ap fi bk) (o : Off KWr s t) : CM t n T S D SP ap fi bk := h.of fun k j hk => o.atW (by omega)
theorem CM.thr {s : wM} {n : Nat} {T : Nat → Nat → Bool} {S : Nat → Nat → Int} {D SP : Nat → Int} {ap fi bk : Int} {v : Int32} (h : CM s n T S D SP ap fi bk) : CM (wsI s 161 0 v) n T S D SP ap fi bk := h.of fun k j hk => by
  by_cases e : k = 161
  · subst e; rw [rd_of (by omega)]
  · rw [rd_ne e]
theorem MA.pre {s t : wM} {n : Nat} {T : Nat → Nat → Bool} {S : Nat → Nat → Int} {D SP : Nat → Int} {ap : Int} {v : Int32} (h : MA (wsI s 161 0 v) t n T S SP ap D) : MA s t n T S SP ap D := ⟨h.1, h.2.1, h.2.2.1, h.2.2.2.1, Off.trans ((Off.refl s).set rfl) h.2.2.2.2.1, h.2.2.2.2.2⟩
theorem op25 : op_25 wInv := fun s hI => by
  obtain ⟨n, T, S, D, SP, ap, fi, bk, G, w, pl, kp, tx, se, l, hv, hw, hm, _⟩ := id hI
  have hv := hv.1
  have hap : 0 ≤ ap ∧ ap ≤ 9 := by have := hv.2.2.2.2.2.1; omega
  obtain ⟨t, e, hA, _⟩ := W_look hv hw.1
  obtain ⟨t', D', e2, hA'⟩ := Ah_lasting hv.1 hv.2.2.2.1 hap hA
  have q1 := hA'.wq hv.2.2.2.2.1
  have hm1 := hm.1.byW q1.off.1
  obtain ⟨u, D2, e3, hB⟩ := M_lastsNow hv (hm1.thr (v := iI 0))
  refine ⟨iI (if lastV n T S SP ap D < 100 then (lastV n T S SP ap D : Int) + 1 else -2), t', u, ?_, ?_, wInv_q hI q1 (hB.pre.mq hm1.2.2.2.2.2.2)⟩
  · unfold fW_lasts
    rw [e, Option.bind_some, e2, Option.bind_some]
    dsimp only
    rw [W_weeksTold (v := lastV n T S SP ap D) (ff_le _ _), Option.bind_some]
  · unfold fM_lasts
    simp only [nmM]
    rw [e3, Option.bind_some]
