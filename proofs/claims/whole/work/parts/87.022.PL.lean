section HO
variable {s t u : wM} {n : Nat} {T : Nat → Nat → Bool} {S S' : Nat → Nat → Int} {D D' SP SP' : Nat → Int} {ap ap' fi bk : Int} {se : List (Nat × Nat)}
theorem CM.ma (h : CM u n T S D SP ap fi bk) (hA : MA u t n T S' SP' ap' D') : CM t n T S D SP ap fi bk := by
  have z := (hA.mq h.2.2.2.2.2.2).2
  have z0 := h.2.2.2.2.2.2
  refine h.of fun k j hk => ?_
  by_cases h9 : (k = 184 ∨ k = 187) ∧ 9 ≤ j
  · obtain ⟨rfl | rfl, h9⟩ := h9
    · rw [(z j h9).1, (z0 j h9).1]
    · rw [(z j h9).2, (z0 j h9).2]
  · refine hA.2.2.2.2.1 k j ?_
    simp only [KT, Bool.or_eq_false_iff, Bool.and_eq_false_iff, beq_eq_false_iff_ne]
    omega
/-- as WA, settled or not -/
def WBd (s t : wM) (n : Nat) (T : Nat → Nat → Bool) (S : Nat → Nat → Int) (SP : Nat → Int) (ap : Int) (D : Nat → Int) : Prop := AH t n T S SP ap D ∧ Off KA s t ∧ Bd D 0 99 ∧ Z9 D
theorem WA.b (h : WA s t n T S SP ap D) : WBd s t n T S SP ap D := ⟨h.1, h.2.2.1, h.2.2.2⟩
theorem WBd.wq (h : WBd s t n T S SP ap D) (hz : Z9 SP) : WQ s t none := by
  obtain ⟨h1, h3, h4, h5⟩ := h
  refine ⟨h3.mono fun k j hk => ?_, fun j hj => ?_⟩
  · simp only [KWq, KA, Bool.or_eq_false_iff, Bool.and_eq_false_iff, decide_eq_false_iff_not, beq_eq_false_iff_ne] at hk ⊢; omega
  · rw [show t.1 14 = _ from h1.2.2.2.2.1, show t.1 15 = _ from h1.2.2.2.2.2]
    show iI (D j) = iI 0 ∧ iI (SP j) = iI 0
    rw [h5 j hj, hz j hj]; exact ⟨rfl, rfl⟩
theorem WBd.setSP {f : Nat} {v : Int} (hA : WBd s t n T S SP' ap D) : WBd s (wsI t 15 f (iI v)) n T S (uI SP' f v) ap D := by
  obtain ⟨⟨h1, h2, h3, h4, h5, h6⟩, g3, g4, g5⟩ := hA
  refine ⟨⟨?_, ?_, ?_, fun p hp => ?_, ?_, ?_⟩, g3.set rfl, g4, g5⟩
  · rw [rd_ne (by decide)]; exact h1
  · rw [rd_ne (by decide)]; exact h2
  · rw [rd_ne (by decide)]; exact h3
  · rw [rd_ne (by decide), rd_ne (by decide), rd_ne (by decide)]; exact h4 p hp
  · exact h5.of (rd_ne (by decide))
  · rw [wsI_R h6]; exact wR_Rw
theorem W_rewind (hA : WBd s u n T S SP' ap D') (h8 : Rw s 8 D) (bD : Bd D 0 99) (zD : Z9 D) : ∃ t, fAh_rewind u = some t ∧ WA s t n T S SP' ap D ∧ t.1 13 8 = iI 0 ∧ t.1 17 = u.1 17 ∧ t.1 18 = u.1 18 ∧ t.1 19 = u.1 19 := by
  obtain ⟨t, e, r, f8, o⟩ := Ah_rewind (s := u) (D := D) (h8.of (hA.2.1.row fun j => rfl)) zD (fun j hj => by rw [show u.1 14 = _ from hA.1.2.2.2.2.1]; show iI (D' j) = _; rw [hA.2.2.2 j hj])
  obtain ⟨h1, h2, h3, h4, h5, h6⟩ := hA.1
  refine ⟨t, e, ⟨⟨?_, ?_, ?_, fun p hp => ?_, r, h6.of (o.row fun j => rfl)⟩, Or.inl f8, hA.2.1.trans (o.mono fun k j hk => ?_), bD, zD⟩, f8, o.row fun j => rfl, o.row fun j => rfl, o.row fun j => rfl⟩
  · rw [o 13 12 rfl]; exact h1
  · rw [o 13 13 rfl]; exact h2
  · rw [o 13 6 rfl]; exact h3
  · rw [o 17 p rfl, o 18 p rfl, o 19 p rfl]; exact h4 p hp
  · simp only [KA, Bool.and_eq_false_iff, decide_eq_false_iff_not, Bool.or_eq_false_iff, beq_eq_false_iff_ne] at hk ⊢; omega
theorem W_setSP {f : Nat} {v : Int} (hA : WA s t n T S SP' ap D) (h8 : t.1 13 8 = iI 0) : WA s (wsI t 15 f (iI v)) n T S (uI SP' f v) ap D := by
  obtain ⟨⟨h1, h2, h3, h4, h5, h6⟩, g2, g3, g4, g5⟩ := hA
  refine ⟨⟨?_, ?_, ?_, fun p hp => ?_, ?_, ?_⟩, Or.inl ?_, g3.set rfl, g4, g5⟩
  · rw [rd_ne (by decide)]; exact h1
  · rw [rd_ne (by decide)]; exact h2
  · rw [rd_ne (by decide)]; exact h3
  · rw [rd_ne (by decide), rd_ne (by decide), rd_ne (by decide)]; exact h4 p hp
  · exact h5.of (rd_ne (by decide))
  · rw [wsI_R h6]; exact wR_Rw
  · rw [rd_ne (by decide)]; exact h8
theorem uI_bd {lo hi v : Int} {f : Nat} (h : Bd SP lo hi) (hv : lo ≤ v ∧ v ≤ hi) : Bd (uI SP f v) lo hi := fun j => by
  unfold uI; split
  · exact hv
  · exact h j
theorem uI_Z9 {v : Int} {f : Nat} (h : Z9 SP) (hf : f < 9) : Z9 (uI SP f v) := fun j hj => by unfold uI; rw [if_neg (by omega)]; exact h j hj
theorem uI_uI {v w : Int} {f : Nat} : uI (uI SP f v) f w = uI SP f w := by funext j; unfold uI; split <;> rfl
theorem uI_id {f : Nat} : uI SP f (SP f) = SP := by
  funext j; unfold uI; split
  · rename_i h; rw [h]
  · rfl
def seg (se : List (Nat × Nat)) (i : Nat) : Nat × Nat := se.getD i (0, 0)
theorem seg_get {i : Nat} (h : i < se.length) : seg se i = se[i] := by unfold seg; rw [List.getD_eq_getElem?_getD, List.getElem?_eq_getElem h]; rfl
def lw (se : List (Nat × Nat)) : Nat → Nat
  | 0 => 0
  | i + 1 => max (lw se i) (seg se i).1
theorem lw_le (hse : SeV se) : ∀ i, i ≤ se.length → lw se i ≤ 100
  | 0, _ => by simp [lw]
  | i + 1, h => by
    have := lw_le hse i (by omega)
    have h2 := hse.2 se[i] (List.getElem_mem (by omega))
    unfold lw
    rw [seg_get (by omega)]; omega
def h1w (n : Nat) (T : Nat → Nat → Bool) (ap : Int) (se : List (Nat × Nat)) (D : Nat → Int) (w : Nat) : Bool := alB (fun i => !(decide ((seg se i).1 = w)) || decide (((seg se i).2 : Int) = ep n T ap D)) se.length
def hol (n : Nat) (T : Nat → Nat → Bool) (S : Nat → Nat → Int) (SP : Nat → Int) (ap : Int) (se : List (Nat × Nat)) (D : Nat → Int) : Bool := alB (fun j => h1w n T ap se (it n T S SP D (j + 1)) (j + 1)) (lw se se.length)
theorem Si_hold (hS : Cty n T S) (bS : Bd SP 0 9) (hap : 0 ≤ ap ∧ ap ≤ 9) (hA : WA s t n T S SP ap D) (hse : SeV se) (hs : SeW s se) : ∃ t' D', fSi_holdFor t = some (bI (hol n T S SP ap se D), t') ∧ WA s t' n T S SP ap D' := by
  have sW : ∀ x D0, WA s x n T S SP ap D0 → x.1 142 0 = iI (se.length : Int) ∧ ∀ i, i < se.length → x.1 143 i = iI ((seg se i).1 : Int) ∧ x.1 144 i = iI ((seg se i).2 : Int) ∧ (seg se i).1 ≤ 100 ∧ (seg se i).2 ≤ 36 := fun x D0 hx => ⟨by rw [hx.2.2.1 142 0 rfl]; exact hs.1, fun i hi => by
    rw [hx.2.2.1 143 i rfl, hx.2.2.1 144 i rfl, seg_get hi]
    have h2 := hse.2 se[i] (List.getElem_mem hi)
    exact ⟨(hs.2 i hi).1, (hs.2 i hi).2, by omega, by omega⟩⟩
  have hl := hse.1
  unfold fSi_holdFor
  have main : ∃ t' D', wh2 (fSi_holdFor_L31 (iI ((lw se se.length : Nat) : Int))) 100000 (iI 1) t = some (bI (hol n T S SP ap se D), t') ∧ WA s t' n T S SP ap D' := by
    have hlw := lw_le hse se.length (Nat.le_refl _)
    refine wh2_w (Q := fun x => ∃ t' D', x = some (bI (hol n T S SP ap se D), t') ∧ WA s t' n T S SP ap D') (fun m x u => ∃ i : Nat, i ≤ lw se se.length ∧ m = lw se se.length - i ∧ x = iI ((i : Int) + 1) ∧ WA s u n T S SP ap (it n T S SP D i) ∧ ∀ j, j < i → h1w n T ap se (it n T S SP D (j + 1)) (j + 1) = true) ?_ 100000 (lw se se.length) _ _ (by omega) ⟨0, by omega, rfl, rfl, hA, fun j hj => by omega⟩
    rintro m x u ⟨i, h1, rfl, rfl, hu, hf⟩ c hc
    unfold fSi_holdFor_L31
    by_cases hi : i < lw se se.length
    · rw [if_neg (by rw [iI_lt (by omega) (by omega) (by omega) (by omega)]; omega)]
      obtain ⟨u', e, hu', _⟩ := W_week hS bS hu (rain := 0) (bits := 0) (by omega) (by omega)
      rw [show iI (0 : Int) = iI ((0 : Nat) : Int) from rfl] at e ⊢
      rw [e, Option.bind_some]
      have hb := ep_nn hS ap (wk n T S SP (it n T S SP D i) 0 0)
      obtain ⟨s1, s2⟩ := sW u' _ hu'
      have step : ∀ q, q < se.length → ∀ k, fSi_holdFor_L45 c (iI ((lw se se.length : Nat) : Int)) (iI ((i : Int) + 1)) u' (iI (q : Int)) k = if !(decide ((seg se q).1 = i + 1)) || decide (((seg se q).2 : Int) = ep n T ap (it n T S SP D (i + 1))) then k (iI ((q : Int) + 1)) else some (iI 0, u') := fun q hq k => by
        obtain ⟨a1, a2, a3, a4⟩ := s2 q hq
        unfold fSi_holdFor_L45 fSi_holdFor_J81
        rw [s1, if_neg (by rw [iI_le (by omega) (by omega) (by omega) (by omega)]; omega), chk_in (by omega) (by omega) (by omega), iI_natc (by omega), a1, a2, hu'.ep hS hap, Option.bind_some, iI_add]
        simp only [iI_eq (a := ((seg se q).1 : Int)) (b := (i : Int) + 1) (by omega) (by omega) (by omega) (by omega), iI_eq (a := ((seg se q).2 : Int)) (b := ep n T ap (wk n T S SP (it n T S SP D i) 0 0)) (by omega) (by omega) (by omega) (by omega)]
        show _ = if !(decide ((seg se q).1 = i + 1)) || decide (((seg se q).2 : Int) = ep n T ap (wk n T S SP (it n T S SP D i) 0 0)) then k (iI ((q : Int) + 1)) else some (iI 0, u')
        by_cases c1 : (seg se q).1 = i + 1
        · rw [if_pos (by omega)]
          by_cases c2 : ((seg se q).2 : Int) = ep n T ap (wk n T S SP (it n T S SP D i) 0 0)
          · rw [if_pos c2, if_pos (by simp [c2])]
          · rw [if_neg c2, if_neg (by simp [c1, c2])]
        · rw [if_neg (by omega), if_pos (by simp [c1])]
      rcases first_or (fun q => !(decide ((seg se q).1 = i + 1)) || decide (((seg se q).2 : Int) = ep n T ap (it n T S SP D (i + 1)))) se.length with h | ⟨q, g1, g2, g3⟩
      · have e9 : wh1 (fSi_holdFor_L45 c (iI ((lw se se.length : Nat) : Int)) (iI ((i : Int) + 1)) u') 100000 (iI ((0 : Nat) : Int)) = c (iI ((i : Int) + 1 + 1)) u' := by
          refine for1 (i0 := 0) (n := se.length) (Nat.zero_le _) (by omega) (fun q _ hq k => ?_) (fun k => ?_)
          · rw [step q hq k]; exact if_pos (h q hq)
          · unfold fSi_holdFor_L45
            rw [s1, if_pos (by rw [iI_le (by omega) (by omega) (by omega) (by omega)]; omega), iI_add]
        rw [e9]
        refine hc (lw se se.length - (i + 1)) _ _ (by omega) ⟨i + 1, by omega, rfl, by simp, hu', fun j hj => ?_⟩
        by_cases e2 : j = i
        · subst e2; exact alB_t.mpr h
        · exact hf j (by omega)
      · have e9 : wh1 (fSi_holdFor_L45 c (iI ((lw se se.length : Nat) : Int)) (iI ((i : Int) + 1)) u') 100000 (iI ((0 : Nat) : Int)) = some (iI 0, u') := by
          refine for1 (i0 := 0) (n := q) (Nat.zero_le _) (by omega) (fun q' _ hq k => ?_) (fun k => ?_)
          · rw [step q' (by omega) k]; exact if_pos (g3 q' hq)
          · rw [step q g1 k]; exact if_neg (by rw [g2]; decide)
        rw [e9]
        refine ⟨u', _, ?_, hu'⟩
        rw [show hol n T S SP ap se D = false from alB_f hi (alB_f g1 g2)]; rfl
    · have : i = lw se se.length := by omega
      rw [if_pos (by rw [iI_lt (by omega) (by omega) (by omega) (by omega)]; omega)]
      refine ⟨u, _, ?_, hu⟩
      rw [show hol n T S SP ap se D = true from alB_t.mpr fun j hj => hf j (by omega)]; rfl
  obtain ⟨s1, s2⟩ := sW t _ hA
  have e0 := for2a (f := fSi_holdFor_L4 t) (fun i => iI ((lw se i : Nat) : Int)) (i0 := 0) (n := se.length) (r := wh2 (fSi_holdFor_L31 (iI ((lw se se.length : Nat) : Int))) 100000 (iI 1) t) (Nat.zero_le _) (by omega) (fun i _ hi c => ?_) (fun c => ?_)
  · have e1 : wh2 (fSi_holdFor_L4 t) 100000 (iI 0) (iI 0) = wh2 (fSi_holdFor_L31 (iI ((lw se se.length : Nat) : Int))) 100000 (iI 1) t := e0
    rw [e1]; exact main
  · obtain ⟨a1, a2, a3, a4⟩ := s2 i hi
    have := lw_le hse i (by omega)
    unfold fSi_holdFor_L4
    rw [s1, if_neg (by rw [iI_le (by omega) (by omega) (by omega) (by omega)]; omega), chk_in (by omega) (by omega) (by omega), iI_natc (by omega), a1, iMax_i (by omega) (by omega) (by omega) (by omega), iI_add]
    congr 2
    show _ = ((max (lw se i) (seg se i).1 : Nat) : Int)
    omega
  · unfold fSi_holdFor_L4
    rw [s1, if_pos (by rw [iI_le (by omega) (by omega) (by omega) (by omega)]; omega)]
theorem M_isSo (hS : Cty n T S) (bS : Bd SP 0 9) (hap : 0 ≤ ap ∧ ap ≤ 9) (hA : MA s t n T S SP ap D) (hse : SeV se) (hs : SeM s se) : ∃ t' D', fM_isSo t = some (bI (hol n T S SP ap se D), t') ∧ MA s t' n T S SP ap D' := by
  have sW : ∀ x D0, MA s x n T S SP ap D0 → x.1 161 43 = iI (se.length : Int) ∧ ∀ i, i < se.length → x.1 191 i = iI ((seg se i).1 : Int) ∧ x.1 192 i = iI ((seg se i).2 : Int) ∧ (seg se i).1 ≤ 100 ∧ (seg se i).2 ≤ 36 := fun x D0 hx => ⟨by rw [hx.2.2.2.2.1 161 43 rfl]; exact hs.1, fun i hi => by
    rw [hx.2.2.2.2.1 191 i rfl, hx.2.2.2.2.1 192 i rfl, seg_get hi]
    have h2 := hse.2 se[i] (List.getElem_mem hi)
    exact ⟨(hs.2 i hi).1, (hs.2 i hi).2, by omega, by omega⟩⟩
  have hl := hse.1
  unfold fM_isSo
  have main : ∃ t' D', wh2 (fM_isSo_L31 (iI ((lw se se.length : Nat) : Int))) 100000 (iI 1) t = some (bI (hol n T S SP ap se D), t') ∧ MA s t' n T S SP ap D' := by
    have hlw := lw_le hse se.length (Nat.le_refl _)
    refine wh2_w (Q := fun x => ∃ t' D', x = some (bI (hol n T S SP ap se D), t') ∧ MA s t' n T S SP ap D') (fun m x u => ∃ i : Nat, i ≤ lw se se.length ∧ m = lw se se.length - i ∧ x = iI ((i : Int) + 1) ∧ MA s u n T S SP ap (it n T S SP D i) ∧ ∀ j, j < i → h1w n T ap se (it n T S SP D (j + 1)) (j + 1) = true) ?_ 100000 (lw se se.length) _ _ (by omega) ⟨0, by omega, rfl, rfl, hA, fun j hj => by omega⟩
    rintro m x u ⟨i, h1, rfl, rfl, hu, hf⟩ c hc
    unfold fM_isSo_L31
    by_cases hi : i < lw se se.length
    · rw [if_neg (by rw [iI_lt (by omega) (by omega) (by omega) (by omega)]; omega)]
      obtain ⟨u', e, hu'⟩ := M_week hS bS hu (rain := 0) (bits := 0) (by omega) (by omega)
      rw [show iI (0 : Int) = iI ((0 : Nat) : Int) from rfl] at e ⊢
      rw [e, Option.bind_some]
      have hb := ep_nn hS ap (wk n T S SP (it n T S SP D i) 0 0)
      obtain ⟨s1, s2⟩ := sW u' _ hu'
      have step : ∀ q, q < se.length → ∀ k, fM_isSo_L48 c (iI ((lw se se.length : Nat) : Int)) (iI ((i : Int) + 1)) u' (iI (q : Int)) k = if !(decide ((seg se q).1 = i + 1)) || decide (((seg se q).2 : Int) = ep n T ap (it n T S SP D (i + 1))) then k (iI ((q : Int) + 1)) else some (iI 0, u') := fun q hq k => by
        obtain ⟨a1, a2, a3, a4⟩ := s2 q hq
        unfold fM_isSo_L48 fM_isSo_J85
        rw [s1, if_neg (by rw [iI_le (by omega) (by omega) (by omega) (by omega)]; omega), chk_in (by omega) (by omega) (by omega), iI_natc (by omega), a1, a2, hu'.ep hS hap, Option.bind_some, iI_add]
        simp only [iI_eq (a := ((seg se q).1 : Int)) (b := (i : Int) + 1) (by omega) (by omega) (by omega) (by omega), iI_eq (a := ((seg se q).2 : Int)) (b := ep n T ap (wk n T S SP (it n T S SP D i) 0 0)) (by omega) (by omega) (by omega) (by omega)]
        show _ = if !(decide ((seg se q).1 = i + 1)) || decide (((seg se q).2 : Int) = ep n T ap (wk n T S SP (it n T S SP D i) 0 0)) then k (iI ((q : Int) + 1)) else some (iI 0, u')
        by_cases c1 : (seg se q).1 = i + 1
        · rw [if_pos (by omega)]
          by_cases c2 : ((seg se q).2 : Int) = ep n T ap (wk n T S SP (it n T S SP D i) 0 0)
          · rw [if_pos c2, if_pos (by simp [c2])]
          · rw [if_neg c2, if_neg (by simp [c1, c2])]
        · rw [if_neg (by omega), if_pos (by simp [c1])]
      rcases first_or (fun q => !(decide ((seg se q).1 = i + 1)) || decide (((seg se q).2 : Int) = ep n T ap (it n T S SP D (i + 1)))) se.length with h | ⟨q, g1, g2, g3⟩
      · have e9 : wh1 (fM_isSo_L48 c (iI ((lw se se.length : Nat) : Int)) (iI ((i : Int) + 1)) u') 100000 (iI ((0 : Nat) : Int)) = c (iI ((i : Int) + 1 + 1)) u' := by
          refine for1 (i0 := 0) (n := se.length) (Nat.zero_le _) (by omega) (fun q _ hq k => ?_) (fun k => ?_)
          · rw [step q hq k]; exact if_pos (h q hq)
          · unfold fM_isSo_L48
            rw [s1, if_pos (by rw [iI_le (by omega) (by omega) (by omega) (by omega)]; omega), iI_add]
        rw [e9]
        refine hc (lw se se.length - (i + 1)) _ _ (by omega) ⟨i + 1, by omega, rfl, by simp, hu', fun j hj => ?_⟩
        by_cases e2 : j = i
        · subst e2; exact alB_t.mpr h
        · exact hf j (by omega)
      · have e9 : wh1 (fM_isSo_L48 c (iI ((lw se se.length : Nat) : Int)) (iI ((i : Int) + 1)) u') 100000 (iI ((0 : Nat) : Int)) = some (iI 0, u') := by
          refine for1 (i0 := 0) (n := q) (Nat.zero_le _) (by omega) (fun q' _ hq k => ?_) (fun k => ?_)
          · rw [step q' (by omega) k]; exact if_pos (g3 q' hq)
          · rw [step q g1 k]; exact if_neg (by rw [g2]; decide)
        rw [e9]
        refine ⟨u', _, ?_, hu'⟩
        rw [show hol n T S SP ap se D = false from alB_f hi (alB_f g1 g2)]; rfl
    · have : i = lw se se.length := by omega
      rw [if_pos (by rw [iI_lt (by omega) (by omega) (by omega) (by omega)]; omega)]
      refine ⟨u, _, ?_, hu⟩
      rw [show hol n T S SP ap se D = true from alB_t.mpr fun j hj => hf j (by omega)]; rfl
  obtain ⟨s1, s2⟩ := sW t _ hA
  have e0 := for2a (f := fM_isSo_L4 t) (fun i => iI ((lw se i : Nat) : Int)) (i0 := 0) (n := se.length) (r := wh2 (fM_isSo_L31 (iI ((lw se se.length : Nat) : Int))) 100000 (iI 1) t) (Nat.zero_le _) (by omega) (fun i _ hi c => ?_) (fun c => ?_)
  · have e1 : wh2 (fM_isSo_L4 t) 100000 (iI 0) (iI 0) = wh2 (fM_isSo_L31 (iI ((lw se se.length : Nat) : Int))) 100000 (iI 1) t := e0
    rw [e1]; exact main
  · obtain ⟨a1, a2, a3, a4⟩ := s2 i hi
    have := lw_le hse i (by omega)
    unfold fM_isSo_L4
    rw [s1, if_neg (by rw [iI_le (by omega) (by omega) (by omega) (by omega)]; omega), chk_in (by omega) (by omega) (by omega), iI_natc (by omega), a1, iMax_i (by omega) (by omega) (by omega) (by omega), iI_add]
    congr 2
    show _ = ((max (lw se i) (seg se i).1 : Nat) : Int)
    omega
  · unfold fM_isSo_L4
    rw [s1, if_pos (by rw [iI_le (by omega) (by omega) (by omega) (by omega)]; omega)]
end HO
