section CL
variable {s t : wM} {n : Nat} {T : Nat → Nat → Bool} {S : Nat → Nat → Int} {D SP : Nat → Int} {ap fi bk : Int} {rain : Int} {bits : Nat}
theorem Ah_pairOf (hS : Cty n T S) (hA : AH s n T S SP ap D) {a b : Nat} (ha : a < n) (hb : b < n) (hab : a ≠ b) : (T a b = false ∧ fAh_pairOf s (iI (a : Int)) (iI (b : Int)) = some (iI (-1))) ∨ ∃ p, ∃ h : p < (prs n T).length, T a b = true ∧ ((prs n T)[p] = (a, b) ∨ (prs n T)[p] = (b, a)) ∧ fAh_pairOf s (iI (a : Int)) (iI (b : Int)) = some (iI (p : Int)) := by
  have hn := hS.1
  have hl := prs_len T hn
  have step : ∀ i (h : i < (prs n T).length), ∀ k, fAh_pairOf_L16 (iI ((min a b : Nat) : Int)) (iI ((max a b : Nat) : Int)) s (iI (i : Int)) k = if (prs n T)[i].1 = min a b ∧ (prs n T)[i].2 = max a b then some (iI (i : Int)) else k (iI ((i : Int) + 1)) := fun i h k => by
    obtain ⟨q1, q2, q3⟩ := hA.2.2.2.1 i h
    obtain ⟨r1, r2, r3⟩ := prs_get hS h
    unfold fAh_pairOf_L16 fAh_pairOf_J51
    rw [hA.2.2.1, if_neg (by rw [iI_le (by omega) (by omega) (by omega) (by omega)]; omega), chk_in (by omega) (by omega) (by omega), iI_natc (by omega), q1, q2, iI_add]
    simp only [iI_eq (a := ((prs n T)[i].1 : Int)) (b := ((min a b : Nat) : Int)) (by omega) (by omega) (by omega) (by omega), iI_eq (a := ((prs n T)[i].2 : Int)) (b := ((max a b : Nat) : Int)) (by omega) (by omega) (by omega) (by omega)]
    by_cases c1 : (prs n T)[i].1 = min a b
    · by_cases c2 : (prs n T)[i].2 = max a b
      · rw [if_pos (by omega), if_pos (by omega), if_pos ⟨c1, c2⟩]
      · rw [if_pos (by omega), if_neg (by omega), if_neg (by omega)]
    · rw [if_neg (by omega), if_neg (by omega)]
  have e0 : fAh_pairOf s (iI (a : Int)) (iI (b : Int)) = wh1 (fAh_pairOf_L16 (iI ((min a b : Nat) : Int)) (iI ((max a b : Nat) : Int)) s) 100000 (iI 0) := by
    unfold fAh_pairOf
    rw [iMin_i (by omega) (by omega) (by omega) (by omega), iMax_i (by omega) (by omega) (by omega) (by omega)]
    congr 2 <;> congr 1 <;> omega
  rw [e0]
  rcases first_or (fun p => if h : p < (prs n T).length then !(decide ((prs n T)[p].1 = min a b ∧ (prs n T)[p].2 = max a b)) else true) (prs n T).length with h | ⟨i, h1, h2, h3⟩
  · left
    refine ⟨?_, ?_⟩
    · cases hT : T a b with
      | false => rfl
      | true =>
        exfalso
        have hm : (min a b, max a b) ∈ prs n T := by
          rw [mem_prs]
          refine ⟨by simp only; omega, by simp only; omega, ?_⟩
          by_cases hc : a < b
          · simp only [Nat.min_eq_left (Nat.le_of_lt hc), Nat.max_eq_right (Nat.le_of_lt hc)]; exact hT
          · simp only [Nat.min_eq_right (by omega : b ≤ a), Nat.max_eq_left (by omega : b ≤ a)]; rw [hS.2.1]; exact hT
        obtain ⟨p, hp, hpe⟩ := List.mem_iff_getElem.mp hm
        have := h p hp
        simp [hp, hpe] at this
    · refine for1 (i0 := 0) (n := (prs n T).length) (Nat.zero_le _) (by omega) (fun i _ hi k => ?_) (fun k => ?_)
      · rw [step i hi k, if_neg (by have := h i hi; simp only [hi, dite_true, Bool.not_eq_true', decide_eq_false_iff_not] at this; exact this)]
      · unfold fAh_pairOf_L16
        rw [hA.2.2.1, if_pos (by rw [iI_le (by omega) (by omega) (by omega) (by omega)]; omega)]
  · right
    simp only [h1, dite_true, Bool.not_eq_false', decide_eq_true_eq] at h2
    obtain ⟨r1, r2, r3⟩ := prs_get hS h1
    refine ⟨i, h1, ?_, ?_, ?_⟩
    · rw [h2.1, h2.2] at r3
      by_cases hc : a < b
      · rwa [Nat.min_eq_left (Nat.le_of_lt hc), Nat.max_eq_right (Nat.le_of_lt hc)] at r3
      · rwa [Nat.min_eq_right (by omega : b ≤ a), Nat.max_eq_left (by omega : b ≤ a), hS.2.1] at r3
    · by_cases hc : a < b
      · left; exact Prod.ext (by rw [h2.1]; simp only; omega) (by rw [h2.2]; simp only; omega)
      · right; exact Prod.ext (by rw [h2.1]; simp only; omega) (by rw [h2.2]; simp only; omega)
    · refine for1 (i0 := 0) (n := i) (Nat.zero_le _) (by omega) (fun j _ hj k => ?_) (fun k => ?_)
      · rw [step j (by omega) k, if_neg (by have := h3 j hj; simp only [show j < (prs n T).length by omega, dite_true, Bool.not_eq_true', decide_eq_false_iff_not] at this; exact this)]
      · rw [step i h1 k, if_pos h2]
def clashV (n : Nat) (T : Nat → Nat → Bool) (S : Nat → Nat → Int) (SP : Nat → Int) (ap : Int) (D : Nat → Int) (a b : Nat) : Nat := ff (fun i => ev T ap (it n T S SP D (i + 1)) a b) 100
theorem W_clash (hv : CV n T S D SP ap fi bk) (hw : CW s n T S D SP ap fi bk) {f m : Int} (h1 : -2147483648 ≤ f) (h2 : f ≤ 2147483647) (h3 : -2147483648 ≤ m) (h4 : m ≤ 2147483647) : ∃ s', fW_clash s (iI f) (iI m) = some (iI (if 0 ≤ f ∧ f < n ∧ 0 ≤ m ∧ m < n ∧ f ≠ m then (if clashV n T S SP ap D f.toNat m.toNat < 100 then (clashV n T S SP ap D f.toNat m.toNat : Int) + 1 else -2) else -1), s') ∧ WQ s s' none := by
  have hn := hv.1.1
  have hap : 0 ≤ ap ∧ ap ≤ 9 := by have := hv.2.2.2.2.2.1; omega
  unfold fW_clash
  rw [Land_hasTwo hn hw.1 h3 h4 h1 h2, Option.bind_some]
  simp only [bI_0, decide_eq_false_iff_not]
  by_cases c1 : 0 ≤ f ∧ f < n ∧ 0 ≤ m ∧ m < n ∧ f ≠ m
  · obtain ⟨b, rfl⟩ : ∃ q : Nat, m = q := ⟨m.toNat, by omega⟩
    obtain ⟨a, rfl⟩ : ∃ g : Nat, f = g := ⟨f.toNat, by omega⟩
    simp only [Int.toNat_natCast]
    obtain ⟨t, e, hA, _⟩ := W_look hv hw
    rw [if_neg (by simpa using c1), if_pos c1, e, Option.bind_some]
    rcases Ah_pairOf hv.1 hA.1 (a := a) (b := b) (by omega) (by omega) (by omega) with ⟨hT, e2⟩ | ⟨p, hp, hT, hpe, e2⟩
    · rw [e2, Option.bind_some, if_pos rfl]
      have : clashV n T S SP ap D a b = 100 := ff_eq (by omega) (fun h => by omega) (fun j _ => by unfold ev; rw [hT]; rfl)
      exact ⟨t, by rw [this]; rfl, hA.wq hv.2.2.2.2.1⟩
    · have hl := prs_len T hn
      rw [e2, Option.bind_some, if_neg (by rw [iI_eq (by omega) (by omega) (by omega) (by omega)]; omega)]
      have hevp : ∀ D', ev T ap D' (prs n T)[p].1 (prs n T)[p].2 = ev T ap D' a b := fun D' => by
        rcases hpe with h | h
        · rw [h]
        · rw [h, ev_symm hv.1.2.1]
      refine wh2_w (Q := fun x => ∃ s', x = some (iI (if clashV n T S SP ap D a b < 100 then (clashV n T S SP ap D a b : Int) + 1 else -2), s') ∧ WQ s s' none) (fun m x u => ∃ i : Nat, i ≤ 100 ∧ m = 100 - i ∧ x = iI ((i : Int) + 1) ∧ WA s u n T S SP ap (it n T S SP D i) ∧ ∀ j, j < i → ev T ap (it n T S SP D (j + 1)) a b = false) ?_ 100000 100 _ _ (by omega) ⟨0, by omega, rfl, rfl, hA, fun j hj => by omega⟩
      rintro m x u ⟨i, h1, rfl, rfl, hu, hf⟩ c hc
      unfold fW_clash_L46
      by_cases hi : i < 100
      · rw [if_neg (by rw [iI_lt (by omega) (by omega) (by omega) (by omega)]; omega)]
        obtain ⟨u', e, hu', _⟩ := W_week hv.1 hv.2.2.2.1 hu (rain := 0) (bits := 0) (by omega) (by omega)
        rw [show iI (0 : Int) = iI ((0 : Nat) : Int) from rfl] at e ⊢
        rw [e, Option.bind_some, Ah_isEven hv.1 hu'.1 hu'.2.2.2.1 hap hp, Option.bind_some, hevp]
        simp only [show iI ((0 : Nat) : Int) = iI (0 : Int) from rfl, bI_0, iI_add]
        cases h0 : ev T ap (wk n T S SP (it n T S SP D i) 0 0) a b
        · rw [if_pos rfl]
          refine hc (100 - (i + 1)) _ _ (by omega) ⟨i + 1, by omega, rfl, by simp, hu', fun j hj => ?_⟩
          by_cases e2 : j = i
          · subst e2; exact h0
          · exact hf j (by omega)
        · rw [if_neg (by decide)]
          have : clashV n T S SP ap D a b = i := ff_eq (by omega) (fun _ => h0) hf
          exact ⟨u', by rw [this, if_pos hi], hu'.wq hv.2.2.2.2.1⟩
      · have : i = 100 := by omega
        subst this
        rw [if_pos (by decide)]
        have : clashV n T S SP ap D a b = 100 := ff_eq (by omega) (fun h => by omega) hf
        exact ⟨u, by rw [this]; rfl, hu.wq hv.2.2.2.2.1⟩
  · rw [if_pos c1, if_neg c1]
    exact ⟨s, rfl, WQ.refl hw.2.2.2.2.2.2⟩
theorem M_clash (hv : CV n T S D SP ap fi bk) (hm : CM s n T S D SP ap fi bk) {f m : Int} (h1 : -2147483648 ≤ f) (h2 : f ≤ 2147483647) (h3 : -2147483648 ≤ m) (h4 : m ≤ 2147483647) : ∃ s', fM_clash s (iI f) (iI m) = some (iI (if 0 ≤ f ∧ f < n ∧ 0 ≤ m ∧ m < n ∧ f ≠ m then (if clashV n T S SP ap D f.toNat m.toNat < 100 then (clashV n T S SP ap D f.toNat m.toNat : Int) + 1 else -2) else -1), s') ∧ MQn s s' none := by
  have hn := hv.1.1
  have hap : 0 ≤ ap ∧ ap ≤ 9 := by have := hv.2.2.2.2.2.1; omega
  have hm1 := hm.thr (v := iI 0)
  have hz := hm.2.2.2.2.2.2
  unfold fM_clash
  simp only [nmM]
  rw [M_areTwo hn hm1.1 h3 h4 h1 h2, Option.bind_some]
  simp only [bI_0, decide_eq_false_iff_not]
  by_cases c1 : 0 ≤ f ∧ f < n ∧ 0 ≤ m ∧ m < n ∧ f ≠ m
  · obtain ⟨b, rfl⟩ : ∃ q : Nat, m = q := ⟨m.toNat, by omega⟩
    obtain ⟨a, rfl⟩ : ∃ g : Nat, f = g := ⟨f.toNat, by omega⟩
    simp only [Int.toNat_natCast]
    obtain ⟨t, e, hA⟩ := M_start hv hm1
    rw [if_neg (by simpa using c1), if_pos c1, e, Option.bind_some]
    refine wh2_w (Q := fun x => ∃ s', x = some (iI (if clashV n T S SP ap D a b < 100 then (clashV n T S SP ap D a b : Int) + 1 else -2), s') ∧ MQn s s' none) (fun m x u => ∃ i : Nat, i ≤ 100 ∧ m = 100 - i ∧ x = iI ((i : Int) + 1) ∧ MA s u n T S SP ap (it n T S SP D i) ∧ ∀ j, j < i → ev T ap (it n T S SP D (j + 1)) a b = false) ?_ 100000 100 _ _ (by omega) ⟨0, by omega, rfl, rfl, hA.pre, fun j hj => by omega⟩
    rintro m x u ⟨i, h1, rfl, rfl, hu, hf⟩ c hc
    unfold fM_clash_L22
    by_cases hi : i < 100
    · rw [if_neg (by rw [iI_lt (by omega) (by omega) (by omega) (by omega)]; omega)]
      obtain ⟨u', e, hu'⟩ := M_week hv.1 hv.2.2.2.1 hu (rain := 0) (bits := 0) (by omega) (by omega)
      rw [show iI (0 : Int) = iI ((0 : Nat) : Int) from rfl] at e ⊢
      rw [e, Option.bind_some, M_isEven hu'.1 hu'.2.2.2.1 hu'.2.2.2.2.2.1 hu'.2.2.1 hap (by omega) (by omega), Option.bind_some]
      simp only [show iI ((0 : Nat) : Int) = iI (0 : Int) from rfl, bI_0, iI_add]
      cases h0 : ev T ap (wk n T S SP (it n T S SP D i) 0 0) a b
      · rw [if_pos rfl]
        refine hc (100 - (i + 1)) _ _ (by omega) ⟨i + 1, by omega, rfl, by simp, hu', fun j hj => ?_⟩
        by_cases e2 : j = i
        · subst e2; exact h0
        · exact hf j (by omega)
      · rw [if_neg (by decide)]
        have : clashV n T S SP ap D a b = i := ff_eq (by omega) (fun _ => h0) hf
        exact ⟨u', by rw [this, if_pos hi], hu'.mq hz⟩
    · have : i = 100 := by omega
      subst this
      rw [if_pos (by decide)]
      have : clashV n T S SP ap D a b = 100 := ff_eq (by omega) (fun h => by omega) hf
      exact ⟨u, by rw [this]; rfl, hu.mq hz⟩
  · rw [if_pos c1, if_neg c1]
    exact ⟨_, rfl, MQn.thr hz⟩
end CL
theorem op31 : op_31 wInv := fun s a1 a2 hI => by
  obtain ⟨n, T, S, D, SP, ap, fi, bk, G, w, pl, kp, tx, se, l, hv, hw, hm, _⟩ := id hI
  obtain ⟨x, x1, x2, rfl⟩ := exI a1
  obtain ⟨y, y1, y2, rfl⟩ := exI a2
  obtain ⟨s1, e1, q1⟩ := W_clash hv.1 hw.1 x1 x2 y1 y2
  obtain ⟨s2, e2, q2⟩ := M_clash hv.1 (hm.1.byW q1.off.1) x1 x2 y1 y2
  exact ⟨_, s1, s2, e1, e2, wInv_q hI q1 q2⟩
