/-! later, clash, drought -/
section LT
variable {s t : wM} {n : Nat} {T : Nat → Nat → Bool} {S : Nat → Nat → Int} {D SP : Nat → Int} {ap fi bk : Int} {rain : Int} {bits : Nat}
theorem W_later (hv : CV n T S D SP ap fi bk) (hw : CW s n T S D SP ap fi bk) {f m : Int} (h1 : -2147483648 ≤ f) (h2 : f ≤ 2147483647) (h3 : -2147483648 ≤ m) (h4 : m ≤ 2147483647) : ∃ s', fW_later s (iI f) (iI m) = some (iI (if 0 ≤ f ∧ f < n ∧ 0 ≤ m ∧ m ≤ 100 then it n T S SP D m.toNat f.toNat else -1), s') ∧ WQ s s' none := by
  have hn := hv.1.1
  unfold fW_later fW_later_J21
  rw [Land_has hn hw.1 h1 h2, Option.bind_some, W_isWithin h3 h4 (by omega) (by omega) (by omega) (by omega), Option.bind_some]
  simp only [bI_0, decide_eq_false_iff_not]
  by_cases c1 : 0 ≤ f ∧ f < n
  · by_cases c2 : 0 ≤ m ∧ m ≤ 100
    · obtain ⟨t, e, hA, _⟩ := W_look hv hw
      rw [if_neg (by simpa using c1), if_neg (by simpa using c2), e, Option.bind_some, if_pos ⟨c1.1, c1.2, c2⟩]
      obtain ⟨q, rfl⟩ : ∃ q : Nat, m = q := ⟨m.toNat, by omega⟩
      obtain ⟨g, rfl⟩ : ∃ g : Nat, f = g := ⟨f.toNat, by omega⟩
      simp only [Int.toNat_natCast]
      refine wh2_w (Q := fun x => ∃ s', x = some (iI (it n T S SP D q g), s') ∧ WQ s s' none) (fun m x u => ∃ i : Nat, i ≤ q ∧ m = q - i ∧ x = iI (i : Int) ∧ WA s u n T S SP ap (it n T S SP D i)) ?_ 100000 q _ _ (by omega) ⟨0, by omega, rfl, rfl, hA⟩
      rintro m x u ⟨i, h1, rfl, rfl, hu⟩ c hc
      unfold fW_later_L36
      by_cases hi : i < q
      · rw [if_neg (by rw [iI_le (by omega) (by omega) (by omega) (by omega)]; omega)]
        obtain ⟨u', e, hu', _⟩ := W_week hv.1 hv.2.2.2.1 hu (rain := 0) (bits := 0) (by omega) (by omega)
        rw [show iI (0 : Int) = iI ((0 : Nat) : Int) from rfl] at e ⊢
        rw [e, Option.bind_some, iI_add]
        exact hc (q - (i + 1)) _ _ (by omega) ⟨i + 1, by omega, rfl, by simp, hu'⟩
      · have : i = q := by omega
        subst this
        rw [if_pos (by rw [iI_le (by omega) (by omega) (by omega) (by omega)]; omega), chk_in (by omega) (by omega) (by omega), iI_natc (by omega), show u.1 14 = _ from hu.1.2.2.2.2.1]
        exact ⟨u, rfl, hu.wq hv.2.2.2.2.1⟩
    · rw [if_neg (by simpa using c1), if_pos c2, if_neg (by omega)]
      exact ⟨s, rfl, WQ.refl hw.2.2.2.2.2.2⟩
  · rw [if_pos c1, if_neg (by omega)]
    exact ⟨s, rfl, WQ.refl hw.2.2.2.2.2.2⟩
theorem M_isHundred {m : Int} (h3 : -2147483648 ≤ m) (h4 : m ≤ 2147483647) : fM_isHundred s (iI m) = some (bI (decide (0 ≤ m ∧ m ≤ 100))) := by
  unfold fM_isHundred
  rw [M_in, Option.bind_some, chkZ_b, iL h3 h4]; rfl
theorem M_later (hv : CV n T S D SP ap fi bk) (hm : CM s n T S D SP ap fi bk) {f m : Int} (h1 : -2147483648 ≤ f) (h2 : f ≤ 2147483647) (h3 : -2147483648 ≤ m) (h4 : m ≤ 2147483647) : ∃ s', fM_later s (iI f) (iI m) = some (iI (if 0 ≤ f ∧ f < n ∧ 0 ≤ m ∧ m ≤ 100 then it n T S SP D m.toNat f.toNat else -1), s') ∧ MQn s s' none := by
  have hn := hv.1.1
  have hm1 := hm.thr (v := iI 0)
  have hz := hm.2.2.2.2.2.2
  unfold fM_later fM_later_J20
  simp only [nmM]
  rw [M_isFarm hn hm1.1 h1 h2, Option.bind_some, M_isHundred h3 h4, Option.bind_some]
  simp only [bI_0, decide_eq_false_iff_not]
  by_cases c1 : 0 ≤ f ∧ f < n
  · by_cases c2 : 0 ≤ m ∧ m ≤ 100
    · obtain ⟨t, e, hA⟩ := M_start hv hm1
      rw [if_neg (by simpa using c1), if_neg (by simpa using c2), e, Option.bind_some, if_pos ⟨c1.1, c1.2, c2⟩]
      obtain ⟨q, rfl⟩ : ∃ q : Nat, m = q := ⟨m.toNat, by omega⟩
      obtain ⟨g, rfl⟩ : ∃ g : Nat, f = g := ⟨f.toNat, by omega⟩
      simp only [Int.toNat_natCast]
      refine wh2_w (Q := fun x => ∃ s', x = some (iI (it n T S SP D q g), s') ∧ MQn s s' none) (fun m x u => ∃ i : Nat, i ≤ q ∧ m = q - i ∧ x = iI (i : Int) ∧ MA s u n T S SP ap (it n T S SP D i)) ?_ 100000 q _ _ (by omega) ⟨0, by omega, rfl, rfl, hA.pre⟩
      rintro m x u ⟨i, h1, rfl, rfl, hu⟩ c hc
      unfold fM_later_L28
      by_cases hi : i < q
      · rw [if_neg (by rw [iI_le (by omega) (by omega) (by omega) (by omega)]; omega)]
        obtain ⟨u', e, hu'⟩ := M_week hv.1 hv.2.2.2.1 hu (rain := 0) (bits := 0) (by omega) (by omega)
        rw [show iI (0 : Int) = iI ((0 : Nat) : Int) from rfl] at e ⊢
        rw [e, Option.bind_some, iI_add]
        exact hc (q - (i + 1)) _ _ (by omega) ⟨i + 1, by omega, rfl, by simp, hu'⟩
      · have : i = q := by omega
        subst this
        rw [if_pos (by rw [iI_le (by omega) (by omega) (by omega) (by omega)]; omega), chk_in (by omega) (by omega) (by omega), iI_natc (by omega), show u.1 187 = _ from hu.2.2.2.1]
        exact ⟨u, rfl, hu.mq hz⟩
    · rw [if_neg (by simpa using c1), if_pos c2, if_neg (by omega)]
      exact ⟨_, rfl, MQn.thr hz⟩
  · rw [if_pos c1, if_neg (by omega)]
    exact ⟨_, rfl, MQn.thr hz⟩
end LT
theorem op26 : op_26 wInv := fun s a1 a2 hI => by
  obtain ⟨n, T, S, D, SP, ap, fi, bk, G, w, pl, kp, tx, se, l, hv, hw, hm, _⟩ := id hI
  obtain ⟨x, x1, x2, rfl⟩ := exI a1
  obtain ⟨y, y1, y2, rfl⟩ := exI a2
  obtain ⟨s1, e1, q1⟩ := W_later hv.1 hw.1 x1 x2 y1 y2
  obtain ⟨s2, e2, q2⟩ := M_later hv.1 (hm.1.byW q1.off.1) x1 x2 y1 y2
  exact ⟨_, s1, s2, e1, e2, wInv_q hI q1 q2⟩
