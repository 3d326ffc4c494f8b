section DR
variable {s t : wM} {n : Nat} {T : Nat → Nat → Bool} {S : Nat → Nat → Int} {D SP : Nat → Int} {ap fi bk : Int} {rain : Int} {bits : Nat}
def alk (n : Nat) (D : Nat → Int) : Bool := alB (fun f => decide (D f = D 0)) n
theorem Ah_allAlike (hS : Cty n T S) (hA : AH s n T S SP ap D) (bD : Bd D 0 99) (h1 : 1 ≤ n) : fAh_allAlike s = some (bI (alk n D)) := by
  have hn := hS.1
  have step : ∀ i : Nat, i < n → ∀ k, fAh_allAlike_L2 s (iI (i : Int)) k = if D i = D 0 then k (iI ((i : Int) + 1)) else some (iI 0) := fun i hi k => by
    have b1 := bD i
    have b2 := bD 0
    unfold fAh_allAlike_L2
    rw [hA.1, if_neg (by rw [iI_le (by omega) (by omega) (by omega) (by omega)]; omega), chk_in (by omega) (by omega) (by omega), iI_natc (by omega), show s.1 14 = _ from hA.2.2.2.2.1, z0, iI_add]
    simp only [iI_eq (a := D i) (b := D 0) (by omega) (by omega) (by omega) (by omega)]
  have fin : ∀ k, fAh_allAlike_L2 s (iI (n : Int)) k = some (iI 1) := fun k => by
    unfold fAh_allAlike_L2
    rw [hA.1, if_pos (by rw [iI_le (by omega) (by omega) (by omega) (by omega)]; omega)]
  unfold fAh_allAlike
  rcases first_or (fun f => decide (D f = D 0)) n with h | ⟨i, g1, g2, g3⟩
  · rw [show alk n D = true from alB_t.mpr h, bI_t]
    exact for1 (i0 := 1) (n := n) h1 (by omega) (fun i _ hi k => by rw [step i hi k, if_pos (by simpa using h i hi)]) fin
  · rw [show alk n D = false from alB_f g1 g2, bI_f]
    have : i ≠ 0 := fun e => by subst e; simp at g2
    exact for1 (i0 := 1) (n := i) (by omega) (by omega) (fun j _ hj k => by rw [step j (by omega) k, if_pos (by simpa using g3 j hj)]) (fun k => by rw [step i g1 k, if_neg (by simpa using g2)])
def itr (n : Nat) (T : Nat → Nat → Bool) (S : Nat → Nat → Int) (SP : Nat → Int) (rain : Int) (bits : Nat) (D : Nat → Int) : Nat → Nat → Int
  | 0 => D
  | i + 1 => wk n T S SP (itr n T S SP rain bits D i) rain bits
def droV (n : Nat) (T : Nat → Nat → Bool) (S : Nat → Nat → Int) (SP : Nat → Int) (D : Nat → Int) (rain : Int) : Nat := ff (fun i => alk n (itr n T S SP rain (2 ^ n - 1) D (i + 1))) 100
theorem pow_cast (hn : n ≤ 9) : iI ((2 ^ n : Nat) : Int) - iI 1 = iI ((2 ^ n - 1 : Nat) : Int) ∧ 2 ^ n - 1 < 512 := by
  have h1 : 2 ^ n ≤ 2 ^ 9 := Nat.pow_le_pow_right (by omega) hn
  have h2 : 0 < 2 ^ n := Nat.pos_of_ne_zero (by simp)
  generalize 2 ^ n = q at h1 h2
  rw [iI_sub]
  exact ⟨iI_congr (by omega), by omega⟩
theorem W_drought (hv : CV n T S D SP ap fi bk) (hw : CW s n T S D SP ap fi bk) {f : Int} (h1 : -2147483648 ≤ f) (h2 : f ≤ 2147483647) : ∃ s', fW_drought s (iI f) = some (iI (if -9 ≤ f ∧ f ≤ 9 then (if 2 ≤ n then (if droV n T S SP D f < 100 then (droV n T S SP D f : Int) + 1 else -2) else -2) else -1), s') ∧ WQ s s' none := by
  have hn := hv.1.1
  unfold fW_drought
  rw [W_isWithin h1 h2 (by omega) (by omega) (by omega) (by omega), Option.bind_some, hw.1.1]
  simp only [bI_0, decide_eq_false_iff_not]
  by_cases c1 : -9 ≤ f ∧ f ≤ 9
  · rw [if_neg (by simpa using c1), if_pos c1]
    by_cases c2 : 2 ≤ n
    · obtain ⟨t, e, hA, _⟩ := W_look hv hw
      rw [if_pos (by rw [iI_le (by omega) (by omega) (by omega) (by omega)]; omega), if_pos c2, e, Option.bind_some]
      refine wh2_w (Q := fun x => ∃ s', x = some (iI (if droV n T S SP D f < 100 then (droV n T S SP D f : Int) + 1 else -2), s') ∧ WQ s s' none) (fun m x u => ∃ i : Nat, i ≤ 100 ∧ m = 100 - i ∧ x = iI ((i : Int) + 1) ∧ WA s u n T S SP ap (itr n T S SP f (2 ^ n - 1) D i) ∧ ∀ j, j < i → alk n (itr n T S SP f (2 ^ n - 1) D (j + 1)) = false) ?_ 100000 100 _ _ (by omega) ⟨0, by omega, rfl, rfl, hA, fun j hj => by omega⟩
      rintro m x u ⟨i, h1, rfl, rfl, hu, hf⟩ c hc
      unfold fW_drought_L40
      by_cases hi : i < 100
      · rw [if_neg (by rw [iI_lt (by omega) (by omega) (by omega) (by omega)]; omega)]
        have hLu : LW u n T S := hw.1.of (hu.2.2.1 7 4 rfl) (hu.2.2.1.row fun j => rfl)
        rw [Land_everyone hLu hn, Option.bind_some, (pow_cast hn).1]
        obtain ⟨u', e, hu', _⟩ := W_week hv.1 hv.2.2.2.1 hu (rain := f) (bits := 2 ^ n - 1) c1 (pow_cast hn).2
        rw [e, Option.bind_some, Ah_allAlike hv.1 hu'.1 hu'.2.2.2.1 (by omega), Option.bind_some]
        simp only [bI_0, iI_add]
        cases h0 : alk n (wk n T S SP (itr n T S SP f (2 ^ n - 1) D i) f (2 ^ n - 1))
        · rw [if_pos rfl]
          refine hc (100 - (i + 1)) _ _ (by omega) ⟨i + 1, by omega, rfl, by simp, hu', fun j hj => ?_⟩
          by_cases e2 : j = i
          · subst e2; exact h0
          · exact hf j (by omega)
        · rw [if_neg (by decide)]
          have : droV n T S SP D f = i := ff_eq (by omega) (fun _ => h0) hf
          exact ⟨u', by rw [this, if_pos hi], hu'.wq hv.2.2.2.2.1⟩
      · have : i = 100 := by omega
        subst this
        rw [if_pos (by decide)]
        have : droV n T S SP D f = 100 := ff_eq (by omega) (fun h => by omega) hf
        exact ⟨u, by rw [this]; rfl, hu.wq hv.2.2.2.2.1⟩
    · rw [if_neg (by rw [iI_le (by omega) (by omega) (by omega) (by omega)]; omega), if_neg c2]
      exact ⟨s, rfl, WQ.refl hw.2.2.2.2.2.2⟩
  · rw [if_pos c1, if_neg c1]
    exact ⟨s, rfl, WQ.refl hw.2.2.2.2.2.2⟩
theorem M_alike {k27 : Int32 → wM → Option (Int32 × wM)} {x1 : Int32} {v : Int} (hn : n ≤ 9) (hL : LM s n T S) (hD : Rw s 187 D) (bD : Bd D 0 99) (h1 : 1 ≤ n) : wh2 (fM_drought_L63 k27 x1 (iI v) s) 100000 (iI 1) (iI 1) = if alk n D then some (iI v, s) else k27 (iI (v + 1)) s := by
  have := for2a (f := fM_drought_L63 k27 x1 (iI v) s) (fun i => bI (alB (fun f => decide (D f = D 0)) i)) (i0 := 1) (n := n) (r := if alk n D then some (iI v, s) else k27 (iI (v + 1)) s) h1 (by omega) (fun i _ hi c => ?_) (fun c => ?_)
  · rw [show bI (alB (fun f => decide (D f = D 0)) 1) = iI 1 by simp [alB, bI]] at this
    exact this
  · have b1 := bD i
    have b2 := bD 0
    unfold fM_drought_L63 fM_drought_J96 fM_drought_J97
    rw [hL.1, if_neg (by rw [iI_le (by omega) (by omega) (by omega) (by omega)]; omega), chk_in (by omega) (by omega) (by omega), iI_natc (by omega), show s.1 187 = _ from hD, z0, iI_add]
    simp only [iI_eq (a := D i) (b := D 0) (by omega) (by omega) (by omega) (by omega), bI_0]
    show _ = c (bI (alB (fun f => decide (D f = D 0)) i && decide (D i = D 0))) _
    cases alB (fun f => decide (D f = D 0)) i
    · rfl
    · by_cases h : D i = D 0
      · simp [h]; rfl
      · simp [h]; rfl
  · unfold fM_drought_L63
    rw [hL.1, if_pos (by rw [iI_le (by omega) (by omega) (by omega) (by omega)]; omega), iI_add]
    simp only [bI_0]
    show (if alk n D = false then _ else _) = _
    cases alk n D <;> rfl
theorem M_drought (hv : CV n T S D SP ap fi bk) (hm : CM s n T S D SP ap fi bk) {f : Int} (h1 : -2147483648 ≤ f) (h2 : f ≤ 2147483647) : ∃ s', fM_drought s (iI f) = some (iI (if -9 ≤ f ∧ f ≤ 9 then (if 2 ≤ n then (if droV n T S SP D f < 100 then (droV n T S SP D f : Int) + 1 else -2) else -2) else -1), s') ∧ MQn s s' none := by
  have hn := hv.1.1
  have hm1 := hm.thr (v := iI 0)
  have hz := hm.2.2.2.2.2.2
  unfold fM_drought
  simp only [nmM]
  rw [M_in, Option.bind_some, iL h1 h2]
  simp only [bI_0, decide_eq_false_iff_not, show (-9 : Int64).toInt = -9 from rfl, show (9 : Int64).toInt = 9 from rfl]
  by_cases c1 : -9 ≤ f ∧ f ≤ 9
  · rw [if_neg (by simpa using c1), if_pos c1]
    obtain ⟨t, e, hA⟩ := M_start hv hm1
    rw [e, Option.bind_some]
    by_cases c2 : 2 ≤ n
    · rw [if_pos c2]
      refine wh2_w (Q := fun x => ∃ s', x = some (iI (if droV n T S SP D f < 100 then (droV n T S SP D f : Int) + 1 else -2), s') ∧ MQn s s' none) (fun m x u => ∃ i : Nat, i ≤ 100 ∧ m = 100 - i ∧ x = iI ((i : Int) + 1) ∧ MA s u n T S SP ap (itr n T S SP f (2 ^ n - 1) D i) ∧ ∀ j, j < i → alk n (itr n T S SP f (2 ^ n - 1) D (j + 1)) = false) ?_ 100000 100 _ _ (by omega) ⟨0, by omega, rfl, rfl, hA.pre, fun j hj => by omega⟩
      rintro m x u ⟨i, h1, rfl, rfl, hu, hf⟩ c hc
      unfold fM_drought_L27 fM_drought_J116
      by_cases hi : i < 100
      · rw [if_neg (by rw [iI_lt (by omega) (by omega) (by omega) (by omega)]; omega), hu.1.1, if_neg (by rw [iI_le (by omega) (by omega) (by omega) (by omega)]; omega), shl1 (by omega), (pow_cast hn).1]
        obtain ⟨u', e, hu'⟩ := M_week hv.1 hv.2.2.2.1 hu (rain := f) (bits := 2 ^ n - 1) c1 (pow_cast hn).2
        rw [e, Option.bind_some, M_alike hn hu'.1 hu'.2.2.2.1 hu'.2.2.2.2.2.1 (by omega)]
        cases h0 : alk n (wk n T S SP (itr n T S SP f (2 ^ n - 1) D i) f (2 ^ n - 1))
        · rw [if_neg (by decide)]
          refine hc (100 - (i + 1)) _ _ (by omega) ⟨i + 1, by omega, rfl, by simp, hu', fun j hj => ?_⟩
          by_cases e2 : j = i
          · subst e2; exact h0
          · exact hf j (by omega)
        · rw [if_pos rfl]
          have : droV n T S SP D f = i := ff_eq (by omega) (fun _ => h0) hf
          exact ⟨u', by rw [this, if_pos hi], hu'.mq hz⟩
      · have : i = 100 := by omega
        subst this
        rw [if_pos (by decide)]
        have : droV n T S SP D f = 100 := ff_eq (by omega) (fun h => by omega) hf
        exact ⟨u, by rw [this]; rfl, hu.mq hz⟩
    · rw [if_neg c2]
      refine wh2_w (Q := fun x => ∃ s', x = some (iI (-2), s') ∧ MQn s s' none) (fun m x u => u = t ∧ x = iI 1) ?_ 100000 0 _ _ (by omega) ⟨rfl, rfl⟩
      rintro m x u ⟨rfl, rfl⟩ c hc
      unfold fM_drought_L27 fM_drought_J116
      rw [if_neg (by decide), hA.1.1, if_pos (by rw [iI_le (by omega) (by omega) (by omega) (by omega)]; omega)]
      exact ⟨u, rfl, hA.pre.mq hz⟩
  · rw [if_pos c1, if_neg c1]
    exact ⟨_, rfl, MQn.thr hz⟩
end DR
theorem op30 : op_30 wInv := fun s a1 hI => by
  obtain ⟨n, T, S, D, SP, ap, fi, bk, G, w, pl, kp, tx, se, l, hv, hw, hm, _⟩ := id hI
  obtain ⟨x, x1, x2, rfl⟩ := exI a1
  obtain ⟨s1, e1, q1⟩ := W_drought hv.1 hw.1 x1 x2
  obtain ⟨s2, e2, q2⟩ := M_drought hv.1 (hm.1.byW q1.off.1) x1 x2
  exact ⟨_, s1, s2, e1, e2, wInv_q hI q1 q2⟩
