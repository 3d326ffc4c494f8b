theorem lsm_zero : ∀ l, lsm (fun _ _ => 0) l = 0
  | [] => rfl
  | p :: l => by simp only [lsm, lsm_zero l]; omega
section WC1
variable {s : wM} {n : Nat} {T : Nat → Nat → Bool} {S : Nat → Nat → Int} {D SP : Nat → Int} {ap : Int} {rain : Int} {bits : Nat}
theorem gvr_lt (hS : Cty n T S) {p : Nat} (hp : p < (prs n T).length) : gvr S D (prs n T)[p].1 (prs n T)[p].2 < n := by
  obtain ⟨r1, r2, r3⟩ := prs_get hS hp
  unfold gvr; split <;> omega
def KL : Nat → Nat → Bool := fun k _ => k == 14 || k == 22
theorem Ah_letSeep (hS : Cty n T S) (hA : AH s n T S SP ap D) (bD : Bd D 0 99) (g22 : ∀ f, f < 9 → s.1 22 f = iI (lgv S D (prs n T) f)) (g21 : ∀ p (h : p < (prs n T).length), s.1 21 p = iI (flo S D (prs n T)[p].1 (prs n T)[p].2)) : ∃ s', fAh_letSeep s = some s' ∧ Rw s' 14 (fun x => D x + net n T S D x) ∧ Off KL s s' := by
  have hn := hS.1
  have hl := prs_len T hn
  unfold fAh_letSeep
  refine wh2_w (Q := fun x => ∃ s', x = some s' ∧ Rw s' 14 (fun x => D x + net n T S D x) ∧ Off KL s s') (fun m x1 t => ∃ i : Nat, i ≤ n ∧ m = n - i ∧ x1 = iI (i : Int) ∧ (∀ f, f < n → t.1 22 f = if f < i then (if giv n T S D f ≤ D f then iI (giv n T S D f) else iI (-1)) else iI (giv n T S D f)) ∧ Off (fun k _ => k == 22) s t) ?_ 100000 n _ _ (by omega) ⟨0, by omega, rfl, rfl, fun f hf => ?_, Off.refl s⟩
  · rintro m x1 t ⟨i, h1, rfl, rfl, g1, go⟩ c hc
    have hAt : AH t n T S SP ap D := hA.of (go.mono fun k j h => by
      simp only [Bool.or_eq_false_iff, beq_eq_false_iff_ne, Bool.and_eq_false_iff, bne_eq_false_iff_eq] at h ⊢; omega)
    unfold fAh_letSeep_L2
    rw [hAt.1]
    by_cases hi : i < n
    · have gb := giv_bd (T := T) (S := S) hn bD i n (Nat.le_refl n)
      have gb' : 0 ≤ giv n T S D i ∧ giv n T S D i ≤ 891 := gb
      have bi := bD i
      rw [if_neg (by rw [iI_le (by omega) (by omega) (by omega) (by omega)]; omega), chk_in (by omega) (by omega) (by omega), iI_natc (by omega), show t.1 14 = _ from hAt.2.2.2.2.1, g1 i hi, if_neg (show ¬ i < i by omega)]
      have J : ∀ w, w = (if giv n T S D i ≤ D i then iI (giv n T S D i) else iI (-1)) → (∃ s', fAh_letSeep_J40 c (iI (i : Int)) w (iI (i : Int)) t = some s' ∧ Rw s' 14 (fun x => D x + net n T S D x) ∧ Off KL s s') := by
        rintro w rfl
        unfold fAh_letSeep_J40
        rw [chk_in (by omega) (by omega) (by omega), iI_natc (by omega), iI_add]
        simp only [nmM]
        refine hc (n - (i + 1)) _ _ (by omega) ⟨i + 1, by omega, rfl, by simp, fun f hf => ?_, go.set rfl⟩
        rw [rd_if]
        by_cases h : f = i
        · subst h; rw [if_pos rfl, if_pos (show f < f + 1 by omega)]
        · rw [if_neg h, g1 f hf]
          by_cases h2 : f < i
          · rw [if_pos h2, if_pos (show f < i + 1 by omega)]
          · rw [if_neg h2, if_neg (show ¬ f < i + 1 by omega)]
      by_cases h : giv n T S D i ≤ D i
      · rw [if_pos (by rw [iI_le (by omega) (by omega) (by omega) (by omega)]; omega)]
        exact J _ (by rw [if_pos h])
      · rw [if_neg (by rw [iI_le (by omega) (by omega) (by omega) (by omega)]; omega)]
        exact J _ (by rw [if_neg h])
    · have : i = n := by omega
      subst this
      rw [if_pos (by rw [iI_le (by omega) (by omega) (by omega) (by omega)]; omega)]
      have m1 : ∀ f, f < i → (t.1 22 f = iI (-1)) = ¬ (giv i T S D f ≤ D f) := fun f hf => by
        have gb : 0 ≤ giv i T S D f ∧ giv i T S D f ≤ 891 := giv_bd (T := T) (S := S) hn bD f i (Nat.le_refl i)
        rw [g1 f hf, if_pos hf]
        by_cases h : giv i T S D f ≤ D f
        · rw [if_pos h, iI_eq (by omega) (by omega) (by omega) (by omega)]; apply propext; omega
        · rw [if_neg h]; simp [h]
      refine wh2_w (Q := fun x => ∃ s', x = some s' ∧ Rw s' 14 (fun x => D x + net i T S D x) ∧ Off KL s s') (fun m x1 t' => ∃ p : Nat, p ≤ (prs i T).length ∧ m = (prs i T).length - p ∧ x1 = iI (p : Int) ∧ Rw t' 14 (fun x => D x + lnt i T S D ((prs i T).take p) x) ∧ Off (fun k _ => k == 14) t t') ?_ 100000 (prs i T).length _ _ (by omega) ⟨0, by omega, rfl, rfl, ?_, Off.refl t⟩
      · rintro m x1 u ⟨p, h1, rfl, rfl, u14, uo⟩ c2 hc2
        unfold fAh_letSeep_L49
        rw [uo 13 6 rfl, hAt.2.2.1]
        by_cases hp : p < (prs i T).length
        · obtain ⟨q1, q2, q3⟩ := hAt.2.2.2.1 p hp
          obtain ⟨r1, r2, r3⟩ := prs_get hS hp
          have b4 := flo_bd (S := S) bD (prs i T)[p].1 (prs i T)[p].2
          have hgl := gvr_lt (D := D) hS hp
          rw [if_neg (by rw [iI_le (by omega) (by omega) (by omega) (by omega)]; omega), chk_in (by omega) (by omega) (by omega), iI_natc (by omega), uo 18 p rfl, uo 17 p rfl, uo 21 p rfl, go 21 p rfl, g21 p hp, q1, q2]
          have e : (if iI (flo S D (prs i T)[p].1 (prs i T)[p].2) ≤ iI 0 then fAh_letSeep_J85 c2 (iI (p : Int)) (iI ((prs i T)[p].2 : Int)) u else fAh_letSeep_J85 c2 (iI (p : Int)) (iI ((prs i T)[p].1 : Int)) u) = fAh_letSeep_J85 c2 (iI (p : Int)) (iI ((gvr S D (prs i T)[p].1 (prs i T)[p].2 : Nat) : Int)) u := by
            simp only [iI_le (a := flo S D (prs i T)[p].1 (prs i T)[p].2) (b := 0) (by omega) (by omega) (by omega) (by omega)]
            unfold gvr
            by_cases h : flo S D (prs i T)[p].1 (prs i T)[p].2 ≤ 0
            · rw [if_pos h, if_neg (by omega)]
            · rw [if_neg h, if_pos (by omega)]
          rw [e]
          unfold fAh_letSeep_J85 fAh_letSeep_J130
          rw [chk_in (by omega) (by omega) (by omega), iI_natc (by omega), uo 22 _ rfl]
          simp only [m1 _ hgl]
          have ht : ∀ x, lnt i T S D ((prs i T).take (p + 1)) x = lnt i T S D ((prs i T).take p) x + (if giv i T S D (gvr S D (prs i T)[p].1 (prs i T)[p].2) ≤ D (gvr S D (prs i T)[p].1 (prs i T)[p].2) then (if x = (prs i T)[p].1 then - flo S D (prs i T)[p].1 (prs i T)[p].2 else 0) + (if x = (prs i T)[p].2 then flo S D (prs i T)[p].1 (prs i T)[p].2 else 0) else 0) := fun x => lsm_take _ _ _ hp
          by_cases ok : giv i T S D (gvr S D (prs i T)[p].1 (prs i T)[p].2) ≤ D (gvr S D (prs i T)[p].1 (prs i T)[p].2)
          · rw [if_neg (by simpa using ok), chk_in (by omega) (by omega) (by omega), iI_natc (by omega), uo 17 p rfl, q1, chk_in (by omega) (by omega) (by omega), iI_natc (by omega), uo 21 p rfl, go 21 p rfl, g21 p hp, show u.1 14 = _ from u14]
            simp only [nmM]
            rw [iI_sub, wsI_R (D := fun x => D x + lnt i T S D ((prs i T).take p) x) u14]
            simp only [wR_ne (show (18 : Nat) ≠ 14 by decide), wR_ne (show (21 : Nat) ≠ 14 by decide), wRo_at]
            rw [uo 18 p rfl, q2, chk_in (by omega) (by omega) (by omega), iI_natc (by omega), uo 21 p rfl, go 21 p rfl, g21 p hp, iI_add, iI_add, wsI_R (D := uI (fun x => D x + lnt i T S D ((prs i T).take p) x) (prs i T)[p].1 (D (prs i T)[p].1 + lnt i T S D ((prs i T).take p) (prs i T)[p].1 - flo S D (prs i T)[p].1 (prs i T)[p].2)) wRo_at, wR_wR]
            refine hc2 ((prs i T).length - (p + 1)) _ _ (by omega) ⟨p + 1, by omega, rfl, by simp, ?_, wR_off uo fun j => rfl⟩
            unfold Rw
            rw [wRo_at]
            funext x
            show _ = iI (D x + lnt i T S D ((prs i T).take (p + 1)) x)
            rw [ht x, if_pos ok]
            unfold uI
            congr 1
            by_cases h1 : x = (prs i T)[p].1
            · have h2 : ¬ x = (prs i T)[p].2 := by omega
              rw [if_neg h2, if_pos h1, if_pos h1, if_neg h2, h1]; omega
            · by_cases h2 : x = (prs i T)[p].2
              · have h3 : ¬ (prs i T)[p].2 = (prs i T)[p].1 := by omega
                rw [if_pos h2, if_neg h3, if_neg h1, if_pos h2, h2]; simp only []; omega
              · rw [if_neg h2, if_neg h1, if_neg h1, if_neg h2]; simp only []; omega
          · rw [if_pos ok, iI_add]
            refine hc2 ((prs i T).length - (p + 1)) _ _ (by omega) ⟨p + 1, by omega, rfl, by simp, ?_, uo⟩
            rw [show (fun x => D x + lnt i T S D ((prs i T).take (p + 1)) x) = fun x => D x + lnt i T S D ((prs i T).take p) x from funext fun x => by rw [ht x, if_neg ok, Int.add_zero]]
            exact u14
        · have : p = (prs i T).length := by omega
          subst this
          rw [if_pos (by rw [iI_le (by omega) (by omega) (by omega) (by omega)]; omega)]
          refine ⟨u, rfl, ?_, (go.mono ?_).trans (uo.mono ?_)⟩
          · rw [show (fun x => D x + net i T S D x) = fun x => D x + lnt i T S D ((prs i T).take (prs i T).length) x from funext fun x => by rw [List.take_length, lnt_net hS]]
            exact u14
          · intro k j h; simp only [KL, Bool.or_eq_false_iff] at h; exact h.2
          · intro k j h; simp only [KL, Bool.or_eq_false_iff] at h; exact h.1
      · rw [show (fun x => D x + lnt i T S D ((prs i T).take 0) x) = D from funext fun x => by simp [lnt, lsm]]
        exact hAt.2.2.2.2.1
  · rw [if_neg (show ¬ f < 0 by omega), g22 f (by omega), lgv_giv hS hf]
end WC1
