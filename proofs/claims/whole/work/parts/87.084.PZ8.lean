section FL
variable {s t : wM} {n : Nat} {T : Nat → Nat → Bool} {S : Nat → Nat → Int} {SP : Nat → Int} {ap bk : Int} {D0 : Dp} {σ : Nat → Nat} {c : Nat}
/-- lawful once a week has passed -/
def PL (n : Nat) (T : Nat → Nat → Bool) (S : Nat → Nat → Int) (SP : Nat → Int) (ap : Int) (u : Dp) : Bool := decide (ep n T ap (wk n T S SP u 0 0) = 0)
theorem VS.wkd {u : Dp} (h : VS n D0 u) : VS n D0 (wk n T S SP u 0 0) := ⟨wk_bd h.1, fun j hj => by unfold wk; rw [if_neg (by omega)]; exact h.2 j hj⟩
theorem SW.ka (h : SW s n T bk D0 σ c) (o : Off KA s t) (e : t.2 = s.2) : SW t n T bk D0 σ c := h.of (o _ _ rfl) (o _ _ rfl) (o _ _ rfl) (o.row fun j => rfl) (o.row fun j => rfl) e
theorem Se_firstLawful (hS : Cty n T S) (bS : Bd SP 0 9) (hap : 0 ≤ ap ∧ ap ≤ 9) {D' : Dp} (hA : AH s n T S SP ap D') (hV : VS n D0 D') (hsw : SW s n T bk D0 σ c) (hvs : ∀ i, i < c → VS n D0 (Us n T bk D0 i)) : ∃ t, Off KA s t ∧ t.2 = s.2 ∧ ((∃ i : Nat, i < c ∧ fSe_firstLawfulOnSunday s = some (iI (i : Int), t) ∧ PL n T S SP ap (Us n T bk D0 i) = true ∧ (∀ j, j < i → PL n T S SP ap (Us n T bk D0 j) = false) ∧ AH t n T S SP ap (wk n T S SP (Us n T bk D0 i) 0 0)) ∨ (fSe_firstLawfulOnSunday s = some (iI (-1), t) ∧ (∀ j, j < c → PL n T S SP ap (Us n T bk D0 j) = false) ∧ ∃ D'', AH t n T S SP ap D'' ∧ VS n D0 D'')) := by
  have hc3 := hsw.1
  unfold fSe_firstLawfulOnSunday
  refine wh2_w (Q := fun y => ∃ t, Off KA s t ∧ t.2 = s.2 ∧ ((∃ i : Nat, i < c ∧ y = some (iI (i : Int), t) ∧ PL n T S SP ap (Us n T bk D0 i) = true ∧ (∀ j, j < i → PL n T S SP ap (Us n T bk D0 j) = false) ∧ AH t n T S SP ap (wk n T S SP (Us n T bk D0 i) 0 0)) ∨ (y = some (iI (-1), t) ∧ (∀ j, j < c → PL n T S SP ap (Us n T bk D0 j) = false) ∧ ∃ D'', AH t n T S SP ap D'' ∧ VS n D0 D''))) (fun m x t => ∃ (i : Nat) (D'' : Dp), i ≤ c ∧ m = c - i ∧ x = iI (i : Int) ∧ Off KA s t ∧ t.2 = s.2 ∧ AH t n T S SP ap D'' ∧ VS n D0 D'' ∧ ∀ j, j < i → PL n T S SP ap (Us n T bk D0 j) = false) ?_ 100000 c _ _ (by omega) ⟨0, D', by omega, rfl, rfl, Off.refl s, rfl, hA, hV, fun j hj => absurd hj (by omega)⟩
  rintro m x t ⟨i, D'', hi, rfl, rfl, ho, ho2, hAt, hVt, hall⟩ k hk
  have hswt := hsw.ka ho ho2
  unfold fSe_firstLawfulOnSunday_L2
  rw [hswt.2.1]
  by_cases c1 : i < c
  · obtain ⟨u, e1, hAu, h8, ou, ou2⟩ := Ah_unpackU hS hAt hVt.2 (hvs i c1)
    obtain ⟨v, e2, hAv, _, _, ov⟩ := Ah_pass (rain := 0) (bits := 0) hS hAu (hvs i c1).1 bS (by omega) (by omega) (Or.inl h8)
    have e2' : fAh_pass u (iI 0) (iI 0) = some v := e2
    have ov2 : v.2 = u.2 := pass2 v e2'
    have hov : Off KA s v := (ho.trans (ou.mono fun k j hk => by
      simp only [KA, Bool.and_eq_false_iff, decide_eq_false_iff_not] at hk
      simp only [Bool.or_eq_false_iff, Bool.and_eq_false_iff, beq_eq_false_iff_ne]; omega)).trans ov
    have hov2 : v.2 = s.2 := ov2.trans (ou2.trans ho2)
    have hVv : VS n D0 (wk n T S SP (Us n T bk D0 i) 0 0) := (hvs i c1).wkd
    rw [if_neg (by rw [iI_le (by omega) (by omega) (by omega) (by omega)]; omega), chk_in (by omega) (by omega) (by omega), iI_natc (by omega), hswt.2.2.2.1 i c1, e1, Option.bind_some, e2', Option.bind_some, Ah_isLawful hS hAv hVv.1 hap, Option.bind_some]
    simp only [bI_0]
    by_cases ce : ep n T ap (wk n T S SP (Us n T bk D0 i) 0 0) = 0
    · rw [if_neg (by simp [ce])]
      exact ⟨v, hov, hov2, Or.inl ⟨i, c1, rfl, by unfold PL; simp [ce], hall, hAv⟩⟩
    · rw [if_pos (by simp [ce]), iI_add]
      refine hk (c - (i + 1)) _ _ (by omega) ⟨i + 1, _, by omega, rfl, by simp, hov, hov2, hAv, hVv, fun j hj => ?_⟩
      by_cases e : j = i
      · rw [e]; unfold PL; simp [ce]
      · exact hall j (by omega)
  · have : i = c := by omega
    subst this
    rw [if_pos (by rw [iI_le (by omega) (by omega) (by omega) (by omega)]; omega)]
    exact ⟨t, ho, ho2, Or.inr ⟨rfl, hall, D'', hAt, hVt⟩⟩
end FL
