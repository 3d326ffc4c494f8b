section WB1
variable {s : wM} {n : Nat} {T : Nat → Nat → Bool} {S : Nat → Nat → Int} {D SP : Nat → Int} {ap : Int} {rain : Int} {bits : Nat}
theorem prs_get (hS : Cty n T S) {p : Nat} (hp : p < (prs n T).length) : (prs n T)[p].1 < (prs n T)[p].2 ∧ (prs n T)[p].2 < n ∧ T (prs n T)[p].1 (prs n T)[p].2 = true := mem_prs.mp (List.getElem_mem hp)
theorem Ah_isEven {p : Nat} (hS : Cty n T S) (hA : AH s n T S SP ap D) (bD : Bd D 0 99) (hap : 0 ≤ ap ∧ ap ≤ 9) (hp : p < (prs n T).length) : fAh_isEven s (iI (p : Int)) = some (bI (ev T ap D (prs n T)[p].1 (prs n T)[p].2)) := by
  have hn := hS.1
  obtain ⟨h1, h2, h3, h4, h5, h6⟩ := hA
  obtain ⟨q1, q2, q3⟩ := h4 p hp
  obtain ⟨r1, r2, r3⟩ := prs_get hS hp
  have hl := prs_len T hn
  have b1 := bD (prs n T)[p].1
  have b2 := bD (prs n T)[p].2
  unfold fAh_isEven fAh_isEven_J38
  rw [chk_in (by omega) (by omega) (by omega), iI_natc (by omega), q1, q2, chk_in (by omega) (by omega) (by omega), chk_in (by omega) (by omega) (by omega), iI_natc (by omega), iI_natc (by omega), h2, show s.1 14 = _ from h5]
  simp (disch := omega) only [iI_add, iI_sub, iI_mul, iI_lt, iI_le, iI_eq, iI_natc, iI_nat, chk_in, chkZ_1, chkZ_0, iMax_i, iMin_i, iAbs_i, Option.bind_some, nmI, nmM, nmL, rd_ne, rd_at, rd_cne, rd_fne, rd_L, rd_2, rd_c2, rd_f2, if_true, if_false, Int.toNat_natCast, ne_eq]
  unfold ev
  rw [r3]
  by_cases h : ap ≤ ((D (prs n T)[p].1 - D (prs n T)[p].2).natAbs : Int)
  · rw [if_pos h]; simp [show ¬ ((D (prs n T)[p].1 - D (prs n T)[p].2).natAbs : Int) < ap by omega]; rfl
  · rw [if_neg h]; simp [show ((D (prs n T)[p].1 - D (prs n T)[p].2).natAbs : Int) < ap by omega]; rfl
theorem ep_lsm (n : Nat) (T : Nat → Nat → Bool) (ap : Int) (D : Nat → Int) : lsm (fun a b => if ev T ap D a b = true then 1 else 0) (prs n T) = ep n T ap D := by
  unfold prs ep
  rw [lsm_prL]
  refine sm_congr fun a _ => sm_congr fun b _ => ?_
  by_cases h1 : a < b
  · by_cases h2 : T a b = true
    · simp [h1, h2]
    · have : ev T ap D a b = false := by unfold ev; simp [h2]
      simp [h1, h2, this]
  · simp [h1]
theorem Ah_evenPairs (hS : Cty n T S) (hA : AH s n T S SP ap D) (bD : Bd D 0 99) (hap : 0 ≤ ap ∧ ap ≤ 9) : fAh_evenPairs s = some (iI (ep n T ap D)) := by
  have hn := hS.1
  have hl := prs_len T hn
  rw [← ep_lsm]
  unfold fAh_evenPairs
  have := for2a (f := fAh_evenPairs_L4 s) (fun i => iI (lsm (fun a b => if ev T ap D a b = true then 1 else 0) ((prs n T).take i))) (i0 := 0) (n := (prs n T).length) (r := some (iI (lsm (fun a b => if ev T ap D a b = true then 1 else 0) (prs n T)))) (Nat.zero_le _) (by omega) (fun i _ hi k => ?_) (fun k => ?_)
  · exact this
  · unfold fAh_evenPairs_L4 fAh_evenPairs_J26
    rw [hA.2.2.1, if_neg (by rw [iI_le (by omega) (by omega) (by omega) (by omega)]; omega), Ah_isEven hS hA bD hap hi, Option.bind_some]
    simp only [bI_0, iI_add, lsm_take _ _ _ hi]
    by_cases h : ev T ap D (prs n T)[i].1 (prs n T)[i].2 = true
    · simp [h]
    · simp [h]
  · unfold fAh_evenPairs_L4
    rw [hA.2.2.1, if_pos (by rw [iI_le (by omega) (by omega) (by omega) (by omega)]; omega), List.take_length]
def KF : Nat → Nat → Bool := fun k _ => k == 21 || k == 22
theorem Ah_measureSeep (hS : Cty n T S) (hA : AH s n T S SP ap D) (bD : Bd D 0 99) : ∃ s', fAh_measureSeep s = some s' ∧ (∀ f, f < 9 → s'.1 22 f = iI (lgv S D (prs n T) f)) ∧ (∀ p (h : p < (prs n T).length), s'.1 21 p = iI (flo S D (prs n T)[p].1 (prs n T)[p].2)) ∧ Off KF s s' := by
  have hn := hS.1
  have hl := prs_len T hn
  unfold fAh_measureSeep
  simp only [nmM]
  refine wh2_w (Q := fun x => ∃ s', x = some s' ∧ (∀ f, f < 9 → s'.1 22 f = iI (lgv S D (prs n T) f)) ∧ (∀ p (h : p < (prs n T).length), s'.1 21 p = iI (flo S D (prs n T)[p].1 (prs n T)[p].2)) ∧ Off KF s s') (fun m x1 t => ∃ i : Nat, i ≤ (prs n T).length ∧ m = (prs n T).length - i ∧ x1 = iI (i : Int) ∧ (∀ f, f < 9 → t.1 22 f = iI (lgv S D ((prs n T).take i) f)) ∧ (∀ p (h : p < (prs n T).length), p < i → t.1 21 p = iI (flo S D (prs n T)[p].1 (prs n T)[p].2)) ∧ Off KF s t) ?_ 100000 (prs n T).length _ _ (by omega) ⟨0, by omega, rfl, rfl, fun f hf => ?_, fun p _ hp => by omega, Off.fil (k := 22) (Off.refl s) (fun j => rfl)⟩
  · rintro m x1 t ⟨i, h1, rfl, rfl, g1, g2, go⟩ c hc
    have hAt : AH t n T S SP ap D := hA.of (go.mono fun k j h => by
      simp only [KF, Bool.or_eq_false_iff, beq_eq_false_iff_ne, Bool.and_eq_false_iff, bne_eq_false_iff_eq] at h ⊢; omega)
    unfold fAh_measureSeep_L10
    rw [hAt.2.2.1]
    by_cases hi : i < (prs n T).length
    · obtain ⟨q1, q2, q3⟩ := hAt.2.2.2.1 i hi
      obtain ⟨r1, r2, r3⟩ := prs_get hS hi
      have b1 := bD (prs n T)[i].1
      have b2 := bD (prs n T)[i].2
      have b3 := hS.2.2.2.2 (prs n T)[i].1 (prs n T)[i].2
      have b4 := flo_bd (S := S) bD (prs n T)[i].1 (prs n T)[i].2
      have J : ∀ v : Int, v = flo S D (prs n T)[i].1 (prs n T)[i].2 → (∃ s', fAh_measureSeep_J63 c (iI (i : Int)) (iI v) t = some s' ∧ (∀ f, f < 9 → s'.1 22 f = iI (lgv S D (prs n T) f)) ∧ (∀ p (h : p < (prs n T).length), s'.1 21 p = iI (flo S D (prs n T)[p].1 (prs n T)[p].2)) ∧ Off KF s s') := by
        rintro v rfl
        have e : fAh_measureSeep_J63 c (iI (i : Int)) (iI (flo S D (prs n T)[i].1 (prs n T)[i].2)) t = c (iI ((i : Int) + 1)) (wsI (wsI t 21 i (iI (flo S D (prs n T)[i].1 (prs n T)[i].2))) 22 (gvr S D (prs n T)[i].1 (prs n T)[i].2) (iI (lgv S D ((prs n T).take i) (gvr S D (prs n T)[i].1 (prs n T)[i].2) + ((flo S D (prs n T)[i].1 (prs n T)[i].2).natAbs : Int)))) := by
          unfold fAh_measureSeep_J63 fAh_measureSeep_J94 gvr
          rw [chk_in (by omega) (by omega) (by omega), iI_natc (by omega)]
          simp only [nmM, rd_ne (show (18 : Nat) ≠ 21 by decide), rd_ne (show (17 : Nat) ≠ 21 by decide), rd_ne (show (22 : Nat) ≠ 21 by decide), q1, q2, iI_natc (show (prs n T)[i].1 ≤ 2147483647 by omega), iI_natc (show (prs n T)[i].2 ≤ 2147483647 by omega), chk_in (a := ((prs n T)[i].1 : Int)) (n := 9) (by omega) (by omega) (by omega), chk_in (a := ((prs n T)[i].2 : Int)) (n := 9) (by omega) (by omega) (by omega), g1 (prs n T)[i].1 (by omega), g1 (prs n T)[i].2 (by omega), iAbs_i (a := flo S D (prs n T)[i].1 (prs n T)[i].2) (by omega) (by omega), iI_add, iI_le (a := flo S D (prs n T)[i].1 (prs n T)[i].2) (b := 0) (by omega) (by omega) (by omega) (by omega)]
          by_cases h : flo S D (prs n T)[i].1 (prs n T)[i].2 ≤ 0
          · rw [if_pos h, if_neg (by omega)]
          · rw [if_neg h, if_pos (by omega)]
        rw [e]
        refine hc ((prs n T).length - (i + 1)) _ _ (by omega) ⟨i + 1, by omega, rfl, by simp, fun f hf => ?_, fun p h hp => ?_, (go.set rfl).set rfl⟩
        · rw [rd_if]
          unfold lgv
          rw [lsm_take _ _ _ hi]
          by_cases h : f = gvr S D (prs n T)[i].1 (prs n T)[i].2
          · subst h; rw [if_pos rfl, if_pos rfl]
          · rw [if_neg h, if_neg (fun e => h e.symm), rd_ne (by decide), g1 f hf, Int.add_zero]; rfl
        · rw [rd_ne (by decide), rd_if]
          by_cases h2 : p = i
          · subst h2; rw [if_pos rfl]
          · rw [if_neg h2]; exact g2 p h (by omega)
      rw [if_neg (by rw [iI_le (by omega) (by omega) (by omega) (by omega)]; omega), chk_in (by omega) (by omega) (by omega), iI_natc (by omega), q1, q2, q3, show t.1 14 = _ from hAt.2.2.2.2.1]
      rw [chk_in (by omega) (by omega) (by omega), chk_in (by omega) (by omega) (by omega), iI_natc (by omega), iI_natc (by omega), iI_mul, iI_sub]
      by_cases h : S (prs n T)[i].1 (prs n T)[i].2 ≤ 0
      · rw [if_pos (by rw [iI_le (by omega) (by omega) (by omega) (by omega)]; omega)]
        exact J 0 (by unfold flo; rw [if_neg (by omega)])
      · rw [if_neg (by rw [iI_le (by omega) (by omega) (by omega) (by omega)]; omega), chkD_in (by omega) (by omega) (by omega), iI_div (by omega) (by omega) (by omega) (by omega)]
        exact J _ (by unfold flo; rw [if_pos (by omega)])
    · have : i = (prs n T).length := by omega
      subst this
      rw [if_pos (by rw [iI_le (by omega) (by omega) (by omega) (by omega)]; omega)]
      refine ⟨t, rfl, fun f hf => ?_, fun p h => g2 p h h, go⟩
      rw [g1 f hf, List.take_length]
  · rw [rd_f, if_pos hf]; rfl
end WB1
