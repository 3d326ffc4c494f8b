section MZ
variable {s t : wM} {n : Nat} {T : Nat → Nat → Bool} {S : Nat → Nat → Int} {D : Nat → Int} {ap bk : Int} {k : Nat}
theorem M_isEven' {a b : Nat} (hL : LM s n T S) (hD : ∀ j, j < n → s.1 k j = iI (D j)) (bD : Bn n D) (hr : s.1 168 0 = iI ap) (hap : 0 ≤ ap ∧ ap ≤ 9) (hn : n ≤ 9) (ha : a < n) (hb : b < n) : fM_isEven s k (iI (a : Int)) (iI (b : Int)) = some (bI (ev T ap D a b)) := by
  have b1 := bD a ha
  have b2 := bD b hb
  simp only [fM_isEven, fM_isEven_J36, fM_isEven_J37, iI_natc (show a ≤ 2147483647 by omega), iI_natc (show b ≤ 2147483647 by omega), M_tb hL (show a < 9 by omega) (show b < 9 by omega), Option.bind_some, bI_0, hD a ha, hD b hb, z0, hr]
  simp (disch := omega) only [iI_add, iI_sub, iI_mul, iI_lt, iI_le, iI_eq, iI_natc, iI_nat, chk_in, chkZ_1, chkZ_0, iMax_i, iMin_i, iAbs_i, Option.bind_some, nmI, nmM, nmL, rd_ne, rd_at, rd_cne, rd_fne, rd_L, rd_2, rd_c2, rd_f2, if_true, if_false, Int.toNat_natCast, ne_eq]
  unfold ev
  cases T a b
  · rfl
  · by_cases h : ap ≤ ((D a - D b).natAbs : Int)
    · simp [h, show ¬ ((D a - D b).natAbs : Int) < ap by omega]; rfl
    · simp [h, show ((D a - D b).natAbs : Int) < ap by omega]; rfl
theorem M_evenWith' {a : Nat} (hS : Cty n T S) (hL : LM s n T S) (hD : ∀ j, j < n → s.1 k j = iI (D j)) (bD : Bn n D) (hr : s.1 168 0 = iI ap) (hap : 0 ≤ ap ∧ ap ≤ 9) (ha : a < n) : fM_evenWith s k (iI (a : Int)) = some (iI ((bt (ev T ap D a) n : Nat) : Int)) := by
  have hn := hS.1
  unfold fM_evenWith
  refine for2a (fun i => iI ((bt (ev T ap D a) i : Nat) : Int)) (i0 := 0) (n := n) (Nat.zero_le _) (by omega) (fun i _ hi c => ?_) (fun c => ?_)
  · unfold fM_evenWith_L5
    rw [hL.1, if_neg (by rw [iI_le (by omega) (by omega) (by omega) (by omega)]; omega), M_isEven' hL hD bD hr hap hn ha hi, Option.bind_some]
    simp only [iI_eq (a := (i : Int)) (b := (a : Int)) (by omega) (by omega) (by omega) (by omega), fM_evenWith_J39, fM_evenWith_J40, ← bt_or (P := ev T ap D a) (i := i) (by omega), shl1 (i := i) (by omega), iI_add, bI_0]
    by_cases h1 : (i : Int) = (a : Int)
    · have : i = a := by omega
      subst this
      have ht : T i i = false := by
        cases h : T i i with
        | false => rfl
        | true => have := hS.2.2.1 i i h; omega
      have : ev T ap D i i = false := by unfold ev; rw [ht]; rfl
      simp [this]
    · rw [if_neg h1]
      by_cases h : ev T ap D a i = true
      · simp [h]
      · simp [h]
  · unfold fM_evenWith_L5
    rw [hL.1, if_pos (by rw [iI_le (by omega) (by omega) (by omega) (by omega)]; omega)]
theorem M_evenPairs' (hS : Cty n T S) (hL : LM s n T S) (hD : ∀ j, j < n → s.1 k j = iI (D j)) (bD : Bn n D) (hr : s.1 168 0 = iI ap) (hap : 0 ≤ ap ∧ ap ≤ 9) : fM_evenPairs s k = some (iI (ep n T ap D)) := by
  have hn := hS.1
  unfold fM_evenPairs
  refine for2a (fun i => iI (sm (fun a => (cnt (ev T ap D a) n : Int)) i)) (i0 := 0) (n := n) (Nat.zero_le _) (by omega) (fun i _ hi c => ?_) (fun c => ?_)
  · unfold fM_evenPairs_L4
    rw [hL.1, if_neg (by rw [iI_le (by omega) (by omega) (by omega) (by omega)]; omega), M_evenWith' hS hL hD bD hr hap hi, Option.bind_some, bitc_bt hn, Option.bind_some, iI_add, iI_add]; rfl
  · unfold fM_evenPairs_L4
    have h2 := ep2_ep hS ap D
    have hb := ep_bd hn T ap D
    rw [hL.1, if_pos (by rw [iI_le (by omega) (by omega) (by omega) (by omega)]; omega)]
    rw [show sm (fun a => (cnt (ev T ap D a) n : Int)) n = ep2 n T ap D from rfl, iI_div (by omega) (by omega) (by omega) (by omega), h2, Int.mul_tdiv_cancel_left _ (by decide)]
end MZ
