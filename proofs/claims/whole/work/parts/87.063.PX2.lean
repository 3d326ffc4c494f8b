/-! the program's table -/
theorem or_gap {a v k : Nat} (h : a / 2 ^ k % 65536 = 0) (hv : v < 65536) : a ||| v * 2 ^ k = a + v * 2 ^ k := by
  obtain ⟨hi, hh⟩ : ∃ hi, a / 2 ^ k = 65536 * hi := ⟨a / 2 ^ k / 65536, by omega⟩
  have hlo := Nat.mod_lt a (Nat.two_pow_pos k)
  have ha : a = 2 ^ (k + 16) * hi + a % 2 ^ k := by
    have := Nat.div_add_mod a (2 ^ k)
    rw [hh, ← Nat.mul_assoc] at this
    rw [Nat.pow_add]; exact this.symm
  generalize a % 2 ^ k = lo at ha hlo
  have e1 : 2 ^ k * v + lo = 2 ^ k * v ||| lo := Nat.two_pow_add_eq_or_of_lt hlo v
  have h2 : 2 ^ k * v + lo < 2 ^ (k + 16) := by
    have : 2 ^ k * v + 2 ^ k ≤ 2 ^ k * 65536 := by
      rw [← Nat.mul_succ]; exact Nat.mul_le_mul_left _ (by omega)
    rw [Nat.pow_add]; omega
  have e2 : 2 ^ (k + 16) * hi + (2 ^ k * v + lo) = 2 ^ (k + 16) * hi ||| (2 ^ k * v + lo) := Nat.two_pow_add_eq_or_of_lt h2 hi
  have h3 : lo < 2 ^ (k + 16) := by rw [Nat.pow_add]; omega
  have e3 : 2 ^ (k + 16) * hi + lo = 2 ^ (k + 16) * hi ||| lo := Nat.two_pow_add_eq_or_of_lt h3 hi
  rw [ha, e3, Nat.or_assoc, Nat.mul_comm v, Nat.or_comm lo, ← e1, ← e2, ← e3]
  omega
theorem lor_gap {a v k : Nat} (h : a / 2 ^ k % 65536 = 0) (hv : v < 65536) (h2 : a + v * 2 ^ k < 9223372036854775808) : lNn a ||| lNn (v * 2 ^ k) = lNn (a + v * 2 ^ k) := by
  refine lN_of h2 ?_
  rw [Int64.toBitVec_or, BitVec.toNat_or, lN_tn (by omega), lN_tn (by omega), or_gap h hv]
def q4 (σ : Nat → Nat) (q : Nat) : Nat := σ (4 * q) + σ (4 * q + 1) * 65536 + σ (4 * q + 2) * 4294967296 + σ (4 * q + 3) * 281474976710656
theorem q4_lt {σ : Nat → Nat} (h : ∀ p, σ p ≤ 3000) (q : Nat) : q4 σ q < 9223372036854775808 := by
  have h0 := h (4 * q)
  have h1 := h (4 * q + 1)
  have h2 := h (4 * q + 2)
  have h3 := h (4 * q + 3)
  unfold q4; omega
theorem q4_rd {σ : Nat → Nat} (h : ∀ p, σ p ≤ 3000) (p : Nat) : q4 σ (p / 4) / 2 ^ (p % 4 * 16) % 65536 = σ p := by
  have h0 := h (4 * (p / 4))
  have h1 := h (4 * (p / 4) + 1)
  have h2 := h (4 * (p / 4) + 2)
  have h3 := h (4 * (p / 4) + 3)
  have hr : p % 4 < 4 := Nat.mod_lt _ (by omega)
  unfold q4
  rcases (show p % 4 = 0 ∨ p % 4 = 1 ∨ p % 4 = 2 ∨ p % 4 = 3 by omega) with e | e | e | e
  · rw [e, show σ p = σ (4 * (p / 4)) by rw [show p = 4 * (p / 4) by omega, show 4 * (4 * (p / 4) / 4) = 4 * (p / 4) by omega]]; simp; omega
  · rw [e, show σ p = σ (4 * (p / 4) + 1) from congrArg σ (by omega)]; simp; omega
  · rw [e, show σ p = σ (4 * (p / 4) + 2) from congrArg σ (by omega)]; simp; omega
  · rw [e, show σ p = σ (4 * (p / 4) + 3) from congrArg σ (by omega)]; simp; omega
theorem q4_up {σ : Nat → Nat} {p v : Nat} (h0 : σ p = 0) : q4 (fun q => if q = p then v else σ q) (p / 4) = q4 σ (p / 4) + v * 2 ^ (p % 4 * 16) := by
  unfold q4
  dsimp only
  rcases (show p % 4 = 0 ∨ p % 4 = 1 ∨ p % 4 = 2 ∨ p % 4 = 3 by omega) with e | e | e | e
  · rw [if_pos (show 4 * (p / 4) = p by omega), if_neg (show ¬ 4 * (p / 4) + 1 = p by omega), if_neg (show ¬ 4 * (p / 4) + 2 = p by omega), if_neg (show ¬ 4 * (p / 4) + 3 = p by omega), e, show 4 * (p / 4) = p by omega, h0]; omega
  · rw [if_neg (show ¬ 4 * (p / 4) = p by omega), if_pos (show 4 * (p / 4) + 1 = p by omega), if_neg (show ¬ 4 * (p / 4) + 2 = p by omega), if_neg (show ¬ 4 * (p / 4) + 3 = p by omega), e, show 4 * (p / 4) + 1 = p by omega, h0]; omega
  · rw [if_neg (show ¬ 4 * (p / 4) = p by omega), if_neg (show ¬ 4 * (p / 4) + 1 = p by omega), if_pos (show 4 * (p / 4) + 2 = p by omega), if_neg (show ¬ 4 * (p / 4) + 3 = p by omega), e, show 4 * (p / 4) + 2 = p by omega, h0]; omega
  · rw [if_neg (show ¬ 4 * (p / 4) = p by omega), if_neg (show ¬ 4 * (p / 4) + 1 = p by omega), if_neg (show ¬ 4 * (p / 4) + 2 = p by omega), if_pos (show 4 * (p / 4) + 3 = p by omega), e, show 4 * (p / 4) + 3 = p by omega, h0]; omega
theorem q4_ot {σ : Nat → Nat} {p v q : Nat} (h : q ≠ p / 4) : q4 (fun q => if q = p then v else σ q) q = q4 σ q := by
  unfold q4
  dsimp only
  rw [if_neg (show ¬ 4 * q = p by omega), if_neg (show ¬ 4 * q + 1 = p by omega), if_neg (show ¬ 4 * q + 2 = p by omega), if_neg (show ¬ 4 * q + 3 = p by omega)]
theorem whs_ex : ∃ f : Nat → Nat, ∀ x, f x < 8192 ∧ (lUshr (lNn x * (-7046029254386353131 : Int64)) (iI 51)).toInt32 = iI (f x : Int) := by
  refine ⟨fun x => (lNn x * (-7046029254386353131 : Int64)).toBitVec.toNat / 2 ^ 51, fun x => ?_⟩
  dsimp only
  have h0 := (lNn x * (-7046029254386353131 : Int64)).toBitVec.isLt
  generalize lNn x * (-7046029254386353131 : Int64) = y at h0 ⊢
  refine ⟨by omega, ?_⟩
  rw [show lUshr y (iI 51) = lNn (y.toBitVec.toNat / 2 ^ 51) from ?_, lto32]
  refine lN_of (by omega) ?_
  rw [show iI (51 : Int) = iI ((51 : Nat) : Int) from rfl, lUshr_bv _ (by omega), BitVec.toNat_ushiftRight, Nat.shiftRight_eq_div_pow]
noncomputable def whs : Nat → Nat := Classical.choose whs_ex
theorem whs_lt (x : Nat) : whs x < 8192 := (Classical.choose_spec whs_ex x).1
theorem whs_eq (x : Nat) : (lUshr (lNn x * (-7046029254386353131 : Int64)) (iI 51)).toInt32 = iI (whs x : Int) := (Classical.choose_spec whs_ex x).2
theorem i8191 (x : Nat) : iI (x : Int) &&& iI 8191 = iI ((x % 8192 : Nat) : Int) := by
  have hl : x % 8192 < 8192 := Nat.mod_lt _ (by decide)
  rw [← Int32.toBitVec_inj, Int32.toBitVec_and, iI_bv, iI_bv, show (iI 8191).toBitVec = BitVec.ofNat 32 8191 from rfl]
  apply BitVec.eq_of_toNat_eq
  rw [BitVec.toNat_and, BitVec.toNat_ofNat, BitVec.toNat_ofNat, BitVec.toNat_ofNat, show 8191 % 2 ^ 32 = 2 ^ 13 - 1 from rfl, Nat.and_two_pow_sub_one_eq_mod, Nat.mod_eq_of_lt (show x % 8192 < 2 ^ 32 by omega)]
  omega
theorem iRem4 {p : Nat} (h : p < 1000000) : iRem (iI (p : Int)) (iI 4) = iI ((p % 4 : Nat) : Int) := by
  unfold iRem
  rw [iI_div (by omega) (by omega) (by omega) (by omega), iI_mul, iI_sub, Int.tdiv_eq_ediv_of_nonneg (by omega)]
  congr 1; omega
theorem iDiv4 {p : Nat} (h : p < 1000000) : iI (p : Int) / iI 4 = iI ((p / 4 : Nat) : Int) := by
  rw [iI_div (by omega) (by omega) (by omega) (by omega), Int.tdiv_eq_ediv_of_nonneg (by omega)]
  congr 1
