def alB (P : Nat → Bool) : Nat → Bool
  | 0 => true
  | i + 1 => alB P i && P i
theorem alB_t {P : Nat → Bool} : ∀ {n : Nat}, alB P n = true ↔ ∀ i, i < n → P i = true
  | 0 => by simp [alB]
  | n + 1 => by
    unfold alB
    rw [Bool.and_eq_true, alB_t (n := n)]
    refine ⟨fun ⟨h1, h2⟩ i hi => ?_, fun h => ⟨fun i hi => h i (by omega), h n (by omega)⟩⟩
    by_cases e : i = n
    · rw [e]; exact h2
    · exact h1 i (by omega)
theorem alB_f {P : Nat → Bool} {n i : Nat} (hi : i < n) (h : P i = false) : alB P n = false := by
  cases e : alB P n with
  | false => rfl
  | true => rw [alB_t.mp e i hi] at h; cases h
theorem alB_congr {P P' : Nat → Bool} {n : Nat} (h : ∀ i, i < n → P i = P' i) : alB P n = alB P' n := by
  cases e : alB P n with
  | true => exact (alB_t.mpr fun i hi => (h i hi) ▸ alB_t.mp e i hi).symm
  | false =>
    cases e' : alB P' n with
    | false => rfl
    | true => rw [alB_t.mpr fun i hi => (h i hi).symm ▸ alB_t.mp e' i hi] at e; cases e
theorem first_or (P : Nat → Bool) : ∀ n, (∀ i, i < n → P i = true) ∨ ∃ i, i < n ∧ P i = false ∧ ∀ j, j < i → P j = true
  | 0 => Or.inl fun i hi => by omega
  | n + 1 => by
    rcases first_or P n with h | ⟨i, h1, h2, h3⟩
    · cases e : P n with
      | true =>
        refine Or.inl fun i hi => ?_
        by_cases e2 : i = n
        · rw [e2]; exact e
        · exact h i (by omega)
      | false => exact Or.inr ⟨n, by omega, e, h⟩
    · exact Or.inr ⟨i, by omega, h2, h3⟩
theorem nb_tab : ∀ n : Fin 10, ∀ i : Fin 32, ((iI ((2 ^ n.val : Nat) : Int) - iI 1) ^^^ iI (-1)).toBitVec.getLsbD i.val = !(decide (i.val < n.val)) := by decide +kernel
theorem hasAll_iff {z : Int} {n : Nat} (h1 : -2147483648 ≤ z) (h2 : z ≤ 2147483647) (hn : n ≤ 9) : ((iI z &&& ((iI ((2 ^ n : Nat) : Int) - iI 1) ^^^ iI (-1))) = iI 0) = (0 ≤ z ∧ z < ((2 ^ n : Nat) : Int)) := by
  have hp : 2 ^ n ≤ 2 ^ 9 := Nat.pow_le_pow_right (by omega) hn
  have hx : (iI z).toBitVec.toNat = (z % 4294967296).toNat := by
    unfold iI; simp [Int32.toBitVec_ofInt]
  have key : ((iI z &&& ((iI ((2 ^ n : Nat) : Int) - iI 1) ^^^ iI (-1))) = iI 0) ↔ (iI z).toBitVec.toNat < 2 ^ n := by
    rw [← Int32.toBitVec_inj, Int32.toBitVec_and]
    constructor
    · intro h
      refine Nat.lt_pow_two_of_testBit _ fun i hi => ?_
      by_cases h32 : i < 32
      · have e := congrArg (fun v : BitVec 32 => v.getLsbD i) h
        simp only [BitVec.getLsbD_and] at e
        rw [nb_tab ⟨n, by omega⟩ ⟨i, h32⟩] at e
        simp only [show ¬ i < n by omega, decide_false, Bool.not_false, Bool.and_true] at e
        rw [← BitVec.testBit_toNat] at e
        rw [e]
        rw [show (iI 0).toBitVec = 0#32 from rfl]; simp
      · exact Nat.testBit_lt_two_pow (Nat.lt_of_lt_of_le (iI z).toBitVec.isLt (Nat.pow_le_pow_right (by omega) (by omega)))
    · intro h
      refine BitVec.eq_of_getLsbD_eq fun i h32 => ?_
      rw [BitVec.getLsbD_and, nb_tab ⟨n, by omega⟩ ⟨i, h32⟩, show (iI 0).toBitVec = 0#32 from rfl]
      by_cases hi : i < n
      · simp [hi]
      · rw [← BitVec.testBit_toNat, Nat.testBit_lt_two_pow (Nat.lt_of_lt_of_le h (Nat.pow_le_pow_right (by omega) (by omega)))]; simp
  rw [key, hx]
  apply propext
  omega
theorem W_isWithin {s : wM} {z lo hi : Int} (h1 : -2147483648 ≤ z) (h2 : z ≤ 2147483647) (h3 : -2147483648 ≤ lo) (h4 : lo ≤ 2147483647) (h5 : -2147483648 ≤ hi) (h6 : hi ≤ 2147483647) : fW_isWithin s (iI z) (iI lo) (iI hi) = some (bI (decide (lo ≤ z ∧ z ≤ hi))) := by
  simp only [fW_isWithin, fW_isWithin_J14, fW_isWithin_J15]
  simp (disch := omega) only [iI_add, iI_sub, iI_mul, iI_lt, iI_le, iI_eq, iI_natc, iI_nat, chk_in, chkZ_1, chkZ_0, iMax_i, iMin_i, iAbs_i, Option.bind_some, nmI, nmM, nmL, rd_ne, rd_at, rd_cne, rd_fne, rd_L, rd_2, rd_c2, rd_f2, if_true, if_false, Int.toNat_natCast, ne_eq]
  (repeat' split) <;> first | (rw [bI_n (by omega)]; done) | (rw [bI_d (by omega)]; done) | (exfalso; omega)
section WF3
variable {s : wM} {n : Nat} {T : Nat → Nat → Bool} {S : Nat → Nat → Int} {D : Nat → Int} {ap bk : Int}
theorem Land_everyone (hL : LW s n T S) (hn : n ≤ 9) : fLand_everyone s = some (iI ((2 ^ n : Nat) : Int) - iI 1) := by
  unfold fLand_everyone; rw [hL.1, shl1 (by omega)]
theorem Land_hasAll {z : Int} (hL : LW s n T S) (hn : n ≤ 9) (h1 : -2147483648 ≤ z) (h2 : z ≤ 2147483647) : fLand_hasAll s (iI z) = some (bI (decide (0 ≤ z ∧ z < ((2 ^ n : Nat) : Int)))) := by
  unfold fLand_hasAll fLand_hasAll_J16
  rw [Land_everyone hL hn, Option.bind_some]
  simp only [hasAll_iff h1 h2 hn, chkZ_1, chkZ_0]
  split
  · rw [bI_d (by assumption)]
  · rw [bI_n (by assumption)]
def fre (n : Nat) (ap : Int) (D : Nat → Int) (d : Int) (x : Nat) : Bool := alB (fun g => !(x.testBit g && decide (((d - D g).natAbs : Int) < ap))) n
theorem Land_isFree {d : Int} {x : Nat} (hS : Cty n T S) (hL : LW s n T S) (hD : Rw s 8 D) (bD : Bd D 0 99) (hr : s.1 11 0 = iI ap) (hap : 0 ≤ ap ∧ ap ≤ 9) (hd : 0 ≤ d ∧ d ≤ 1000) (hx : x < 512) : fLand_isFree s (iI d) (iI (x : Int)) = some (bI (fre n ap D d x)) := by
  have hn := hS.1
  have step : ∀ i : Nat, i < n → ∀ k, fLand_isFree_L2 (iI d) (iI (x : Int)) s (iI (i : Int)) k = if x.testBit i && decide (((d - D i).natAbs : Int) < ap) then some (iI 0) else k (iI ((i : Int) + 1)) := by
    intro i hi k
    have b2 := bD i
    unfold fLand_isFree_L2
    rw [hL.1, if_neg (by rw [iI_le (by omega) (by omega) (by omega) (by omega)]; omega)]
    rw [chk_in (by omega) (by omega) (by omega), iI_natc (by omega), show s.1 8 = _ from hD, Land_isNear hr hd (by omega) hap, Option.bind_some]
    simp only [has_bit hx (show i < 9 by omega), bI_0, fLand_isFree_J35, iI_add]
    by_cases h1 : x.testBit i = true
    · by_cases h2 : ((d - D i).natAbs : Int) < ap
      · simp [h1, h2]
      · simp [h1, h2]
    · simp [h1]
  have fin : ∀ k, fLand_isFree_L2 (iI d) (iI (x : Int)) s (iI (n : Int)) k = some (iI 1) := fun k => by
    unfold fLand_isFree_L2
    rw [hL.1, if_pos (by rw [iI_le (by omega) (by omega) (by omega) (by omega)]; omega)]
  unfold fLand_isFree
  rcases first_or (fun g => !(x.testBit g && decide (((d - D g).natAbs : Int) < ap))) n with h | ⟨i, h1, h2, h3⟩
  · rw [show fre n ap D d x = true from alB_t.mpr h, bI_t]
    refine for1 (i0 := 0) (n := n) (Nat.zero_le _) (by omega) (fun i _ hi k => ?_) fin
    rw [step i hi k, if_neg (by have := h i hi; simp only [Bool.not_eq_true'] at this; rw [this]; decide)]
  · rw [show fre n ap D d x = false from alB_f h1 h2, bI_f]
    refine for1 (i0 := 0) (n := i) (Nat.zero_le _) (by omega) (fun j _ hj k => ?_) (fun k => ?_)
    · rw [step j (by omega) k, if_neg (by have := h3 j hj; simp only [Bool.not_eq_true'] at this; rw [this]; decide)]
    · rw [step i h1 k, if_pos (by simpa using h2)]
end WF3
/-! the row -/
def RW (s : wM) (l : List Int32) : Prop := s.1 32 1 = iI (l.length : Int) ∧ ∀ j (h : j < l.length), s.1 33 j = l[j]
def RM (s : wM) (l : List Int32) : Prop := s.1 161 1 = iI (l.length : Int) ∧ ∀ j (h : j < l.length), s.1 162 j = l[j]
def KN : Nat → Nat → Bool := fun k _ => k == 32 || k == 33
def KMn : Nat → Nat → Bool := fun k j => (k == 161 && j == 1) || k == 162
theorem Num_clear {s : wM} : ∃ s', fNum_clear s = some s' ∧ RW s' [] ∧ Off KN s s' := ⟨_, rfl, ⟨rd_at, fun j h => by simp at h⟩, (Off.refl s).set rfl⟩
theorem Num_add {s : wM} {l : List Int32} {v : Int32} (h : RW s l) (hl : l.length < 10) : ∃ s', fNum_add s v = some s' ∧ RW s' (l ++ [v]) ∧ Off KN s s' := by
  unfold fNum_add fNum_add_J29
  rw [h.1, if_neg (by rw [iI_le (by omega) (by omega) (by omega) (by omega)]; omega), chk_in (by omega) (by omega) (by omega), iI_natc (by omega)]
  refine ⟨_, rfl, ⟨?_, fun j hj => ?_⟩, ((Off.refl s).set rfl).set rfl⟩
  · rw [rd_at, rd_ne (by decide), h.1, iI_add]; simp
  · rw [rd_ne (by decide), rd_if]
    simp at hj
    by_cases e : j = l.length
    · subst e; simp
    · rw [if_neg e, h.2 j (by omega), List.getElem_append_left]
theorem Num_tell {s : wM} {v : Int32} : ∃ s', fNum_tell s v = some s' ∧ RW s' [v] ∧ Off KN s s' := by
  obtain ⟨s1, e1, r1, o1⟩ := Num_clear (s := s)
  obtain ⟨s2, e2, r2, o2⟩ := Num_add (v := v) r1 (by simp)
  unfold fNum_tell
  rw [e1, Option.bind_some, e2, Option.bind_some]
  exact ⟨s2, rfl, r2, o1.trans o2⟩
theorem M_rows0 {s : wM} : RM (wsI s 161 1 (iI 0)) [] := ⟨rd_at, fun j h => by simp at h⟩
theorem M_enters {s : wM} {l : List Int32} {v : Int32} (h : RM s l) (hl : l.length < 24) : ∃ s', fM_enters s v = some s' ∧ RM s' (l ++ [v]) ∧ Off KMn s s' := by
  unfold fM_enters
  rw [h.1, chk_in (by omega) (by omega) (by omega), iI_natc (by omega)]
  refine ⟨_, rfl, ⟨?_, fun j hj => ?_⟩, ((Off.refl s).set rfl).set rfl⟩
  · rw [rd_at, rd_ne (by decide), h.1, iI_add]; simp
  · rw [rd_ne (by decide), rd_if]
    simp at hj
    by_cases e : j = l.length
    · subst e; simp
    · rw [if_neg e, h.2 j (by omega), List.getElem_append_left]
