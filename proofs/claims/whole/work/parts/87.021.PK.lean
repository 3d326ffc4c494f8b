def uT (T : Nat → Nat → Bool) (a b : Nat) (c : Bool) : Nat → Nat → Bool := fun x y => if (x = a ∧ y = b) ∨ (x = b ∧ y = a) then c else T x y
def uS (S : Nat → Nat → Int) (a b : Nat) (v : Int) : Nat → Nat → Int := fun x y => if (x = a ∧ y = b) ∨ (x = b ∧ y = a) then v else S x y
theorem Cty.set {n : Nat} {T : Nat → Nat → Bool} {S : Nat → Nat → Int} {a b : Nat} {c : Bool} {v : Int} (h : Cty n T S) (ha : a < n) (hb : b < n) (hab : a ≠ b) (hv : 0 ≤ v ∧ v ≤ 9) : Cty n (uT T a b c) (uS S a b v) := by
  obtain ⟨h1, h2, h3, h4, h5⟩ := h
  refine ⟨h1, fun x y => ?_, fun x y hx => ?_, fun x y => ?_, fun x y => ?_⟩
  · unfold uT
    by_cases e : (x = a ∧ y = b) ∨ (x = b ∧ y = a)
    · rw [if_pos e, if_pos (by omega)]
    · rw [if_neg e, if_neg (by omega), h2]
  · unfold uT at hx
    by_cases e : (x = a ∧ y = b) ∨ (x = b ∧ y = a)
    · omega
    · rw [if_neg e] at hx; exact h3 x y hx
  · unfold uS
    by_cases e : (x = a ∧ y = b) ∨ (x = b ∧ y = a)
    · rw [if_pos e, if_pos (by omega)]
    · rw [if_neg e, if_neg (by omega), h4]
  · unfold uS
    split
    · exact hv
    · exact h5 x y
set_option maxRecDepth 100000 in
theorem or_tab : ∀ x : Fin 512, ∀ j : Fin 9, iI ((x.val : Nat) : Int) ||| iI ((2 ^ j.val : Nat) : Int) = iI ((x.val ||| 2 ^ j.val : Nat) : Int) := by decide +kernel
set_option maxRecDepth 100000 in
theorem an_tab : ∀ x : Fin 512, ∀ j : Fin 9, iI ((x.val : Nat) : Int) &&& (iI ((2 ^ j.val : Nat) : Int) ^^^ iI (-1)) = iI ((x.val &&& (511 ^^^ 2 ^ j.val) : Nat) : Int) := by decide +kernel
theorem bt_ext9 {P Q : Nat → Bool} {x : Nat} (hx : x < 512) (h : ∀ j, j < 9 → x.testBit j = Q j) : x = bt Q 9 := by
  refine Nat.eq_of_testBit_eq fun j => ?_
  rw [bt_bit]
  by_cases hj : j < 9
  · simp [hj, h j hj]
  · simp [hj]
    exact Nat.testBit_lt_two_pow (Nat.lt_of_lt_of_le hx (show 2 ^ 9 ≤ 2 ^ j from Nat.pow_le_pow_right (by omega) (by omega)))
theorem bt_set {P : Nat → Bool} {b : Nat} (hb : b < 9) : iI ((bt P 9 : Nat) : Int) ||| iI ((2 ^ b : Nat) : Int) = iI ((bt (fun y => if y = b then true else P y) 9 : Nat) : Int) := by
  have h := or_tab ⟨bt P 9, bt_lt9 P (Nat.le_refl 9)⟩ ⟨b, hb⟩
  simp only at h
  rw [h]
  have hp : 2 ^ b ≤ 2 ^ 8 := Nat.pow_le_pow_right (by omega) (by omega)
  rw [bt_ext9 (P := P) (Q := fun y => if y = b then true else P y) (x := bt P 9 ||| 2 ^ b)]
  · exact Nat.or_lt_two_pow (n := 9) (bt_lt9 P (Nat.le_refl 9)) (by omega)
  · intro j hj
    rw [Nat.testBit_or, bt_bit, Nat.testBit_two_pow]
    by_cases e : j = b
    · subst e; simp
    · simp [e, hj, show ¬ b = j from fun h => e h.symm]
theorem bt_clr {P : Nat → Bool} {b : Nat} (hb : b < 9) : iI ((bt P 9 : Nat) : Int) &&& (iI ((2 ^ b : Nat) : Int) ^^^ iI (-1)) = iI ((bt (fun y => if y = b then false else P y) 9 : Nat) : Int) := by
  have h := an_tab ⟨bt P 9, bt_lt9 P (Nat.le_refl 9)⟩ ⟨b, hb⟩
  simp only at h
  rw [h, bt_ext9 (P := P) (Q := fun y => if y = b then false else P y) (x := bt P 9 &&& (511 ^^^ 2 ^ b))]
  · exact Nat.lt_of_le_of_lt Nat.and_le_left (bt_lt9 P (Nat.le_refl 9))
  · intro j hj
    rw [Nat.testBit_and, bt_bit, Nat.testBit_xor, Nat.testBit_two_pow, show 511 = 2 ^ 9 - 1 from rfl, Nat.testBit_two_pow_sub_one]
    by_cases e : j = b
    · subst e; simp [hj]
    · simp [e, hj, show ¬ b = j from fun h => e h.symm]
theorem M_touchBy {s : wM} {n : Nat} {T : Nat → Nat → Bool} {S : Nat → Nat → Int} {a b : Nat} {v : Int} (hL : LM s n T S) (ha : a < 9) (hb : b < 9) (hab : a ≠ b) (hv : -1 ≤ v ∧ v ≤ 9) : ∃ s', fM_touchBy s (iI (a : Int)) (iI (b : Int)) (iI v) = some s' ∧ LM s' n (uT T a b (decide (0 ≤ v))) (uS S a b (max 0 v)) ∧ Off (fun k _ => k == 165 || k == 166) s s' := by
  have e : fM_touchBy s (iI (a : Int)) (iI (b : Int)) (iI v) = some (wsI (wsI (wsI (wsI s 165 a (iI ((bt (fun y => if y = b then decide (0 ≤ v) else T a y) 9 : Nat) : Int))) 165 b (iI ((bt (fun y => if y = a then decide (0 ≤ v) else T b y) 9 : Nat) : Int))) 166 (9 * a + b) (iI (max 0 v))) 166 (9 * b + a) (iI (max 0 v))) := by
    unfold fM_touchBy fM_touchBy_J34 fM_touchBy_J69
    simp only [nmM, iI_natc (show a ≤ 2147483647 by omega), iI_natc (show b ≤ 2147483647 by omega), iI_mul, iI_add, iI_ix' (show a < 1000000 by omega) (show b < 1000000 by omega), iI_ix' (show b < 1000000 by omega) (show a < 1000000 by omega), chk_in (a := (a : Int)) (n := 9) (by omega) (by omega) (by omega), chk_in (a := (b : Int)) (n := 9) (by omega) (by omega) (by omega), chk_in (a := 9 * (a : Int) + (b : Int)) (n := 81) (by omega) (by omega) (by omega), chk_in (a := 9 * (b : Int) + (a : Int)) (n := 81) (by omega) (by omega) (by omega), hL.2.1 a ha, hL.2.1 b hb, rd_of (show b ≠ a from hab.symm), shl1 (show a < 31 by omega), shl1 (show b < 31 by omega), bt_set ha, bt_set hb, bt_clr ha, bt_clr hb, iMax_i (a := 0) (b := v) (by omega) (by omega) (by omega) (by omega), iI_le (a := 0) (b := v) (by omega) (by omega) (by omega) (by omega)]
    by_cases h : 0 ≤ v
    · simp [h]
    · simp [h]
  refine ⟨_, e, ⟨?_, fun x hx => ?_, fun x y hx hy hT => ?_⟩, (((Off.refl s).set rfl).set rfl).set rfl |>.set rfl⟩
  · rw [rd_ne (by decide), rd_ne (by decide), rd_ne (by decide), rd_ne (by decide)]; exact hL.1
  · rw [rd_ne (by decide), rd_ne (by decide), rd_if]
    by_cases e1 : x = b
    · subst e1
      rw [if_pos rfl, bt_congr]
      intro j hj; unfold uT
      by_cases e2 : j = a
      · rw [if_pos e2, if_pos (by omega)]
      · rw [if_neg e2, if_neg (by omega)]
    · rw [if_neg e1, rd_if]
      by_cases e2 : x = a
      · subst e2
        rw [if_pos rfl, bt_congr]
        intro j hj; unfold uT
        by_cases e3 : j = b
        · rw [if_pos e3, if_pos (by omega)]
        · rw [if_neg e3, if_neg (by omega)]
      · rw [if_neg e2, hL.2.1 x hx, bt_congr]
        intro j hj; unfold uT; rw [if_neg (by omega)]
  · unfold uT at hT
    unfold uS
    by_cases e1 : (x = a ∧ y = b) ∨ (x = b ∧ y = a)
    · rw [if_pos e1]
      rcases e1 with ⟨rfl, rfl⟩ | ⟨rfl, rfl⟩
      · rw [rd_if]
        by_cases h : 9 * x + y = 9 * y + x
        · rw [if_pos h]
        · rw [if_neg h, rd_at]
      · rw [rd_at]
    · rw [if_neg e1] at hT ⊢
      rw [rd_if, if_neg (by omega), rd_if, if_neg (by omega), rd_ne (by decide), rd_ne (by decide)]
      exact hL.2.2 x y hx hy hT
theorem W_join {s : wM} {n : Nat} {T : Nat → Nat → Bool} {S : Nat → Nat → Int} {a b : Nat} {v : Int} (hL : LW s n T S) (ha : a < 9) (hb : b < 9) (hab : a ≠ b) (hv : -1 ≤ v ∧ v ≤ 9) : ∃ s', fLand_join s (iI (a : Int)) (iI (b : Int)) (iI v) = some s' ∧ LW s' n (uT T a b (decide (0 ≤ v))) (uS S a b (max 0 v)) ∧ Off (fun k _ => k == 12) s s' := by
  have e : fLand_join s (iI (a : Int)) (iI (b : Int)) (iI v) = some (wsI (wsI s 12 (9 * a + b) (iI v)) 12 (9 * b + a) (iI v)) := by
    unfold fLand_join
    simp only [nmM, iI_mul, iI_add, iI_ix (show a < 1000000 by omega) (show b < 1000000 by omega), iI_ix (show b < 1000000 by omega) (show a < 1000000 by omega), chk_in (a := (a : Int) * 9 + (b : Int)) (n := 81) (by omega) (by omega) (by omega), chk_in (a := (b : Int) * 9 + (a : Int)) (n := 81) (by omega) (by omega) (by omega)]
  refine ⟨_, e, ⟨?_, fun x y hx hy => ?_⟩, ((Off.refl s).set rfl).set rfl⟩
  · rw [rd_ne (by decide), rd_ne (by decide)]; exact hL.1
  · unfold uT uS
    by_cases e1 : (x = a ∧ y = b) ∨ (x = b ∧ y = a)
    · rw [if_pos e1, if_pos e1]
      have : (wsI (wsI s 12 (9 * a + b) (iI v)) 12 (9 * b + a) (iI v)).1 12 (9 * x + y) = iI v := by
        rw [rd_if, rd_if]
        rcases e1 with ⟨rfl, rfl⟩ | ⟨rfl, rfl⟩
        · by_cases h : 9 * x + y = 9 * y + x
          · rw [if_pos h]
          · rw [if_neg h, if_pos rfl]
        · rw [if_pos rfl]
      rw [this]
      by_cases h : 0 ≤ v
      · simp [h, Int.max_eq_right h]
      · simp [h]; congr 1; omega
    · rw [if_neg e1, if_neg e1, rd_if, if_neg (by omega), rd_if, if_neg (by omega)]
      exact hL.2 x y hx hy
/-! the pairs are told once each -/
theorem row_nodup (T : Nat → Nat → Bool) (a : Nat) : ∀ b, (rowL T a b).Nodup
  | 0 => List.nodup_nil
  | b + 1 => by
    simp only [rowL]
    rw [List.nodup_append]
    refine ⟨row_nodup T a b, by split <;> simp, fun x hx y hy => ?_⟩
    have := mem_row.mp hx
    split at hy
    · simp at hy; subst hy; intro h; subst h; simp at this
    · cases hy
theorem prL_nodup (T : Nat → Nat → Bool) (n : Nat) : ∀ a, (prL T n a).Nodup
  | 0 => List.nodup_nil
  | a + 1 => by
    simp only [prL]
    rw [List.nodup_append]
    refine ⟨prL_nodup T n a, row_nodup T a n, fun x hx y hy => ?_⟩
    have h1 := mem_prL.mp hx
    have h2 := mem_row.mp hy
    intro h; subst h; omega
theorem prs_inj {n : Nat} {T : Nat → Nat → Bool} {p q : Nat} (hp : p < (prs n T).length) (hq : q < (prs n T).length) (h : (prs n T)[p] = (prs n T)[q]) : p = q := by
  have hN := List.pairwise_iff_getElem.mp (prL_nodup T n n)
  by_cases h1 : p < q
  · exact absurd h (hN p q hp hq h1)
  · by_cases h2 : q < p
    · exact absurd h.symm (hN q p hq hp h2)
    · omega
