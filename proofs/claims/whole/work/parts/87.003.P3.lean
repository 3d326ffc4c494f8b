def bI (b : Bool) : Int32 := if b then iI 1 else iI 0
theorem bI_0 (b : Bool) : (bI b = iI 0) = (b = false) := by cases b <;> decide
theorem bI_1 (b : Bool) : (bI b = iI 1) = (b = true) := by cases b <;> decide
theorem bI_t : bI true = iI 1 := rfl
theorem bI_f : bI false = iI 0 := rfl
theorem bI_d {P : Prop} [Decidable P] (h : P) : bI (decide P) = iI 1 := by rw [decide_eq_true h]; rfl
theorem bI_n {P : Prop} [Decidable P] (h : ¬ P) : bI (decide P) = iI 0 := by rw [decide_eq_false h]; rfl
theorem chkZ_b {ρ : Type} {b : Bool} {k : Option ρ} : chkZ (bI b) k = k := by cases b; exact chkZ_0; exact chkZ_1
theorem exI (x : Int32) : ∃ z : Int, -2147483648 ≤ z ∧ z ≤ 2147483647 ∧ x = iI z := ⟨x.toInt, Int32.le_toInt x, by have := Int32.toInt_lt x; omega, (iI_of x).symm⟩
theorem iteB {α : Type} (b : Bool) (x y : α) : (if b = false then x else y) = (if b then y else x) := by cases b <;> rfl
theorem iI_ix {a b : Nat} (ha : a < 1000000) (hb : b < 1000000) : (iI ((a : Int) * 9 + (b : Int))).toNatClampNeg = 9 * a + b := by
  rw [iI_nat (by omega) (by omega)]; omega
theorem iI_ix' {a b : Nat} (ha : a < 1000000) (hb : b < 1000000) : (iI (9 * (a : Int) + (b : Int))).toNatClampNeg = 9 * a + b := by
  rw [iI_nat (by omega) (by omega)]; omega
/-! what a change leaves as it was -/
def Off (K : Nat → Nat → Bool) (s s' : wM) : Prop := ∀ k j, K k j = false → s'.1 k j = s.1 k j
theorem Off.refl {K : Nat → Nat → Bool} (s : wM) : Off K s s := fun _ _ _ => rfl
theorem Off.trans {K : Nat → Nat → Bool} {s t u : wM} (h1 : Off K s t) (h2 : Off K t u) : Off K s u := fun k j h => (h2 k j h).trans (h1 k j h)
theorem Off.mono {K K' : Nat → Nat → Bool} {s t : wM} (h1 : Off K s t) (h : ∀ k j, K' k j = false → K k j = false) : Off K' s t := fun k j hk => h1 k j (h k j hk)
theorem Off.row {K : Nat → Nat → Bool} {s t : wM} (h1 : Off K s t) {k : Nat} (h : ∀ j, K k j = false) : t.1 k = s.1 k := funext fun j => h1 k j (h j)
theorem Off.set {K : Nat → Nat → Bool} {s t : wM} {k j : Nat} {v : Int32} (h1 : Off K s t) (h : K k j = true) : Off K s (wsI t k j v) := fun a b hk => by
  have : ¬ (a = k ∧ b = j) := fun ⟨e1, e2⟩ => by rw [e1, e2, h] at hk; cases hk
  show (if a = k ∧ b = j then v else t.1 a b) = _
  rw [if_neg this]; exact h1 a b hk
theorem Off.cpy {K : Nat → Nat → Bool} {s t : wM} {k k2 x y n : Nat} (h1 : Off K s t) (h : ∀ j, K k2 j = true) : Off K s (wCpy t k k2 x y n) := fun a b hk => by
  have : ¬ (a = k2 ∧ y ≤ b ∧ b < y + n) := fun ⟨e1, _⟩ => by rw [e1, h] at hk; cases hk
  show (if a = k2 ∧ y ≤ b ∧ b < y + n then t.1 k (x + (b - y)) else t.1 a b) = _
  rw [if_neg this]; exact h1 a b hk
theorem Off.fil {K : Nat → Nat → Bool} {s t : wM} {k n : Nat} {v : Int32} (h1 : Off K s t) (h : ∀ j, K k j = true) : Off K s (wFillI t k n v) := fun a b hk => by
  have : ¬ (a = k ∧ b < n) := fun ⟨e1, _⟩ => by rw [e1, h] at hk; cases hk
  show (if a = k ∧ b < n then v else t.1 a b) = _
  rw [if_neg this]; exact h1 a b hk
theorem Off.setL {K : Nat → Nat → Bool} {s t : wM} {k j : Nat} {v : Int64} (h1 : Off K s t) : Off K s (wsL t k j v) := h1
theorem Off.filL {K : Nat → Nat → Bool} {s t : wM} {k n : Nat} {v : Int64} (h1 : Off K s t) : Off K s (wFillL t k n v) := h1
/-! the county -/
def Cty (n : Nat) (T : Nat → Nat → Bool) (S : Nat → Nat → Int) : Prop := n ≤ 9 ∧ (∀ a b, T a b = T b a) ∧ (∀ a b, T a b = true → a < n ∧ b < n ∧ a ≠ b) ∧ (∀ a b, S a b = S b a) ∧ (∀ a b, 0 ≤ S a b ∧ S a b ≤ 9)
def LW (s : wM) (n : Nat) (T : Nat → Nat → Bool) (S : Nat → Nat → Int) : Prop := s.1 7 4 = iI (n : Int) ∧ ∀ a b, a < 9 → b < 9 → s.1 12 (9 * a + b) = if T a b then iI (S a b) else iI (-1)
def LM (s : wM) (n : Nat) (T : Nat → Nat → Bool) (S : Nat → Nat → Int) : Prop := s.1 161 3 = iI (n : Int) ∧ (∀ a, a < 9 → s.1 165 a = iI ((bt (T a) 9 : Nat) : Int)) ∧ ∀ a b, a < 9 → b < 9 → T a b = true → s.1 166 (9 * a + b) = iI (S a b)
/-- a row of depths -/
def Rw (s : wM) (k : Nat) (D : Nat → Int) : Prop := s.1 k = fun j => iI (D j)
def Bd (D : Nat → Int) (lo hi : Int) : Prop := ∀ j, lo ≤ D j ∧ D j ≤ hi
def ev (T : Nat → Nat → Bool) (ap : Int) (D : Nat → Int) (a b : Nat) : Bool := T a b && decide (((D a - D b).natAbs : Int) < ap)
theorem ev_symm {T : Nat → Nat → Bool} (hT : ∀ a b, T a b = T b a) (ap : Int) (D : Nat → Int) (a b : Nat) : ev T ap D a b = ev T ap D b a := by
  unfold ev; rw [hT a b]; congr 2
  rw [show D a - D b = -(D b - D a) by omega, Int.natAbs_neg]
section WF
variable {s : wM} {n : Nat} {T : Nat → Nat → Bool} {S : Nat → Nat → Int} {D : Nat → Int}
theorem Land_has {z : Int} (hn : n ≤ 9) (hL : LW s n T S) (h1 : -2147483648 ≤ z) (h2 : z ≤ 2147483647) : fLand_has s (iI z) = some (bI (decide (0 ≤ z ∧ z < n))) := by
  simp only [fLand_has, fLand_has_J16, fLand_has_J17, hL.1]
  simp (disch := omega) only [iI_add, iI_sub, iI_mul, iI_lt, iI_le, iI_eq, iI_natc, iI_nat, chk_in, chkZ_1, chkZ_0, iMax_i, iMin_i, iAbs_i, Option.bind_some, nmI, nmM, nmL, rd_ne, rd_at, rd_cne, rd_fne, rd_L, rd_2, rd_c2, rd_f2, if_true, if_false, Int.toNat_natCast, ne_eq]
  (repeat' split) <;> first | (rw [bI_n (by omega)]; done) | (rw [bI_d (by omega)]; done) | (exfalso; omega)
theorem Land_hasTwo {y z : Int} (hn : n ≤ 9) (hL : LW s n T S) (h1 : -2147483648 ≤ z) (h2 : z ≤ 2147483647) (h3 : -2147483648 ≤ y) (h4 : y ≤ 2147483647) : fLand_hasTwo s (iI y) (iI z) = some (bI (decide (0 ≤ y ∧ y < n ∧ 0 ≤ z ∧ z < n ∧ y ≠ z))) := by
  simp only [fLand_hasTwo, fLand_hasTwo_J25, fLand_hasTwo_J26, Land_has hn hL h1 h2, Land_has hn hL h3 h4, Option.bind_some, bI_0, iI_eq h3 h4 h1 h2, chkZ_0, chkZ_1, decide_eq_false_iff_not]
  (repeat' split) <;> first | (rw [bI_n (by omega)]; done) | (rw [bI_d (by omega)]; done) | (exfalso; omega)
theorem Land_between {a b : Nat} (hL : LW s n T S) (ha : a < 9) (hb : b < 9) : fLand_between s (iI (a : Int)) (iI (b : Int)) = some (if T a b then iI (S a b) else iI (-1)) := by
  unfold fLand_between
  rw [iI_mul, iI_add, chk_in (by omega) (by omega) (by omega), iI_ix (by omega) (by omega), hL.2 a b ha hb]
theorem between_n (hS : Cty n T S) (a b : Nat) : ((if T a b then iI (S a b) else iI (-1)) = iI (-1)) = (T a b = false) := by
  have := hS.2.2.2.2 a b
  cases T a b
  · simp
  · simp; rw [iI_eq (by omega) (by omega) (by omega) (by omega)]; omega
theorem Land_touching {a : Nat} (hS : Cty n T S) (hL : LW s n T S) (ha : a < 9) : fLand_touching s (iI (a : Int)) = some (iI ((bt (T a) n : Nat) : Int)) := by
  have hn := hS.1
  unfold fLand_touching
  refine for2a (fun i => iI ((bt (T a) i : Nat) : Int)) (i0 := 0) (n := n) (Nat.zero_le _) (by omega) (fun i _ hi k => ?_) (fun k => ?_)
  · unfold fLand_touching_L4
    rw [hL.1, if_neg (by rw [iI_le (by omega) (by omega) (by omega) (by omega)]; omega), Land_between hL ha (by omega), Option.bind_some]
    simp only [between_n hS, fLand_touching_J30, ← bt_or (P := T a) (i := i) (by omega), shl1 (i := i) (by omega), iI_add]
    cases T a i <;> simp
  · unfold fLand_touching_L4
    rw [hL.1, if_pos (by rw [iI_le (by omega) (by omega) (by omega) (by omega)]; omega)]
theorem Land_isNear {d e ap : Int} (hr : s.1 11 0 = iI ap) (hd : 0 ≤ d ∧ d ≤ 1000) (he : 0 ≤ e ∧ e ≤ 1000) (hap : 0 ≤ ap ∧ ap ≤ 9) : fLand_isNear s (iI d) (iI e) = some (bI (decide (((d - e).natAbs : Int) < ap))) := by
  simp only [fLand_isNear, fLand_isNear_J20]
  rw [show (iI 0).toNatClampNeg = 0 from rfl, hr]
  simp (disch := omega) only [iI_add, iI_sub, iI_mul, iI_lt, iI_le, iI_eq, iI_natc, iI_nat, chk_in, chkZ_1, chkZ_0, iMax_i, iMin_i, iAbs_i, Option.bind_some, nmI, nmM, nmL, rd_ne, rd_at, rd_cne, rd_fne, rd_L, rd_2, rd_c2, rd_f2, if_true, if_false, Int.toNat_natCast, ne_eq]
  (repeat' split) <;> first | (rw [bI_n (by omega)]; done) | (rw [bI_d (by omega)]; done) | (exfalso; omega)
end WF
