/-! the week of Ahead -/
def flo (S : Nat → Nat → Int) (D : Nat → Int) (a b : Nat) : Int := if 0 < S a b then (D a - D b).tdiv (2 * S a b) else 0
def gvr (S : Nat → Nat → Int) (D : Nat → Int) (a b : Nat) : Nat := if 0 < flo S D a b then a else b
theorem tdiv_bd {x y : Int} (hx : -99 ≤ x ∧ x ≤ 99) (hy : 0 < y) : -99 ≤ x.tdiv y ∧ x.tdiv y ≤ 99 := by
  by_cases h : 0 ≤ x
  · rw [Int.tdiv_eq_ediv_of_nonneg h]
    have h1 := Int.ediv_nonneg h (by omega : 0 ≤ y)
    have h2 := Int.ediv_le_self y h
    omega
  · have e : x.tdiv y = -((-x).tdiv y) := by rw [Int.neg_tdiv, Int.neg_neg]
    rw [e, Int.tdiv_eq_ediv_of_nonneg (by omega)]
    have h1 := Int.ediv_nonneg (show 0 ≤ -x by omega) (by omega : 0 ≤ y)
    have h2 := Int.ediv_le_self y (show 0 ≤ -x by omega)
    omega
theorem flo_bd {S : Nat → Nat → Int} {D : Nat → Int} (bD : Bd D 0 99) (a b : Nat) : -99 ≤ flo S D a b ∧ flo S D a b ≤ 99 := by
  have h1 := bD a
  have h2 := bD b
  unfold flo
  split
  · exact tdiv_bd (by omega) (by omega)
  · omega
theorem flo_sep {n : Nat} {T : Nat → Nat → Bool} {S : Nat → Nat → Int} {D : Nat → Int} (hS : Cty n T S) {a b : Nat} (hT : T a b = true) : flo S D a b = sep T S D a b - sep T S D b a ∧ (0 < flo S D a b → sep T S D b a = 0) ∧ (flo S D a b ≤ 0 → sep T S D a b = 0) := by
  have hT' : T b a = true := by rw [hS.2.1]; exact hT
  have hs : S b a = S a b := hS.2.2.2.1 b a
  unfold flo sep
  rw [hT, hT', hs]
  by_cases h1 : 0 < S a b
  · simp only [h1, if_true, true_and]
    by_cases h2 : D b < D a
    · have h3 : ¬ D a < D b := by omega
      simp only [h2, h3, if_true, if_false]
      refine ⟨by omega, fun _ => trivial, fun h => ?_⟩
      have := Int.ediv_nonneg (show 0 ≤ D a - D b by omega) (show 0 ≤ 2 * S a b by omega)
      rw [Int.tdiv_eq_ediv_of_nonneg (by omega)] at h ⊢
      omega
    · simp only [h2, if_false]
      by_cases h3 : D a < D b
      · simp only [h3, if_true]
        have e : (D a - D b).tdiv (2 * S a b) = -((D b - D a).tdiv (2 * S a b)) := by rw [show D a - D b = -(D b - D a) by omega, Int.neg_tdiv]
        have := Int.ediv_nonneg (show 0 ≤ D b - D a by omega) (show 0 ≤ 2 * S a b by omega)
        rw [e, Int.tdiv_eq_ediv_of_nonneg (show 0 ≤ D b - D a by omega)]
        refine ⟨by omega, fun h => by omega, fun _ => trivial⟩
      · simp only [h3, if_false]
        rw [show D a - D b = 0 by omega]
        simp
  · simp [h1]
/-- what f gives, of the pairs in l -/
def lgv (S : Nat → Nat → Int) (D : Nat → Int) (l : List (Nat × Nat)) (f : Nat) : Int := lsm (fun a b => if gvr S D a b = f then ((flo S D a b).natAbs : Int) else 0) l
theorem lgv_giv {n : Nat} {T : Nat → Nat → Bool} {S : Nat → Nat → Int} {D : Nat → Int} (hS : Cty n T S) {f : Nat} (hf : f < n) : lgv S D (prs n T) f = giv n T S D f := by
  unfold lgv prs
  rw [lsm_prL]
  have h := sm_tri (fun a b => if a = f then sep T S D a b else 0) (fun a => by rw [sep_0 hS]; simp) n
  have e : sm (fun a => sm (fun b => if a = f then sep T S D a b else 0) n) n = giv n T S D f := by
    unfold giv
    have : ∀ m, sm (fun a => sm (fun b => if a = f then sep T S D a b else 0) n) m = if f < m then sm (fun o => sep T S D f o) n else 0 := by
      intro m
      induction m with
      | zero => simp [sm]
      | succ m ih =>
        simp only [sm, ih]
        by_cases h1 : f < m
        · rw [if_pos h1, if_pos (by omega), sm_congr (n := n) (g := fun _ => 0) (fun j _ => if_neg (by omega)), sm_zero]; omega
        · rw [if_neg h1]
          by_cases h2 : m = f
          · subst h2; simp
          · rw [if_neg (by omega), sm_congr (n := n) (g := fun _ => 0) (fun j _ => if_neg h2), sm_zero]; omega
    rw [this, if_pos hf]
  rw [← e, ← h]
  refine sm_congr fun a ha => sm_congr fun b hb => ?_
  by_cases h1 : a < b
  · by_cases hT : T a b = true
    · simp only [h1, hT, true_and, if_true]
      obtain ⟨q1, q2, q3⟩ := flo_sep (D := D) hS hT
      unfold gvr
      by_cases h2 : 0 < flo S D a b
      · have := q2 h2
        rw [if_pos h2]
        by_cases h3 : a = f
        · simp only [h3, if_true]; subst h3; rw [if_neg (by omega : ¬ b = a)]; omega
        · simp only [h3, if_false]
          split <;> omega
      · have := q3 (by omega)
        rw [if_neg h2]
        by_cases h3 : b = f
        · simp only [h3, if_true]; subst h3; rw [if_neg (by omega : ¬ a = b)]; omega
        · simp only [h3, if_false]
          split <;> omega
    · have hT' : T b a = false := by rw [hS.2.1]; simpa using hT
      have z1 : sep T S D a b = 0 := if_neg (by simp [hT])
      have z2 : sep T S D b a = 0 := if_neg (by simp [hT'])
      simp [h1, hT, z1, z2]
  · simp [h1]
def lnt (n : Nat) (T : Nat → Nat → Bool) (S : Nat → Nat → Int) (D : Nat → Int) (l : List (Nat × Nat)) (x : Nat) : Int := lsm (fun a b => if giv n T S D (gvr S D a b) ≤ D (gvr S D a b) then (if x = a then - flo S D a b else 0) + (if x = b then flo S D a b else 0) else 0) l
theorem lnt_net {n : Nat} {T : Nat → Nat → Bool} {S : Nat → Nat → Int} {D : Nat → Int} (hS : Cty n T S) (x : Nat) : lnt n T S D (prs n T) x = net n T S D x := by
  unfold lnt prs net
  rw [lsm_prL, ← sm_tri (fun f o => nk n T S D x f o) (fun a => by unfold nk; rw [sep_0 hS]; simp) n]
  refine sm_congr fun a ha => sm_congr fun b hb => ?_
  by_cases h1 : a < b
  · by_cases hT : T a b = true
    · simp only [h1, hT, true_and, if_true]
      obtain ⟨q1, q2, q3⟩ := flo_sep (D := D) hS hT
      unfold gvr nk
      by_cases h2 : 0 < flo S D a b
      · have := q2 h2
        rw [if_pos h2, this, q1, this]
        simp
      · have := q3 (by omega)
        rw [if_neg h2, this, q1, this]
        simp
        split
        · split <;> split <;> omega
        · rfl
    · have hT' : T b a = false := by rw [hS.2.1]; simpa using hT
      have z1 : sep T S D a b = 0 := if_neg (by simp [hT])
      have z2 : sep T S D b a = 0 := if_neg (by simp [hT'])
      simp [h1, hT, nk, z1, z2]
  · simp [h1]
