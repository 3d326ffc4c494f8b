def iMax (x y : Int32) : Int32 := if x < y then y else x
def iMin (x y : Int32) : Int32 := if y < x then y else x
def iAbs (x : Int32) : Int32 := if 0 ≤ x then x else 0 - x
def iShl (x y : Int32) : Int32 := x <<< (y &&& 31)
def iShr (x y : Int32) : Int32 := x >>> (y &&& 31)
def iUshr (x y : Int32) : Int32 := (x.toUInt32 >>> (y.toUInt32 &&& Int32.toUInt32 31)).toInt32
def iRem (x y : Int32) : Int32 := x - x / y * y
def lRem (x y : Int64) : Int64 := x - x / y * y
def lUshr (x : Int64) (y : Int32) : Int64 := (x.toUInt64 >>> (y.toInt64.toUInt64 &&& Int64.toUInt64 63)).toInt64
def lShl (x : Int64) (y : Int32) : Int64 := x <<< (y.toInt64 &&& 63)
def lShr (x : Int64) (y : Int32) : Int64 := x >>> (y.toInt64 &&& 63)
def iC (x : Int32) : Int32 := (x.toUInt32 % 65536).toInt32
def iI (z : Int) : Int32 := Int32.ofInt z
theorem iI_0 : iI 0 = 0 := by decide
/-- the memory: cell, place -> its int (booleans and chars too); the same for longs -/
abbrev wM : Type := (Nat → Nat → Int32) × (Nat → Nat → Int64)
def wsI (s : wM) (k j : Nat) (v : Int32) : wM := (fun a b => if a = k ∧ b = j then v else s.1 a b, s.2)
def wsL (s : wM) (k j : Nat) (v : Int64) : wM := (s.1, fun a b => if a = k ∧ b = j then v else s.2 a b)
def wCpy (s : wM) (k1 k2 a b n : Nat) : wM := (fun i j => if i = k2 ∧ b ≤ j ∧ j < b + n then s.1 k1 (a + (j - b)) else s.1 i j, s.2)
def wFillI (s : wM) (a n : Nat) (v : Int32) : wM := (fun i j => if i = a ∧ j < n then v else s.1 i j, s.2)
def wFillL (s : wM) (a n : Nat) (v : Int64) : wM := (s.1, fun i j => if i = a ∧ j < n then v else s.2 i j)
/-! the pieces that the functions of the code are made of -/
section FNS
variable {ρ : Type}
def chk (i : Int32) (n : Nat) (k : Option ρ) : Option ρ := if i < 0 ∨ n ≤ i.toNatClampNeg then none else k
def chkD (y : Int32) (k : Option ρ) : Option ρ := if y = 0 then none else k
def chkDL (y : Int64) (k : Option ρ) : Option ρ := if y = 0 then none else k
def chkZ (v : Int32) (k : Option ρ) : Option ρ := if v = iI 0 ∨ v = iI 1 then k else none
def chkC (sp dp n : Int32) (a b : Nat) (k : Option ρ) : Option ρ := if ¬ sp < 0 ∧ ¬ dp < 0 ∧ ¬ n < 0 ∧ sp.toNatClampNeg + n.toNatClampNeg ≤ a ∧ dp.toNatClampNeg + n.toNatClampNeg ≤ b then k else none
def nmI (e : Int32) (k : Int32 → Option ρ) : Option ρ := k e
def nmL (e : Int64) (k : Int64 → Option ρ) : Option ρ := k e
def nmM (e : wM) (k : wM → Option ρ) : Option ρ := k e
theorem chk_some {i : Int32} {n : Nat} {k : Option ρ} {r : ρ} (h : chk i n k = some r) : vp_in i n ∧ k = some r := by
  unfold chk at h
  split at h
  · cases h
  · exact ⟨by assumption, h⟩
theorem chkD_some {y : Int32} {k : Option ρ} {r : ρ} (h : chkD y k = some r) : ¬ y = 0 ∧ k = some r := by
  unfold chkD at h
  split at h
  · cases h
  · exact ⟨by assumption, h⟩
theorem chkDL_some {y : Int64} {k : Option ρ} {r : ρ} (h : chkDL y k = some r) : ¬ y = 0 ∧ k = some r := by
  unfold chkDL at h
  split at h
  · cases h
  · exact ⟨by assumption, h⟩
theorem nar01 : (narrow .boolean (.int (iI 0)) = .int (iI 0) ∧ fits .boolean (.int (iI 0)) = true ∧ vp_nar .boolean (iI 0) = iI 0) ∧ narrow .boolean (.int (iI 1)) = .int (iI 1) ∧ fits .boolean (.int (iI 1)) = true ∧ vp_nar .boolean (iI 1) = iI 1 := by decide +kernel
theorem chkZ_some {v : Int32} {k : Option ρ} {r : ρ} (h : chkZ v k = some r) : (narrow .boolean (.int v) = .int v ∧ fits .boolean (.int v) = true ∧ vp_nar .boolean v = v) ∧ k = some r := by
  unfold chkZ at h
  split at h
  · rename_i h1
    refine ⟨?_, h⟩
    rcases h1 with rfl | rfl
    · exact nar01.1
    · exact nar01.2
  · cases h
theorem chkC_some {sp dp n : Int32} {a b : Nat} {k : Option ρ} {r : ρ} (h : chkC sp dp n a b k = some r) : (¬ sp < 0 ∧ ¬ dp < 0 ∧ ¬ n < 0 ∧ sp.toNatClampNeg + n.toNatClampNeg ≤ a ∧ dp.toNatClampNeg + n.toNatClampNeg ≤ b) ∧ k = some r := by
  unfold chkC at h
  split at h
  · exact ⟨by assumption, h⟩
  · cases h
theorem ite_t {c : Prop} [Decidable c] {a b : Option ρ} {r : ρ} (hc : c) (h : (if c then a else b) = some r) : a = some r := by rwa [if_pos hc] at h
theorem ite_f {c : Prop} [Decidable c] {a b : Option ρ} {r : ρ} (hc : ¬ c) (h : (if c then a else b) = some r) : b = some r := by rwa [if_neg hc] at h
theorem bind_s {σ : Type} {a : Option σ} {k : σ → Option ρ} {r : ρ} (h : a.bind k = some r) : ∃ q, a = some q ∧ k q = some r := Option.bind_eq_some_iff.mp h
theorem nmI_s {e : Int32} {k : Int32 → Option ρ} {r : ρ} (h : nmI e k = some r) (y : Int32) (hy : y = e) : k y = some r := by rw [hy]; exact h
theorem nmL_s {e : Int64} {k : Int64 → Option ρ} {r : ρ} (h : nmL e k = some r) (y : Int64) (hy : y = e) : k y = some r := by rw [hy]; exact h
theorem nmM_s {e : wM} {k : wM → Option ρ} {r : ρ} (h : nmM e k = some r) (y : wM) (hy : y = e) : k y = some r := by rw [hy]; exact h
def wh1 {A : Type} (f : A → (A → Option ρ) → Option ρ) : Nat → A → Option ρ
  | 0, _ => none
  | n + 1, a => f a (wh1 f n)
def wh2 {A B : Type} (f : A → B → (A → B → Option ρ) → Option ρ) : Nat → A → B → Option ρ
  | 0, _, _ => none
  | n + 1, a, b => f a b (wh2 f n)
def wh3 {A B C : Type} (f : A → B → C → (A → B → C → Option ρ) → Option ρ) : Nat → A → B → C → Option ρ
  | 0, _, _, _ => none
  | n + 1, a, b, c => f a b c (wh3 f n)
def wh4 {A B C D : Type} (f : A → B → C → D → (A → B → C → D → Option ρ) → Option ρ) : Nat → A → B → C → D → Option ρ
  | 0, _, _, _, _ => none
  | n + 1, a, b, c, d => f a b c d (wh4 f n)
def wh5 {A B C D E : Type} (f : A → B → C → D → E → (A → B → C → D → E → Option ρ) → Option ρ) : Nat → A → B → C → D → E → Option ρ
  | 0, _, _, _, _, _ => none
  | n + 1, a, b, c, d, e => f a b c d e (wh5 f n)
def wh6 {A B C D E F : Type} (f : A → B → C → D → E → F → (A → B → C → D → E → F → Option ρ) → Option ρ) : Nat → A → B → C → D → E → F → Option ρ
  | 0, _, _, _, _, _, _ => none
  | n + 1, a, b, c, d, e, f' => f a b c d e f' (wh6 f n)
end FNS
