/-! rows of bits -/
def bt (P : Nat → Bool) : Nat → Nat
  | 0 => 0
  | i + 1 => bt P i + (if P i then 2 ^ i else 0)
def cnt (P : Nat → Bool) : Nat → Nat
  | 0 => 0
  | i + 1 => cnt P i + (if P i then 1 else 0)
def sm (f : Nat → Int) : Nat → Int
  | 0 => 0
  | i + 1 => sm f i + f i
theorem bt_lt (P : Nat → Bool) : ∀ n, bt P n < 2 ^ n
  | 0 => by simp [bt]
  | n + 1 => by
    have := bt_lt P n
    unfold bt
    rw [Nat.pow_succ]
    split <;> omega
theorem bt_lt9 (P : Nat → Bool) {n : Nat} (h : n ≤ 9) : bt P n < 512 := by
  have h1 := bt_lt P n
  have h2 : 2 ^ n ≤ 2 ^ 9 := Nat.pow_le_pow_right (by omega) h
  omega
theorem bt_bit (P : Nat → Bool) (j : Nat) : ∀ n, (bt P n).testBit j = (decide (j < n) && P j)
  | 0 => by simp [bt]
  | n + 1 => by
    have h := bt_lt P n
    unfold bt
    by_cases hp : P n
    · rw [if_pos hp, Nat.add_comm, show 2 ^ n + bt P n = 2 ^ n * 1 + bt P n by omega, Nat.testBit_two_pow_mul_add _ h, bt_bit P j n]
      by_cases h1 : j < n
      · simp [h1, show j < n + 1 by omega]
      · by_cases h2 : j = n
        · subst h2; simp [hp]
        · obtain ⟨q, hq⟩ : ∃ q, j - n = q + 1 := ⟨j - n - 1, by omega⟩
          rw [hq]; simp [h1, show ¬ j < n + 1 by omega, Nat.testBit_succ]
    · rw [if_neg hp, Nat.add_zero, bt_bit P j n]
      by_cases h2 : j = n
      · subst h2; simp [hp]
      · simp [show (j < n + 1) = (j < n) by simp; omega]
theorem bt_congr {P P' : Nat → Bool} : ∀ {n : Nat}, (∀ j, j < n → P j = P' j) → bt P n = bt P' n
  | 0, _ => rfl
  | n + 1, h => by unfold bt; rw [bt_congr (n := n) (fun j hj => h j (by omega)), h n (by omega)]
theorem cnt_congr {P P' : Nat → Bool} : ∀ {n : Nat}, (∀ j, j < n → P j = P' j) → cnt P n = cnt P' n
  | 0, _ => rfl
  | n + 1, h => by unfold cnt; rw [cnt_congr (n := n) (fun j hj => h j (by omega)), h n (by omega)]
theorem sm_congr {f g : Nat → Int} : ∀ {n : Nat}, (∀ j, j < n → f j = g j) → sm f n = sm g n
  | 0, _ => rfl
  | n + 1, h => by unfold sm; rw [sm_congr (n := n) (fun j hj => h j (by omega)), h n (by omega)]
theorem cnt_le (P : Nat → Bool) : ∀ n, cnt P n ≤ n
  | 0 => by simp [cnt]
  | n + 1 => by have := cnt_le P n; unfold cnt; split <;> omega
theorem cnt_false {P : Nat → Bool} : ∀ {n : Nat}, (∀ j, j < n → P j = false) → cnt P n = 0
  | 0, _ => rfl
  | n + 1, h => by unfold cnt; rw [cnt_false (n := n) (fun j hj => h j (by omega)), h n (by omega)]; rfl
theorem cnt_zero {P : Nat → Bool} : ∀ {n : Nat}, cnt P n = 0 → ∀ j, j < n → P j = false
  | 0, _, j, hj => by omega
  | n + 1, h, j, hj => by
    unfold cnt at h
    by_cases h1 : j = n
    · subst h1; cases hp : P j <;> simp_all
    · exact cnt_zero (n := n) (by omega) j (by omega)
theorem bt_zero {P : Nat → Bool} {n : Nat} (h : bt P n = 0) (j : Nat) (hj : j < n) : P j = false := by
  have := bt_bit P j n
  rw [h] at this
  simpa [hj] using this.symm
theorem bt_false {P : Nat → Bool} : ∀ {n : Nat}, (∀ j, j < n → P j = false) → bt P n = 0
  | 0, _ => rfl
  | n + 1, h => by unfold bt; rw [bt_false (n := n) (fun j hj => h j (by omega)), h n (by omega)]; rfl
theorem shl_tab : ∀ i : Fin 31, iShl (iI 1) (iI ((i.val : Nat) : Int)) = iI (((2 ^ i.val : Nat)) : Int) := by decide +kernel
theorem shl1 {i : Nat} (h : i < 31) : iShl (iI 1) (iI (i : Int)) = iI (((2 ^ i : Nat)) : Int) := shl_tab ⟨i, h⟩
set_option maxRecDepth 100000 in
theorem has_tab : ∀ x : Fin 512, ∀ j : Fin 9, decide ((iShr (iI ((x.val : Nat) : Int)) (iI ((j.val : Nat) : Int)) &&& iI 1) = iI 1) = x.val.testBit j.val := by decide +kernel
theorem has_bit {x j : Nat} (hx : x < 512) (hj : j < 9) : ((iShr (iI (x : Int)) (iI (j : Int)) &&& iI 1) = iI 1) = (x.testBit j = true) := by
  have := has_tab ⟨x, hx⟩ ⟨j, hj⟩
  simp only at this
  rw [← this]; simp
set_option maxRecDepth 100000 in
theorem has0_tab : ∀ x : Fin 512, ∀ j : Fin 9, decide ((iShr (iI ((x.val : Nat) : Int)) (iI ((j.val : Nat) : Int)) &&& iI 1) = iI 0) = !(x.val.testBit j.val) := by decide +kernel
theorem has_bit0 {x j : Nat} (hx : x < 512) (hj : j < 9) : ((iShr (iI (x : Int)) (iI (j : Int)) &&& iI 1) = iI 0) = (x.testBit j = false) := by
  have := has0_tab ⟨x, hx⟩ ⟨j, hj⟩
  simp only at this
  rw [show (x.testBit j = false) = ((!(x.testBit j)) = true) by simp, ← this]; simp
theorem or_pow {x i : Nat} (hx : x < 2 ^ i) (hi : i < 31) : iI (x : Int) ||| iI (((2 ^ i : Nat)) : Int) = iI ((x + 2 ^ i : Nat) : Int) := by
  have h2 : 2 ^ i ≤ 2 ^ 30 := Nat.pow_le_pow_right (by omega) (by omega)
  have : x + 2 ^ i = x ||| 2 ^ i := by
    have := Nat.two_pow_add_eq_or_of_lt hx 1
    rw [Nat.mul_one] at this
    rw [Nat.add_comm, this, Nat.or_comm]
  rw [this]
  have e : ∀ y : Nat, iI (y : Int) = Int32.ofNat y := fun y => by unfold iI; rfl
  rw [e, e, e, ← Int32.toBitVec_inj]
  apply BitVec.eq_of_toNat_eq
  simp only [Int32.toBitVec_or, BitVec.toNat_or, Int32.toBitVec_ofNat', BitVec.toNat_ofNat]
  rw [Nat.mod_eq_of_lt (by omega), Nat.mod_eq_of_lt (by omega), Nat.mod_eq_of_lt (by omega)]
theorem or_zero (x : Int32) : x ||| iI 0 = x := by rw [iI_0]; simp
/-- the next bit -/
theorem bt_or {P : Nat → Bool} {i : Nat} (hi : i < 31) : iI (bt P i : Int) ||| (if P i then iI (((2 ^ i : Nat)) : Int) else iI 0) = iI (bt P (i + 1) : Int) := by
  show _ = iI ((bt P i + (if P i then 2 ^ i else 0) : Nat) : Int)
  by_cases h : P i
  · rw [if_pos h, if_pos h]; exact or_pow (bt_lt P i) hi
  · rw [if_neg h, if_neg h, or_zero, Nat.add_zero]
set_option maxRecDepth 100000 in
theorem bc_tab : ∀ x : Fin 512, fJ_bitCount (fun _ _ => 0, fun _ _ => 0) (iI ((x.val : Nat) : Int)) = some (iI ((cnt (fun j => x.val.testBit j) 9 : Nat) : Int)) := by decide +kernel
theorem bitc {s : wM} {x : Nat} (hx : x < 512) : fJ_bitCount s (iI (x : Int)) = some (iI ((cnt (fun j => x.testBit j) 9 : Nat) : Int)) := bc_tab ⟨x, hx⟩
theorem cnt_ext {P : Nat → Bool} {n : Nat} : ∀ {m : Nat}, n ≤ m → (∀ j, n ≤ j → j < m → P j = false) → cnt P m = cnt P n
  | 0, h, _ => by rw [show n = 0 by omega]
  | m + 1, h, hp => by
    by_cases h1 : n = m + 1
    · rw [h1]
    · show cnt P m + _ = _
      rw [hp m (by omega) (by omega), cnt_ext (m := m) (by omega) (fun j a b => hp j a (by omega))]; rfl
theorem bitc_bt {s : wM} {P : Nat → Bool} {n : Nat} (hn : n ≤ 9) : fJ_bitCount s (iI (bt P n : Int)) = some (iI ((cnt P n : Nat) : Int)) := by
  rw [bitc (bt_lt9 P hn), cnt_ext hn (fun j h1 h2 => by rw [bt_bit]; simp; intro h; omega), cnt_congr (n := n) (P' := P)]
  intro j hj; rw [bt_bit]; simp [hj]
/-! sums -/
theorem sm_add (f g : Nat → Int) : ∀ n, sm (fun i => f i + g i) n = sm f n + sm g n
  | 0 => rfl
  | n + 1 => by simp only [sm, sm_add f g n]; omega
theorem sm_sub (f g : Nat → Int) : ∀ n, sm (fun i => f i - g i) n = sm f n - sm g n
  | 0 => rfl
  | n + 1 => by simp only [sm, sm_sub f g n]; omega
theorem sm_zero : ∀ n, sm (fun _ => 0) n = 0
  | 0 => rfl
  | n + 1 => by simp only [sm, sm_zero n]; omega
theorem sm_swap (f : Nat → Nat → Int) (m : Nat) : ∀ n, sm (fun i => sm (fun j => f i j) m) n = sm (fun j => sm (fun i => f i j) n) m
  | 0 => by simp only [sm]; rw [sm_zero]
  | n + 1 => by simp only [sm, sm_swap f m n, ← sm_add]
theorem sm_cnt (P : Nat → Bool) : ∀ n, sm (fun i => if P i then 1 else 0) n = (cnt P n : Int)
  | 0 => rfl
  | n + 1 => by simp only [sm, cnt, sm_cnt P n]; split <;> omega
/-- of a symmetric table the whole is twice the half above the diagonal -/
theorem sm_half (g : Nat → Nat → Int) (hs : ∀ a b, g a b = g b a) (h0 : ∀ a, g a a = 0) : ∀ n, sm (fun a => sm (fun b => g a b) n) n = 2 * sm (fun a => sm (fun b => if a < b then g a b else 0) n) n
  | 0 => rfl
  | n + 1 => by
    have ih := sm_half g hs h0 n
    have e1 : sm (fun a => sm (fun b => g a b) (n + 1)) (n + 1) = sm (fun a => sm (fun b => g a b) n) n + sm (fun a => g a n) n + (sm (fun b => g n b) n + g n n) := by
      simp only [sm, sm_add]
    have e2 : sm (fun a => sm (fun b => if a < b then g a b else 0) (n + 1)) (n + 1) = sm (fun a => sm (fun b => if a < b then g a b else 0) n) n + sm (fun a => g a n) n := by
      simp only [sm, sm_add]
      rw [sm_congr (n := n) (f := fun b => if n < b then g n b else 0) (g := fun _ => 0) (fun j hj => if_neg (by omega)), sm_zero, if_neg (by omega), sm_congr (n := n) (f := fun i => if i < n then g i n else 0) (g := fun a => g a n) (fun j hj => if_pos hj)]
      omega
    rw [e1, e2, ih, h0, sm_congr (n := n) (f := fun b => g n b) (g := fun a => g a n) (fun j _ => hs n j)]
    omega
