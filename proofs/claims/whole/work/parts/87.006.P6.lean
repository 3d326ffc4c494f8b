theorem lg_lt (x y : Int64) : (lg_cmp x y < iI 0) = (x.toInt < y.toInt) := by
  unfold lg_cmp
  simp only [gt_iff_lt, Int64.lt_iff_toInt_lt, ← Int64.toInt_inj]
  apply propext
  split
  · constructor
    · intro h; exact absurd h (by decide)
    · intro h; omega
  · split
    · constructor
      · intro h; exact absurd h (by decide)
      · intro h; omega
    · constructor
      · intro h; omega
      · intro h; decide
theorem lg_gt (x y : Int64) : (iI 0 < lg_cmp x y) = (y.toInt < x.toInt) := by
  unfold lg_cmp
  simp only [gt_iff_lt, Int64.lt_iff_toInt_lt, ← Int64.toInt_inj]
  apply propext
  split
  · constructor
    · intro h; omega
    · intro h; decide
  · split
    · constructor
      · intro h; exact absurd h (by decide)
      · intro h; omega
    · constructor
      · intro h; exact absurd h (by decide)
      · intro h; omega
theorem iL {a : Int} (h1 : -2147483648 ≤ a) (h2 : a ≤ 2147483647) : (iI a).toInt64.toInt = a := by
  rw [Int32.toInt_toInt64, iI_toInt h1 h2]
theorem M_in {s : wM} {x y w : Int64} : fM_in s x y w = some (bI (decide (y.toInt ≤ x.toInt ∧ x.toInt ≤ w.toInt))) := by
  simp only [fM_in, fM_in_J17, fM_in_J18, lg_lt, lg_gt, chkZ_0, chkZ_1]
  (repeat' split) <;> first | (rw [bI_n (by omega)]; done) | (rw [bI_d (by omega)]; done) | (exfalso; omega)
theorem M_flag {s : wM} {b : Bool} : fM_flag s (bI b) = some (bI b) := by cases b <;> rfl
theorem M_has {s : wM} {x j : Nat} (hx : x < 512) (hj : j < 9) : fM_has s (iI (x : Int)) (iI (j : Int)) = some (bI (x.testBit j)) := by
  simp only [fM_has, fM_has_J14, has_bit hx hj, chkZ_0, chkZ_1]
  cases x.testBit j <;> rfl
section MF
variable {s : wM} {n : Nat} {T : Nat → Nat → Bool} {S : Nat → Nat → Int} {D : Nat → Int} {ap bk : Int} {k : Nat}
theorem M_isFarm {z : Int} (hn : n ≤ 9) (hL : LM s n T S) (h1 : -2147483648 ≤ z) (h2 : z ≤ 2147483647) : fM_isFarm s (iI z) = some (bI (decide (0 ≤ z ∧ z < n))) := by
  simp only [fM_isFarm, M_in, hL.1, iI_sub, iL h1 h2, iL (a := (n : Int) - 1) (by omega) (by omega), Option.bind_some, chkZ_b, show (0 : Int64).toInt = 0 from rfl]
  congr 2
  simp only [decide_eq_decide]
  omega
theorem M_areTwo {y z : Int} (hn : n ≤ 9) (hL : LM s n T S) (h1 : -2147483648 ≤ z) (h2 : z ≤ 2147483647) (h3 : -2147483648 ≤ y) (h4 : y ≤ 2147483647) : fM_areTwo s (iI y) (iI z) = some (bI (decide (0 ≤ y ∧ y < n ∧ 0 ≤ z ∧ z < n ∧ y ≠ z))) := by
  simp only [fM_areTwo, fM_areTwo_J25, fM_areTwo_J26, M_isFarm hn hL h1 h2, M_isFarm hn hL h3 h4, Option.bind_some, bI_0, iI_eq h3 h4 h1 h2, chkZ_0, chkZ_1, decide_eq_false_iff_not]
  (repeat' split) <;> first | (rw [bI_n (by omega)]; done) | (rw [bI_d (by omega)]; done) | (exfalso; omega)
theorem M_areBits {z : Int} (hn : n ≤ 9) (hL : LM s n T S) (h1 : -2147483648 ≤ z) (h2 : z ≤ 2147483647) : fM_areBits s (iI z) = some (bI (decide (0 ≤ z ∧ z < ((2 ^ n : Nat) : Int)))) := by
  have hp : 2 ^ n ≤ 2 ^ 9 := Nat.pow_le_pow_right (by omega) hn
  simp only [fM_areBits, M_in, hL.1, shl1 (show n < 31 by omega)]
  generalize 2 ^ n = q at hp ⊢
  simp only [iI_sub, iL h1 h2, iL (a := (q : Int) - 1) (by omega) (by omega), Option.bind_some, chkZ_b, show (0 : Int64).toInt = 0 from rfl]
  congr 2
  simp only [decide_eq_decide]
  omega
theorem M_tb (hL : LM s n T S) {a b : Nat} (ha : a < 9) (hb : b < 9) : fM_has s (s.1 165 a) (iI (b : Int)) = some (bI (T a b)) := by
  rw [hL.2.1 a ha, M_has (bt_lt9 _ (by omega)) hb, bt_bit]; simp [hb]
theorem M_isEven {a b : Nat} (hL : LM s n T S) (hD : Rw s k D) (bD : Bd D 0 99) (hr : s.1 168 0 = iI ap) (hap : 0 ≤ ap ∧ ap ≤ 9) (ha : a < 9) (hb : b < 9) : fM_isEven s k (iI (a : Int)) (iI (b : Int)) = some (bI (ev T ap D a b)) := by
  have b1 := bD a
  have b2 := bD b
  simp only [fM_isEven, fM_isEven_J36, fM_isEven_J37, iI_natc (show a ≤ 2147483647 by omega), iI_natc (show b ≤ 2147483647 by omega), M_tb hL ha hb, Option.bind_some, bI_0, show s.1 k = _ from hD, z0, hr]
  simp (disch := omega) only [iI_add, iI_sub, iI_mul, iI_lt, iI_le, iI_eq, iI_natc, iI_nat, chk_in, chkZ_1, chkZ_0, iMax_i, iMin_i, iAbs_i, Option.bind_some, nmI, nmM, nmL, rd_ne, rd_at, rd_cne, rd_fne, rd_L, rd_2, rd_c2, rd_f2, if_true, if_false, Int.toNat_natCast, ne_eq]
  unfold ev
  cases T a b
  · rfl
  · by_cases h : ap ≤ ((D a - D b).natAbs : Int)
    · simp [h, show ¬ ((D a - D b).natAbs : Int) < ap by omega]; rfl
    · simp [h, show ((D a - D b).natAbs : Int) < ap by omega]; rfl
theorem M_evenWith {a : Nat} (hS : Cty n T S) (hL : LM s n T S) (hD : Rw s k D) (bD : Bd D 0 99) (hr : s.1 168 0 = iI ap) (hap : 0 ≤ ap ∧ ap ≤ 9) (ha : a < 9) : fM_evenWith s k (iI (a : Int)) = some (iI ((bt (ev T ap D a) n : Nat) : Int)) := by
  have hn := hS.1
  unfold fM_evenWith
  refine for2a (fun i => iI ((bt (ev T ap D a) i : Nat) : Int)) (i0 := 0) (n := n) (Nat.zero_le _) (by omega) (fun i _ hi c => ?_) (fun c => ?_)
  · unfold fM_evenWith_L5
    rw [hL.1, if_neg (by rw [iI_le (by omega) (by omega) (by omega) (by omega)]; omega), M_isEven hL hD bD hr hap ha (by omega), Option.bind_some]
    simp only [iI_eq (a := (i : Int)) (b := (a : Int)) (by omega) (by omega) (by omega) (by omega), fM_evenWith_J39, fM_evenWith_J40, ← bt_or (P := ev T ap D a) (i := i) (by omega), shl1 (i := i) (by omega), iI_add, bI_0]
    by_cases h1 : (i : Int) = (a : Int)
    · have : i = a := by omega
      subst this
      have ht : T i i = false := by
        cases h : T i i with
        | false => rfl
        | true => have := hS.2.2.1 i i h; omega
      have : ev T ap D i i = false := by unfold ev; rw [ht]; rfl
      simp [this]
    · rw [if_neg h1]
      by_cases h : ev T ap D a i = true
      · simp [h]
      · simp [h]
  · unfold fM_evenWith_L5
    rw [hL.1, if_pos (by rw [iI_le (by omega) (by omega) (by omega) (by omega)]; omega)]
/-- twice the pairs that are even -/
def ep2 (n : Nat) (T : Nat → Nat → Bool) (ap : Int) (D : Nat → Int) : Int := sm (fun a => (cnt (ev T ap D a) n : Int)) n
def ep (n : Nat) (T : Nat → Nat → Bool) (ap : Int) (D : Nat → Int) : Int := sm (fun a => sm (fun b => if a < b ∧ ev T ap D a b = true then 1 else 0) n) n
theorem ep2_ep {n : Nat} {T : Nat → Nat → Bool} {S : Nat → Nat → Int} (hS : Cty n T S) (ap : Int) (D : Nat → Int) : ep2 n T ap D = 2 * ep n T ap D := by
  unfold ep2 ep
  have := sm_half (fun a b => if ev T ap D a b = true then 1 else 0) (fun a b => by rw [ev_symm hS.2.1]) (fun a => by
    have ht : T a a = false := by
      cases h : T a a with
      | false => rfl
      | true => have := hS.2.2.1 a a h; omega
    simp [ev, ht]) n
  rw [show (fun a => (cnt (ev T ap D a) n : Int)) = fun a => sm (fun b => if ev T ap D a b = true then 1 else 0) n from funext fun a => (sm_cnt _ _).symm, this]
  congr 2
  funext a
  congr 1
  funext b
  by_cases h : a < b
  · simp [h]
  · simp [h]
theorem sm_bd {f : Nat → Int} {lo hi : Int} : ∀ {n : Nat}, (∀ j, j < n → lo ≤ f j ∧ f j ≤ hi) → lo * n ≤ sm f n ∧ sm f n ≤ hi * n
  | 0, _ => by simp [sm]
  | n + 1, h => by
    have h1 := sm_bd (n := n) fun j hj => h j (by omega)
    have h2 := h n (by omega)
    simp only [sm]
    rw [show ((n + 1 : Nat) : Int) = (n : Int) + 1 by omega, Int.mul_add, Int.mul_add]
    omega
theorem ep_bd {n : Nat} (hn : n ≤ 9) (T : Nat → Nat → Bool) (ap : Int) (D : Nat → Int) : 0 ≤ ep2 n T ap D ∧ ep2 n T ap D ≤ 81 := by
  have := sm_bd (f := fun a => (cnt (ev T ap D a) n : Int)) (lo := 0) (hi := 9) (n := n) (fun j _ => by have := cnt_le (ev T ap D j) n; omega)
  unfold ep2
  omega
theorem M_evenPairs (hS : Cty n T S) (hL : LM s n T S) (hD : Rw s k D) (bD : Bd D 0 99) (hr : s.1 168 0 = iI ap) (hap : 0 ≤ ap ∧ ap ≤ 9) : fM_evenPairs s k = some (iI (ep n T ap D)) := by
  have hn := hS.1
  unfold fM_evenPairs
  refine for2a (fun i => iI (sm (fun a => (cnt (ev T ap D a) n : Int)) i)) (i0 := 0) (n := n) (Nat.zero_le _) (by omega) (fun i _ hi c => ?_) (fun c => ?_)
  · unfold fM_evenPairs_L4
    rw [hL.1, if_neg (by rw [iI_le (by omega) (by omega) (by omega) (by omega)]; omega), M_evenWith hS hL hD bD hr hap (by omega), Option.bind_some, bitc_bt hn, Option.bind_some, iI_add, iI_add]; rfl
  · unfold fM_evenPairs_L4
    have h2 := ep2_ep hS ap D
    have hb := ep_bd hn T ap D
    rw [hL.1, if_pos (by rw [iI_le (by omega) (by omega) (by omega) (by omega)]; omega)]
    rw [show sm (fun a => (cnt (ev T ap D a) n : Int)) n = ep2 n T ap D from rfl, iI_div (by omega) (by omega) (by omega) (by omega), h2, Int.mul_tdiv_cancel_left _ (by decide)]
theorem M_canCarry {a b : Nat} (hL : LM s n T S) (hD : Rw s k D) (bD : Bd D 0 99) (hr : s.1 168 2 = iI bk) (hbk : 1 ≤ bk ∧ bk ≤ 9) (ha : a < 9) (hb : b < 9) : fM_canCarry s k (iI (a : Int)) (iI (b : Int)) = some (bI (cc T bk D a b)) := by
  have b1 := bD a
  have b2 := bD b
  simp only [fM_canCarry, fM_canCarry_J44, fM_canCarry_J45, iI_natc (show a ≤ 2147483647 by omega), iI_natc (show b ≤ 2147483647 by omega), M_tb hL ha hb, Option.bind_some, bI_0, show s.1 k = _ from hD, z2, hr]
  simp (disch := omega) only [iI_add, iI_sub, iI_mul, iI_lt, iI_le, iI_eq, iI_natc, iI_nat, chk_in, chkZ_1, chkZ_0, iMax_i, iMin_i, iAbs_i, Option.bind_some, nmI, nmM, nmL, rd_ne, rd_at, rd_cne, rd_fne, rd_L, rd_2, rd_c2, rd_f2, if_true, if_false, Int.toNat_natCast, ne_eq]
  unfold cc
  cases T a b
  · simp [← bI_f]
  · by_cases h1 : D a < bk
    · simp [h1, show ¬ bk ≤ D a by omega, ← bI_f]
    · by_cases h2 : 99 - bk < D b
      · simp [h1, h2, show ¬ D b ≤ 99 - bk by omega, ← bI_f]
      · simp [h1, h2, show D b ≤ 99 - bk by omega, show bk ≤ D a by omega, ← bI_t]
theorem M_carries {a b : Nat} (hk : k ≠ 168) (hD : Rw s k D) (hr : s.1 168 2 = iI bk) (ha : a < 9) (hb : b < 9) : fM_carries s k (iI (a : Int)) (iI (b : Int)) = some (wRo s k (fun j => iI (mv bk D a b j))) := by
  simp only [fM_carries, z2, hr, show s.1 k = _ from hD]
  simp (disch := omega) only [iI_add, iI_sub, iI_mul, iI_lt, iI_le, iI_eq, iI_natc, iI_nat, chk_in, chkZ_1, chkZ_0, iMax_i, iMin_i, iAbs_i, Option.bind_some, nmI, nmM, nmL, rd_ne, rd_at, rd_cne, rd_fne, rd_L, rd_2, rd_c2, rd_f2, if_true, if_false, Int.toNat_natCast, ne_eq]
  rw [wsI_R hD]
  simp only [wRo_at, wR_ne hk.symm, hr, iI_add]
  rw [wsI_R (k := k) (D := uI D a (D a - bk)) wRo_at, wR_wR]
  rfl
theorem M_sumOf {G : Nat → Int} (hn : n ≤ 9) (hL : LM s n T S) (hD : Rw s k G) : fM_sumOf s k = some (iI (sm G n)) := by
  unfold fM_sumOf
  refine for2a (fun i => iI (sm G i)) (i0 := 0) (n := n) (Nat.zero_le _) (by omega) (fun i _ hi c => ?_) (fun c => ?_)
  · unfold fM_sumOf_L4
    rw [hL.1, show s.1 k = _ from hD]
    simp (disch := omega) only [iI_add, iI_sub, iI_mul, iI_lt, iI_le, iI_eq, iI_natc, iI_nat, chk_in, chkZ_1, chkZ_0, iMax_i, iMin_i, iAbs_i, Option.bind_some, nmI, nmM, nmL, rd_ne, rd_at, rd_cne, rd_fne, rd_L, rd_2, rd_c2, rd_f2, if_true, if_false, Int.toNat_natCast, ne_eq]
    rw [if_neg (by omega)]; rfl
  · unfold fM_sumOf_L4
    rw [hL.1, if_pos (by rw [iI_le (by omega) (by omega) (by omega) (by omega)]; omega)]
theorem bt_ext {P : Nat → Bool} {n : Nat} : ∀ {m : Nat}, n ≤ m → (∀ j, n ≤ j → j < m → P j = false) → bt P m = bt P n
  | 0, h, _ => by rw [show n = 0 by omega]
  | m + 1, h, hp => by
    by_cases h1 : n = m + 1
    · rw [h1]
    · show bt P m + _ = _
      rw [hp m (by omega) (by omega), bt_ext (m := m) (by omega) (fun j a b => hp j a (by omega))]; rfl
theorem T_out (hS : Cty n T S) {a j : Nat} (h : n ≤ j) : T a j = false := by
  cases e : T a j with
  | false => rfl
  | true => have := hS.2.2.1 a j e; omega
theorem T_out' (hS : Cty n T S) {a j : Nat} (h : n ≤ a) : T a j = false := by
  cases e : T a j with
  | false => rfl
  | true => have := hS.2.2.1 a j e; omega
theorem bt_T (hS : Cty n T S) (a : Nat) : bt (T a) 9 = bt (T a) n := bt_ext hS.1 fun j h _ => T_out hS h
theorem M_pairsThere (hS : Cty n T S) (hL : LM s n T S) : fM_pairsThere s = some (iI (sm (fun a => (cnt (T a) n : Int)) n) / iI 2) := by
  have hn := hS.1
  unfold fM_pairsThere
  refine for2a (fun i => iI (sm (fun a => (cnt (T a) n : Int)) i)) (i0 := 0) (n := n) (Nat.zero_le _) (by omega) (fun i _ hi c => ?_) (fun c => ?_)
  · unfold fM_pairsThere_L4
    rw [hL.1, if_neg (by rw [iI_le (by omega) (by omega) (by omega) (by omega)]; omega), chk_in (by omega) (by omega) (by omega), iI_natc (by omega), hL.2.1 i (by omega), bt_T hS, bitc_bt hn, Option.bind_some, iI_add, iI_add]; rfl
  · unfold fM_pairsThere_L4
    rw [hL.1, if_pos (by rw [iI_le (by omega) (by omega) (by omega) (by omega)]; omega)]
end MF
