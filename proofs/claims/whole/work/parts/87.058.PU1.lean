/-! longs that are not below 0 -/
def lNn (x : Nat) : Int64 := Int64.ofNat x
theorem lN_bv (x : Nat) : (lNn x).toBitVec = BitVec.ofNat 64 x := by unfold lNn; simp
theorem lN_tn {x : Nat} (h : x < 9223372036854775808) : (lNn x).toBitVec.toNat = x := by rw [lN_bv, BitVec.toNat_ofNat, Nat.mod_eq_of_lt (by omega)]
theorem lN_of {y : Int64} {x : Nat} (h : x < 9223372036854775808) (e : y.toBitVec.toNat = x) : y = lNn x := by
  rw [← Int64.toBitVec_inj]
  apply BitVec.eq_of_toNat_eq
  rw [e, lN_tn h]
theorem lN_inj {x y : Nat} (hx : x < 9223372036854775808) (hy : y < 9223372036854775808) : (lNn x = lNn y) = (x = y) := by
  apply propext
  constructor
  · intro h
    have := congrArg (fun z : Int64 => z.toBitVec.toNat) h
    simp only [lN_tn hx, lN_tn hy] at this
    exact this
  · intro h; rw [h]
theorem lNn_toInt {x : Nat} (h : x < 9223372036854775808) : (lNn x).toInt = (x : Int) := by
  unfold lNn
  rw [Int64.toInt_ofNat']
  exact Int.bmod_eq_of_le (by simp only [Int64.size]; omega) (by simp only [Int64.size]; omega)
theorem lg_eq (x y : Int64) : (lg_cmp x y = iI 0) = (x = y) := by
  unfold lg_cmp
  apply propext
  by_cases h1 : x > y
  · rw [if_pos h1]
    constructor
    · intro h; exact absurd h (by decide)
    · intro h; rw [h, gt_iff_lt, Int64.lt_iff_toInt_lt] at h1; omega
  · rw [if_neg h1]
    by_cases h2 : x = y
    · rw [if_pos h2]; exact ⟨fun _ => h2, fun _ => rfl⟩
    · rw [if_neg h2]
      constructor
      · intro h; exact absurd h (by decide)
      · intro h; exact absurd h h2
theorem lg_n {x y : Nat} (hx : x < 9223372036854775808) (hy : y < 9223372036854775808) : (lg_cmp (lNn x) (lNn y) = iI 0) = (x = y) := by rw [lg_eq, lN_inj hx hy]
theorem lg_m1 {x : Nat} (hx : x < 9223372036854775808) : ¬ lg_cmp (lNn x) (-1) = iI 0 := by
  rw [lg_eq]
  intro h
  have := congrArg Int64.toInt h
  rw [lNn_toInt hx, show (-1 : Int64).toInt = -1 from rfl] at this
  omega
theorem lg_m1' : lg_cmp (-1) (-1) = iI 0 := by decide
theorem l64_tab : ∀ k : Fin 64, (((iI ((k.val : Nat) : Int)).toInt64 &&& 63).toBitVec.smod 64#64).toNat = k.val := by decide +kernel
theorem lShl_bv (x : Int64) {k : Nat} (hk : k < 64) : (lShl x (iI (k : Int))).toBitVec = x.toBitVec <<< k := by
  unfold lShl
  rw [Int64.toBitVec_shiftLeft]
  have := l64_tab ⟨k, hk⟩
  simp only at this
  rw [BitVec.shiftLeft_eq', show (64 : BitVec 64) = 64#64 from rfl, this]
theorem lShr_bv (x : Int64) {k : Nat} (hk : k < 64) : (lShr x (iI (k : Int))).toBitVec = x.toBitVec.sshiftRight k := by
  unfold lShr
  rw [Int64.toBitVec_shiftRight]
  unfold BitVec.sshiftRight'
  have := l64_tab ⟨k, hk⟩
  simp only at this
  rw [show (64 : BitVec 64) = 64#64 from rfl, this]
theorem l64u_tab : ∀ k : Fin 64, ((iI ((k.val : Nat) : Int)).toInt64.toUInt64 &&& Int64.toUInt64 63).toBitVec.toNat % 64 = k.val := by decide +kernel
theorem lUshr_bv (x : Int64) {k : Nat} (hk : k < 64) : (lUshr x (iI (k : Int))).toBitVec = x.toBitVec >>> k := by
  unfold lUshr
  have := l64u_tab ⟨k, hk⟩
  simp only at this
  rw [UInt64.toBitVec_toInt64, UInt64.toBitVec_shiftRight, Int64.toBitVec_toUInt64]
  apply BitVec.eq_of_toNat_eq
  simp only [BitVec.toNat_ushiftRight, BitVec.ushiftRight_eq', BitVec.toNat_umod]
  rw [show (64 : BitVec 64).toNat = 64 from rfl, this]
theorem lShl_n {x k : Nat} (hk : k < 64) (h : x * 2 ^ k < 9223372036854775808) : lShl (lNn x) (iI (k : Int)) = lNn (x * 2 ^ k) := by
  have hx : x < 9223372036854775808 := Nat.lt_of_le_of_lt (Nat.le_mul_of_pos_right x (Nat.pos_of_ne_zero (by simp))) h
  refine lN_of h ?_
  rw [lShl_bv _ hk, BitVec.toNat_shiftLeft, lN_tn hx, Nat.shiftLeft_eq, Nat.mod_eq_of_lt (by omega)]
theorem lUshr_n {x k : Nat} (hk : k < 64) (hx : x < 9223372036854775808) : lUshr (lNn x) (iI (k : Int)) = lNn (x / 2 ^ k) := by
  refine lN_of (Nat.lt_of_le_of_lt (Nat.div_le_self _ _) hx) ?_
  rw [lUshr_bv _ hk, BitVec.toNat_ushiftRight, lN_tn hx, Nat.shiftRight_eq_div_pow]
theorem lShr_n {x k : Nat} (hk : k < 64) (hx : x < 9223372036854775808) : lShr (lNn x) (iI (k : Int)) = lNn (x / 2 ^ k) := by
  refine lN_of (Nat.lt_of_le_of_lt (Nat.div_le_self _ _) hx) ?_
  have hm : (lNn x).toBitVec.msb = false := by
    rw [BitVec.msb_eq_decide, lN_tn hx]; simp; omega
  rw [lShr_bv _ hk, BitVec.sshiftRight_eq_of_msb_false hm, BitVec.toNat_ushiftRight, lN_tn hx, Nat.shiftRight_eq_div_pow]
theorem lor_n {a b k : Nat} (ha : a < 2 ^ k) (h : a + b * 2 ^ k < 9223372036854775808) : lNn a ||| lNn (b * 2 ^ k) = lNn (a + b * 2 ^ k) := by
  refine lN_of h ?_
  rw [Int64.toBitVec_or, BitVec.toNat_or, lN_tn (by omega), lN_tn (by omega)]
  have := Nat.two_pow_add_eq_or_of_lt ha b
  rw [Nat.mul_comm b, Nat.add_comm, this, Nat.or_comm]
theorem ladd_n {a b : Nat} (h : a + b < 9223372036854775808) : lNn a + lNn b = lNn (a + b) := by unfold lNn; simp
theorem lsub_n {a b : Nat} (h : b ≤ a) (ha : a < 9223372036854775808) : lNn a - lNn b = lNn (a - b) := by
  rw [← Int64.toInt_inj, Int64.toInt_sub, lNn_toInt ha, lNn_toInt (by omega), lNn_toInt (by omega)]
  rw [Int.bmod_eq_of_le (by omega) (by omega)]; omega
theorem lto32 (x : Nat) : (lNn x).toInt32 = iI (x : Int) := by
  rw [← Int32.toBitVec_inj, Int64.toBitVec_toInt32, BitVec.signExtend_eq_setWidth_of_le _ (by omega), lN_bv, iI_bv]
  apply BitVec.eq_of_toNat_eq
  simp only [BitVec.toNat_setWidth, BitVec.toNat_ofNat]
  omega
theorem i127 (x : Nat) : iI (x : Int) &&& iI 127 = iI ((x % 128 : Nat) : Int) := by
  have hl : x % 128 < 128 := Nat.mod_lt _ (by decide)
  rw [← Int32.toBitVec_inj, Int32.toBitVec_and, iI_bv, iI_bv, show (iI 127).toBitVec = BitVec.ofNat 32 127 from rfl]
  apply BitVec.eq_of_toNat_eq
  rw [BitVec.toNat_and, BitVec.toNat_ofNat, BitVec.toNat_ofNat, BitVec.toNat_ofNat, show 127 % 2 ^ 32 = 2 ^ 7 - 1 from rfl, Nat.and_two_pow_sub_one_eq_mod, Nat.mod_eq_of_lt (show x % 128 < 2 ^ 32 by omega)]
  omega
theorem l127 {x : Nat} (hx : x < 9223372036854775808) : lNn x &&& (127 : Int64) = lNn (x % 128) := by
  refine lN_of (by omega) ?_
  rw [Int64.toBitVec_and, BitVec.toNat_and, lN_tn hx, show (127 : Int64).toBitVec.toNat = 2 ^ 7 - 1 from rfl, Nat.and_two_pow_sub_one_eq_mod]
theorem l65535 {x : Nat} (hx : x < 9223372036854775808) : lNn x &&& (65535 : Int64) = lNn (x % 65536) := by
  refine lN_of (by omega) ?_
  rw [Int64.toBitVec_and, BitVec.toNat_and, lN_tn hx, show (65535 : Int64).toBitVec.toNat = 2 ^ 16 - 1 from rfl, Nat.and_two_pow_sub_one_eq_mod]
theorem i64n {d : Int} (h0 : 0 ≤ d) (h1 : d ≤ 2147483647) : (iI d).toInt64 = lNn d.toNat := by
  rw [← Int64.toInt_inj, Int32.toInt_toInt64, iI_toInt (by omega) h1, lNn_toInt (by omega)]; omega
/-! depths in one number -/
def wkey (D : Nat → Int) : Nat → Nat
  | 0 => 0
  | f + 1 => wkey D f + (D f).toNat * 2 ^ (7 * f)
def mkey (D : Nat → Int) : Nat → Nat
  | 0 => 0
  | f + 1 => mkey D f * 128 + (D f).toNat
def Bn (n : Nat) (D : Nat → Int) : Prop := ∀ j, j < n → 0 ≤ D j ∧ D j ≤ 99
theorem pow7 (f : Nat) : 2 ^ (7 * (f + 1)) = 128 * 2 ^ (7 * f) := by rw [Nat.mul_add, Nat.pow_add]; omega
theorem wkey_lt {D : Nat → Int} : ∀ {f : Nat}, Bn f D → wkey D f < 2 ^ (7 * f)
  | 0, _ => by simp [wkey]
  | f + 1, h => by
    have ih := wkey_lt (f := f) fun j hj => h j (by omega)
    have b := h f (by omega)
    unfold wkey
    rw [pow7]
    have : (D f).toNat * 2 ^ (7 * f) ≤ 99 * 2 ^ (7 * f) := Nat.mul_le_mul_right _ (by omega)
    omega
theorem mkey_lt {D : Nat → Int} : ∀ {f : Nat}, Bn f D → mkey D f < 2 ^ (7 * f)
  | 0, _ => by simp [mkey]
  | f + 1, h => by
    have ih := mkey_lt (f := f) fun j hj => h j (by omega)
    have b := h f (by omega)
    unfold mkey
    rw [pow7]
    omega
theorem p63 {n : Nat} (hn : n ≤ 9) : 2 ^ (7 * n) ≤ 9223372036854775808 := Nat.le_trans (Nat.pow_le_pow_right (by omega) (show 7 * n ≤ 63 by omega)) (by decide)
theorem wkey_63 {D : Nat → Int} {n : Nat} (hn : n ≤ 9) (h : Bn n D) : wkey D n < 9223372036854775808 := Nat.lt_of_lt_of_le (wkey_lt h) (p63 hn)
theorem mkey_63 {D : Nat → Int} {n : Nat} (hn : n ≤ 9) (h : Bn n D) : mkey D n < 9223372036854775808 := Nat.lt_of_lt_of_le (mkey_lt h) (p63 hn)
theorem wkey_dig {D : Nat → Int} : ∀ {n f : Nat}, Bn n D → f < n → wkey D n / 2 ^ (7 * f) % 128 = (D f).toNat
  | 0, f, _, hf => by omega
  | n + 1, f, h, hf => by
    have hb : Bn n D := fun j hj => h j (by omega)
    have b := h n (by omega)
    have hl := wkey_lt hb
    have hp : ∀ q, 0 < 2 ^ (7 * q) := fun q => Nat.pos_of_ne_zero (by simp)
    unfold wkey
    by_cases e : f = n
    · subst e
      rw [Nat.add_mul_div_right _ _ (hp f), Nat.div_eq_of_lt hl]
      omega
    · have ih := wkey_dig (n := n) (f := f) hb (by omega)
      rw [show 7 * n = 7 * f + 7 + 7 * (n - f - 1) by omega, Nat.pow_add, Nat.pow_add, show (D n).toNat * (2 ^ (7 * f) * 2 ^ 7 * 2 ^ (7 * (n - f - 1))) = ((D n).toNat * 2 ^ (7 * (n - f - 1)) * 128) * 2 ^ (7 * f) by
        rw [show (2 : Nat) ^ 7 = 128 from rfl]; simp only [Nat.mul_assoc, Nat.mul_comm, Nat.mul_left_comm], Nat.add_mul_div_right _ _ (hp f), Nat.add_mul_mod_self_right, ih]
theorem wkey_inj {D E : Nat → Int} {n : Nat} (h : Bn n D) (h' : Bn n E) (e : wkey D n = wkey E n) : ∀ j, j < n → D j = E j := fun j hj => by
  have a := wkey_dig h hj
  have b := wkey_dig h' hj
  rw [e, b] at a
  have := h j hj
  have := h' j hj
  omega
theorem wkey_congr {D E : Nat → Int} : ∀ {n : Nat}, (∀ j, j < n → D j = E j) → wkey D n = wkey E n
  | 0, _ => rfl
  | n + 1, h => by unfold wkey; rw [wkey_congr fun j hj => h j (by omega), h n (by omega)]
theorem mkey_congr {D E : Nat → Int} : ∀ {n : Nat}, (∀ j, j < n → D j = E j) → mkey D n = mkey E n
  | 0, _ => rfl
  | n + 1, h => by unfold mkey; rw [mkey_congr fun j hj => h j (by omega), h n (by omega)]
theorem mkey_inj {D E : Nat → Int} : ∀ {n : Nat}, Bn n D → Bn n E → mkey D n = mkey E n → ∀ j, j < n → D j = E j
  | 0, _, _, _, j, hj => by omega
  | n + 1, h, h', e, j, hj => by
    have b := h n (by omega)
    have b' := h' n (by omega)
    unfold mkey at e
    have e1 : mkey D n = mkey E n := by omega
    have e2 : (D n).toNat = (E n).toNat := by omega
    by_cases ej : j = n
    · subst ej; omega
    · exact mkey_inj (n := n) (fun j hj => h j (by omega)) (fun j hj => h' j (by omega)) e1 j (by omega)
section PK
variable {s t : wM} {n k : Nat} {T : Nat → Nat → Bool} {S : Nat → Nat → Int} {D SP : Nat → Int} {ap fi bk : Int}
theorem M_packed (hn : n ≤ 9) (h3 : s.1 161 3 = iI (n : Int)) (hD : ∀ j, j < n → s.1 k j = iI (D j)) (bD : Bn n D) : fM_packed s k = some (lNn (mkey D n)) := by
  unfold fM_packed
  refine for2a (f := fM_packed_L5 k s) (fun i => lNn (mkey D i)) (i0 := 0) (n := n) (Nat.zero_le _) (by omega) (fun i _ hi c => ?_) (fun c => ?_)
  · have b := bD i hi
    have hl := mkey_lt (D := D) (f := i) fun j hj => bD j (by omega)
    have hl2 := mkey_63 (D := D) (n := i + 1) (by omega) fun j hj => bD j (by omega)
    have hs : mkey D (i + 1) = mkey D i * 128 + (D i).toNat := rfl
    rw [hs] at hl2
    unfold fM_packed_L5
    rw [h3, if_neg (by rw [iI_le (by omega) (by omega) (by omega) (by omega)]; omega), chk_in (by omega) (by omega) (by omega), iI_natc (by omega), hD i hi, i64n b.1 (by omega)]
    simp only [nmL, iI_add]
    rw [show iI (7 : Int) = iI ((7 : Nat) : Int) from rfl, lShl_n (by omega) (by omega), show lNn (mkey D i * 2 ^ 7) ||| lNn (D i).toNat = lNn (D i).toNat ||| lNn (mkey D i * 2 ^ 7) by rw [← Int64.toBitVec_inj, Int64.toBitVec_or, Int64.toBitVec_or, BitVec.or_comm], lor_n (by omega) (by omega), hs]
    rw [show (D i).toNat + mkey D i * 2 ^ 7 = mkey D i * 128 + (D i).toNat by omega]
  · unfold fM_packed_L5
    rw [h3, if_pos (by rw [iI_le (by omega) (by omega) (by omega) (by omega)]; omega)]
theorem Ah_pack (hS : Cty n T S) (hA : AH s n T S SP ap D) (bD : Bn n D) : fAh_pack s = some (lNn (wkey D n)) := by
  have hn := hS.1
  unfold fAh_pack
  refine for2a (f := fAh_pack_L4 s) (fun i => lNn (wkey D i)) (i0 := 0) (n := n) (Nat.zero_le _) (by omega) (fun i _ hi c => ?_) (fun c => ?_)
  · have b := bD i hi
    have hl := wkey_lt (D := D) (f := i) fun j hj => bD j (by omega)
    have hl2 := wkey_63 (D := D) (n := i + 1) (by omega) fun j hj => bD j (by omega)
    have hs : wkey D (i + 1) = wkey D i + (D i).toNat * 2 ^ (7 * i) := rfl
    rw [hs] at hl2
    unfold fAh_pack_L4
    rw [hA.1, if_neg (by rw [iI_le (by omega) (by omega) (by omega) (by omega)]; omega), chk_in (by omega) (by omega) (by omega), iI_natc (by omega), show s.1 14 = _ from hA.2.2.2.2.1, i64n b.1 (by omega), iI_mul, iI_add]
    simp only [nmL]
    rw [show (7 * (i : Int)) = ((7 * i : Nat) : Int) by omega, lShl_n (by omega) (by omega), lor_n hl (by omega), hs]
  · unfold fAh_pack_L4
    rw [hA.1, if_pos (by rw [iI_le (by omega) (by omega) (by omega) (by omega)]; omega)]
/-- what the first n places say, the others as in D0 -/
def tl (n : Nat) (D D0 : Nat → Int) : Nat → Int := fun j => if j < n then D j else D0 j
theorem Ah_unpack {E : Nat → Int} (hS : Cty n T S) (hA : AH s n T S SP ap D) (bE : Bn n E) : ∃ t, fAh_unpack s (lNn (wkey E n)) = some t ∧ AH t n T S SP ap (tl n E D) ∧ t.1 13 8 = iI 0 ∧ Off (fun k j => k == 14 || k == 13 && j == 8) s t ∧ t.2 = s.2 := by
  have hn := hS.1
  have h63 := wkey_63 hn bE
  unfold fAh_unpack
  refine wh2_w (Q := fun x => ∃ t, x = some t ∧ AH t n T S SP ap (tl n E D) ∧ t.1 13 8 = iI 0 ∧ Off (fun k j => k == 14 || k == 13 && j == 8) s t ∧ t.2 = s.2) (fun m x t => ∃ i : Nat, i ≤ n ∧ m = n - i ∧ x = iI (i : Int) ∧ t = wRo s 14 (fun j => iI (tl i E D j))) ?_ 100000 n _ s (by omega) ⟨0, by omega, rfl, rfl, (wR_id (by rw [show s.1 14 = _ from hA.2.2.2.2.1]; funext j; simp [tl])).symm⟩
  rintro m x t ⟨i, h1, rfl, rfl, rfl⟩ c hc
  unfold fAh_unpack_L2
  rw [wR_ne (by decide), hA.1]
  by_cases hi : i < n
  · have b := bE i hi
    rw [if_neg (by rw [iI_le (by omega) (by omega) (by omega) (by omega)]; omega), chk_in (by omega) (by omega) (by omega), iI_natc (by omega), iI_mul, show (7 * (i : Int)) = ((7 * i : Nat) : Int) by omega, lUshr_n (by omega) h63, lto32, i127, wkey_dig bE hi, iI_add]
    simp only [nmM]
    rw [show ((E i).toNat : Int) = E i by omega, wsI_R (D := tl i E D) wRo_at, wR_wR]
    refine hc (n - (i + 1)) _ _ (by omega) ⟨i + 1, by omega, rfl, by simp, ?_⟩
    congr 1
    funext j
    unfold uI tl
    by_cases e : j = i
    · subst e; rw [if_pos rfl, if_pos (by omega)]
    · rw [if_neg e]
      by_cases e2 : j < i
      · rw [if_pos e2, if_pos (by omega)]
      · rw [if_neg e2, if_neg (by omega)]
  · have : i = n := by omega
    subst this
    rw [if_pos (by rw [iI_le (by omega) (by omega) (by omega) (by omega)]; omega)]
    simp only [nmM]
    obtain ⟨k1, k2, k3, k4, k5, k6⟩ := hA
    refine ⟨_, rfl, ⟨?_, ?_, ?_, fun p hp => ?_, ?_, ?_⟩, rd_at, (wR_off (Off.refl s) fun j => rfl).set rfl, rfl⟩
    · rw [rd_of (by decide), wR_ne (by decide)]; exact k1
    · rw [rd_of (by decide), wR_ne (by decide)]; exact k2
    · rw [rd_of (by decide), wR_ne (by decide)]; exact k3
    · rw [rd_ne (by decide), rd_ne (by decide), rd_ne (by decide), wR_ne (by decide), wR_ne (by decide), wR_ne (by decide)]; exact k4 p hp
    · refine Rw.of wR_Rw (rd_ne (by decide))
    · exact (k6.ne (by decide)).of (rd_ne (by decide))
end PK
