/-! heirs -/
theorem neg1_bit (i : Nat) (hi : i < 32) : (iI (-1)).toBitVec.getLsbD i = true := by
  rw [show (iI (-1)).toBitVec = BitVec.allOnes 32 from rfl, BitVec.getLsbD_allOnes]; simp [hi]
theorem mask_iff {z : Int} {m : Nat} (hm : m < 512) : ((iI z &&& (iI (m : Int) ^^^ iI (-1))) = iI 0) ↔ ∃ h : Nat, h < 512 ∧ iI z = iI (h : Int) ∧ ∀ g, h.testBit g = true → m.testBit g = true := by
  rw [← Int32.toBitVec_inj, Int32.toBitVec_and, Int32.toBitVec_xor]
  constructor
  · intro h
    have hb : ∀ i, i < 32 → (iI z).toBitVec.getLsbD i = true → m.testBit i = true := fun i hi hz => by
      have e := congrArg (fun v : BitVec 32 => v.getLsbD i) h
      simp only [BitVec.getLsbD_and, BitVec.getLsbD_xor] at e
      rw [hz, neg1_bit i hi, iI_bit m (by omega), show (iI 0).toBitVec = 0#32 from rfl] at e
      simpa using e
    have hlt : (iI z).toBitVec.toNat < 2 ^ 9 := Nat.lt_pow_two_of_testBit _ fun i hi => by
      by_cases h32 : i < 32
      · cases hz : (iI z).toBitVec.toNat.testBit i with
        | false => rfl
        | true =>
          rw [BitVec.testBit_toNat] at hz
          have := hb i h32 hz
          rw [Nat.testBit_lt_two_pow (Nat.lt_of_lt_of_le hm (show 2 ^ 9 ≤ 2 ^ i from Nat.pow_le_pow_right (by omega) hi))] at this
          cases this
      · exact Nat.testBit_lt_two_pow (Nat.lt_of_lt_of_le (iI z).toBitVec.isLt (Nat.pow_le_pow_right (by omega) (by omega)))
    refine ⟨(iI z).toBitVec.toNat, by omega, ?_, fun g hg => ?_⟩
    · rw [← Int32.toBitVec_inj, iI_bv]
      apply BitVec.eq_of_toNat_eq
      rw [BitVec.toNat_ofNat, Nat.mod_eq_of_lt (by omega)]
    · rw [BitVec.testBit_toNat] at hg
      by_cases h32 : g < 32
      · exact hb g h32 hg
      · rw [BitVec.getLsbD_of_ge _ _ (by omega)] at hg; cases hg
  · rintro ⟨h, h1, h2, h3⟩
    rw [h2]
    refine BitVec.eq_of_getLsbD_eq fun i hi => ?_
    rw [BitVec.getLsbD_and, BitVec.getLsbD_xor, neg1_bit i hi, iI_bit m (by omega), iI_bit h (by omega), show (iI 0).toBitVec = 0#32 from rfl]
    cases hh : h.testBit i with
    | false => simp
    | true => rw [h3 i hh]; simp
def dvS (n a h : Nat) (x : (Nat → Nat → Bool) × (Nat → Nat → Int)) (g : Nat) : (Nat → Nat → Bool) × (Nat → Nat → Int) := if h.testBit g then (uT (uT x.1 n g true) a g false, uS (uS x.2 n g (x.2 a g)) a g 0) else x
def dvF (n a h : Nat) (T : Nat → Nat → Bool) (S : Nat → Nat → Int) : Nat → (Nat → Nat → Bool) × (Nat → Nat → Int)
  | 0 => (T, S)
  | g + 1 => dvS n a h (dvF n a h T S g) g
section DV
variable {s t u : wM} {n a h : Nat} {T : Nat → Nat → Bool} {S S' : Nat → Nat → Int} {D SP : Nat → Int} {ap fi bk : Int} {G : Nat → Int32} {w : Int32} {pl : List PI} {kp : Nat → KI} {tx : List Nat} {se : List (Nat × Nat)}
theorem Cty.more (hS : Cty n T S) (hn : n < 9) : Cty (n + 1) T S := ⟨by omega, hS.2.1, fun x y hx => by have := hS.2.2.1 x y hx; omega, hS.2.2.2⟩
theorem dvF_ok (hS : Cty n T S) (hn : n < 9) (ha : a < n) (hh : ∀ g, h.testBit g = true → T a g = true) : ∀ i, i ≤ n → Cty (n + 1) (dvF n a h T S i).1 (dvF n a h T S i).2 ∧ (∀ g, i ≤ g → (dvF n a h T S i).1 a g = T a g) ∧ (∀ g, i ≤ g → (dvF n a h T S i).1 n g = false)
  | 0, _ => ⟨hS.more hn, fun g _ => rfl, fun g _ => T_out' hS (Nat.le_refl n)⟩
  | i + 1, hi => by
    obtain ⟨h1, h2, h3⟩ := dvF_ok hS hn ha hh i (by omega)
    show Cty (n + 1) (dvS _ _ _ _ _).1 (dvS _ _ _ _ _).2 ∧ (∀ g, i + 1 ≤ g → (dvS _ _ _ _ _).1 a g = T a g) ∧ ∀ g, i + 1 ≤ g → (dvS _ _ _ _ _).1 n g = false
    unfold dvS
    by_cases hb : h.testBit i = true
    · rw [if_pos hb]
      have hT := hh i hb
      have hne := (hS.2.2.1 a i hT).2.2
      have hs := h1.2.2.2.2 a i
      refine ⟨(h1.set (by omega) (by omega) (by omega) hs).set (by omega) (by omega) hne (by omega), fun g hg => ?_, fun g hg => ?_⟩
      · unfold uT
        dsimp only
        rw [if_neg (by omega), if_neg (by omega)]; exact h2 g (by omega)
      · unfold uT
        dsimp only
        rw [if_neg (by omega), if_neg (by omega)]; exact h3 g (by omega)
    · rw [if_neg hb]; exact ⟨h1, fun g hg => h2 g (by omega), fun g hg => h3 g (by omega)⟩
def dvT (n a h : Nat) (T : Nat → Nat → Bool) (S : Nat → Nat → Int) : Nat → Nat → Bool := uT (dvF n a h T S n).1 a n true
def dvSt (n a h : Nat) (T : Nat → Nat → Bool) (S : Nat → Nat → Int) : Nat → Nat → Int := uS (dvF n a h T S n).2 a n 0
def dvD (n a : Nat) (D : Nat → Int) : Nat → Int := uI (uI D n ((D a).tdiv 2)) a (D a - (D a).tdiv 2)
theorem W_dvL (hS : Cty n T S) (hn : n < 9) (ha : a < n) (hh : ∀ g, h.testBit g = true → T a g = true) (hl : h < 512) (hL : LW s (n + 1) T S) : ∃ t, wh2 (fW_divide_L79 (iI (a : Int)) (iI (h : Int)) (iI (n : Int))) 100000 (iI 0) s = some (iI (n : Int), t) ∧ LW t (n + 1) (dvT n a h T S) (dvSt n a h T S) ∧ t.1 34 0 = iI 0 ∧ Off (fun k j => k == 12 || k == 34 && j == 0) s t := by
  refine wh2_w (Q := fun x => ∃ t, x = some (iI (n : Int), t) ∧ LW t (n + 1) (dvT n a h T S) (dvSt n a h T S) ∧ t.1 34 0 = iI 0 ∧ Off (fun k j => k == 12 || k == 34 && j == 0) s t) (fun m x u => ∃ i : Nat, i ≤ n ∧ m = n - i ∧ x = iI (i : Int) ∧ LW u (n + 1) (dvF n a h T S i).1 (dvF n a h T S i).2 ∧ Off (fun k j => k == 12 || k == 34 && j == 0) s u) ?_ 100000 n _ s (by omega) ⟨0, by omega, rfl, rfl, hL, Off.refl s⟩
  rintro m x u ⟨i, g1, rfl, rfl, hu, ho⟩ c hc
  obtain ⟨k1, k2, k3⟩ := dvF_ok hS hn ha hh i g1
  unfold fW_divide_L79 fW_divide_J128
  by_cases hi : i < n
  · rw [if_neg (by rw [iI_le (by omega) (by omega) (by omega) (by omega)]; omega)]
    simp only [has_bit hl (show i < 9 by omega), iI_add]
    by_cases hb : h.testBit i = true
    · have hT := hh i hb
      have hne := (hS.2.2.1 a i hT).2.2
      have hT2 : (dvF n a h T S i).1 a i = true := by rw [k2 i (Nat.le_refl i)]; exact hT
      have hs := k1.2.2.2.2 a i
      rw [if_pos hb, Land_between hu (by omega) (by omega), Option.bind_some, if_pos hT2]
      obtain ⟨t1, e1, l1, o1⟩ := W_join (a := n) (b := i) (v := (dvF n a h T S i).2 a i) hu (by omega) (by omega) (by omega) (by omega)
      obtain ⟨t2, e2, l2, o2⟩ := W_join (a := a) (b := i) (v := -1) l1 (by omega) (by omega) hne (by omega)
      rw [e1, Option.bind_some, e2, Option.bind_some]
      rw [decide_eq_true hs.1, Int.max_eq_right hs.1] at l2
      refine hc (n - (i + 1)) _ _ (by omega) ⟨i + 1, by omega, rfl, by simp, ?_, ho.trans ((o1.trans o2).mono fun k j hk => ?_)⟩
      · show LW t2 (n + 1) (dvS _ _ _ _ _).1 (dvS _ _ _ _ _).2
        unfold dvS; rw [if_pos hb]; exact l2
      · simp only [Bool.or_eq_false_iff] at hk; exact hk.1
    · rw [if_neg hb]
      refine hc (n - (i + 1)) _ _ (by omega) ⟨i + 1, by omega, rfl, by simp, ?_, ho⟩
      show LW u (n + 1) (dvS _ _ _ _ _).1 (dvS _ _ _ _ _).2
      unfold dvS; rw [if_neg hb]; exact hu
  · have : i = n := by omega
    subst this
    rw [if_pos (by rw [iI_le (by omega) (by omega) (by omega) (by omega)]; omega)]
    obtain ⟨t1, e1, l1, o1⟩ := W_join (a := a) (b := i) (v := 0) hu (by omega) (by omega) (by omega) (by omega)
    rw [e1, Option.bind_some]
    unfold fPa_clear
    simp only [nmM, Option.bind_some]
    refine ⟨_, rfl, l1.of (by rw [rd_ne (by decide)]) (rd_ne (by decide)), rd_at, (ho.trans (o1.mono fun k j hk => ?_)).set rfl⟩
    simp only [Bool.or_eq_false_iff] at hk; exact hk.1
theorem LM.congrS (hL : LM s n T S) (e : ∀ x y, T x y = true → S' x y = S x y) : LM s n T S' := ⟨hL.1, hL.2.1, fun x y hx hy hT => by rw [e x y hT]; exact hL.2.2 x y hx hy hT⟩
theorem uT_same {c : Bool} (hS : Cty n T S) {x y : Nat} (h : T x y = c) : uT T x y c = T := by
  funext p q; unfold uT
  split
  · rename_i e
    rcases e with ⟨rfl, rfl⟩ | ⟨rfl, rfl⟩
    · exact h.symm
    · rw [hS.2.1]; exact h.symm
  · rfl
theorem M_dvL (hS : Cty n T S) (hn : n < 9) (ha : a < n) (hh : ∀ g, h.testBit g = true → T a g = true) (hl : h < 512) (hL : LM s (n + 1) T S) : ∃ t, wh2 (fM_divide_L105 (iI (a : Int)) (iI (h : Int)) (iI (n : Int))) 100000 (iI 0) s = some (iI (n : Int), t) ∧ LM t (n + 1) (dvT n a h T S) (dvSt n a h T S) ∧ t.1 161 20 = iI 0 ∧ Off (fun k j => k == 165 || k == 166 || k == 161 && j == 20) s t := by
  refine wh2_w (Q := fun x => ∃ t, x = some (iI (n : Int), t) ∧ LM t (n + 1) (dvT n a h T S) (dvSt n a h T S) ∧ t.1 161 20 = iI 0 ∧ Off (fun k j => k == 165 || k == 166 || k == 161 && j == 20) s t) (fun m x u => ∃ i : Nat, i ≤ n ∧ m = n - i ∧ x = iI (i : Int) ∧ LM u (n + 1) (dvF n a h T S i).1 (dvF n a h T S i).2 ∧ Off (fun k j => k == 165 || k == 166 || k == 161 && j == 20) s u) ?_ 100000 n _ s (by omega) ⟨0, by omega, rfl, rfl, hL, Off.refl s⟩
  rintro m x u ⟨i, g1, rfl, rfl, hu, ho⟩ c hc
  obtain ⟨k1, k2, k3⟩ := dvF_ok hS hn ha hh i g1
  unfold fM_divide_L105 fM_divide_J155
  by_cases hi : i < n
  · rw [if_neg (by rw [iI_le (by omega) (by omega) (by omega) (by omega)]; omega)]
    obtain ⟨t0, e0, l0, o0⟩ := M_touchBy (a := n) (b := i) (v := -1) hu (by omega) (by omega) (by omega) (by omega)
    have hnf := k3 i (Nat.le_refl i)
    rw [show decide ((0 : Int) ≤ -1) = false from rfl, uT_same k1 hnf] at l0
    have l0' : LM t0 (n + 1) (dvF n a h T S i).1 (dvF n a h T S i).2 := l0.congrS fun x y hT => by
      unfold uS
      rw [if_neg]
      rintro (⟨rfl, rfl⟩ | ⟨rfl, rfl⟩)
      · rw [hnf] at hT; cases hT
      · rw [k1.2.1, hnf] at hT; cases hT
    have ho0 := ho.trans (o0.mono (K' := fun k j => k == 165 || k == 166 || k == 161 && j == 20) fun k j hk => by simp only [Bool.or_eq_false_iff] at hk ⊢; exact hk.1)
    rw [e0, Option.bind_some, M_has hl (by omega), Option.bind_some]
    simp only [bI_0, iI_add]
    by_cases hb : h.testBit i = true
    · have hT := hh i hb
      have hne := (hS.2.2.1 a i hT).2.2
      have hT2 : (dvF n a h T S i).1 a i = true := by rw [k2 i (Nat.le_refl i)]; exact hT
      have hs := k1.2.2.2.2 a i
      rw [if_neg (by rw [hb]; decide), iI_mul, iI_add, chk_in (by omega) (by omega) (by omega), iI_ix' (by omega) (by omega), l0'.2.2 a i (by omega) (by omega) hT2]
      obtain ⟨t1, e1, l1, o1⟩ := M_touchBy (a := n) (b := i) (v := (dvF n a h T S i).2 a i) l0' (by omega) (by omega) (by omega) (by omega)
      obtain ⟨t2, e2, l2, o2⟩ := M_touchBy (a := a) (b := i) (v := -1) l1 (by omega) (by omega) hne (by omega)
      rw [e1, Option.bind_some, e2, Option.bind_some]
      rw [decide_eq_true hs.1, Int.max_eq_right hs.1] at l2
      refine hc (n - (i + 1)) _ _ (by omega) ⟨i + 1, by omega, rfl, by simp, ?_, ho0.trans ((o1.trans o2).mono fun k j hk => ?_)⟩
      · show LM t2 (n + 1) (dvS _ _ _ _ _).1 (dvS _ _ _ _ _).2
        unfold dvS; rw [if_pos hb]; exact l2
      · simp only [Bool.or_eq_false_iff] at hk ⊢; exact hk.1
    · rw [if_pos (by simpa using hb)]
      refine hc (n - (i + 1)) _ _ (by omega) ⟨i + 1, by omega, rfl, by simp, ?_, ho0⟩
      show LM t0 (n + 1) (dvS _ _ _ _ _).1 (dvS _ _ _ _ _).2
      unfold dvS; rw [if_neg hb]; exact l0'
  · have : i = n := by omega
    subst this
    rw [if_pos (by rw [iI_le (by omega) (by omega) (by omega) (by omega)]; omega)]
    obtain ⟨t1, e1, l1, o1⟩ := M_touchBy (a := a) (b := i) (v := 0) hu (by omega) (by omega) (by omega) (by omega)
    rw [e1, Option.bind_some]
    simp only [nmM]
    refine ⟨_, rfl, l1.of (rd_of (by decide)) (rd_ne (by decide)) (rd_ne (by decide)), rd_at, (ho.trans (o1.mono fun k j hk => ?_)).set rfl⟩
    simp only [Bool.or_eq_false_iff] at hk ⊢; exact hk.1
theorem dvD_bd (h : Bd D 0 99) : Bd (dvD n a D) 0 99 := by
  have := h a
  have e : (D a).tdiv 2 = D a / 2 := Int.tdiv_eq_ediv_of_nonneg (by omega)
  unfold dvD
  rw [e]
  exact uI_bd (uI_bd h (by omega)) (by omega)
theorem W_divide (hv : CV n T S D SP ap fi bk) (hw : HW s n T S D SP ap fi bk G w pl kp tx se) (hn : n < 9) (ha : a < n) (hh : ∀ g, h.testBit g = true → T a g = true) (hl : h < 512) : ∃ t, fW_divide s (iI (a : Int)) (iI (h : Int)) = some (iI (n : Int), t) ∧ HW t (n + 1) (dvT n a h T S) (dvSt n a h T S) (dvD n a D) (uI SP n 0) ap fi bk G w [] kp tx se ∧ Off (fun k j => (decide (7 ≤ k) && decide (k ≤ 12)) || k == 34 && j == 0) s t := by
  have bd := hv.2.1 a
  have hS := hv.1
  unfold fW_divide
  rw [Land_has (by omega) hw.1.1 (by omega) (by omega), Option.bind_some, bI_d (by omega), if_neg (by decide), Land_touching hS hw.1.1 (by omega), Option.bind_some, if_pos ((mask_iff (bt_lt9 _ (by omega))).mpr ⟨h, hl, rfl, fun g hg => by
    rw [bt_bit, hh g hg]; have := hS.2.2.1 a g (hh g hg); simp; omega⟩), hw.1.1.1, if_neg (by rw [iI_eq (by omega) (by omega) (by omega) (by omega)]; omega), chk_in (by omega) (by omega) (by omega), iI_natc (by omega)]
  unfold fLand_settle
  rw [hw.1.1.1, if_neg (by rw [iI_eq (by omega) (by omega) (by omega) (by omega)]; omega), chk_in (by omega) (by omega) (by omega), iI_natc (by omega), show s.1 8 = _ from hw.1.2.1]
  dsimp only
  rw [iI_div (by omega) (by omega) (by omega) (by omega)]
  simp only [nmM]
  have h7 : ∀ (k j : Nat) (v : Int32), k ≠ 7 → (wsI s k j v).1 7 4 = iI (n : Int) := fun k j v hk => by rw [rd_ne (by omega)]; exact hw.1.1.1
  rw [h7 8 n _ (by decide), chk_in (by omega) (by omega) (by omega), Option.bind_some]
  dsimp only
  rw [rd_ne (show (7 : Nat) ≠ 9 by decide), h7 8 n _ (by decide), iI_add, rd_at, iI_sub, show (n : Int) + 1 - 1 = (n : Int) by omega, iI_natc (by omega)]
  rw [rd_ne (show (8 : Nat) ≠ 7 by decide), rd_ne (show (8 : Nat) ≠ 9 by decide), rd_of (show a ≠ n by omega), show s.1 8 = _ from hw.1.2.1]
  dsimp only
  rw [iI_sub]
  generalize hu : wsI (wsI (wsI (wsI s 8 n (iI ((D a).tdiv 2))) 9 n (iI 0)) 7 4 (iI ((n : Int) + 1))) 8 a (iI (D a - (D a).tdiv 2)) = u
  have d8 : Rw u 8 (dvD n a D) := by
    rw [← hu]
    have e1 : Rw (wsI (wsI (wsI s 8 n (iI ((D a).tdiv 2))) 9 n (iI 0)) 7 4 (iI ((n : Int) + 1))) 8 (uI D n ((D a).tdiv 2)) := by
      show _ = _
      rw [rd_ne (by decide), rd_ne (by decide), wsI_R hw.1.2.1, wRo_at]
    rw [wsI_R e1]; exact wR_Rw
  have d9 : Rw u 9 (uI SP n 0) := by
    rw [← hu]
    show _ = _
    rw [rd_ne (by decide), rd_ne (by decide), wsI_R (D := SP) (by rw [rd_ne (by decide)]; exact hw.1.2.2.1), wRo_at]
  have ou : Off (fun k j => (decide (7 ≤ k) && decide (k ≤ 12)) || k == 34 && j == 0) s u := by rw [← hu]; exact ((((Off.refl s).set rfl).set rfl).set rfl).set rfl
  have ov : ∀ k j, k ≠ 8 → k ≠ 9 → ¬ (k = 7 ∧ j = 4) → u.1 k j = s.1 k j := fun k j h1 h2 h3 => by
    rw [← hu, rd_ne h1]
    by_cases e : k = 7
    · subst e; rw [rd_of (by omega), rd_ne h2, rd_ne h1]
    · rw [rd_ne e, rd_ne h2, rd_ne h1]
  have hLu : LW u (n + 1) T S := ⟨by rw [← hu, rd_ne (by decide), rd_at]; simp, fun x y hx hy => by rw [ov 12 _ (by decide) (by decide) (by omega)]; exact hw.1.1.2 x y hx hy⟩
  obtain ⟨t, e, lt, t34, o⟩ := W_dvL hS hn ha hh hl hLu
  rw [e]
  have of : ∀ k j, k ≠ 12 → ¬ (k = 34 ∧ j = 0) → t.1 k j = u.1 k j := fun k j h1 h2 => o k j (by simp only [Bool.or_eq_false_iff, Bool.and_eq_false_iff, beq_eq_false_iff_ne]; omega)
  have og : ∀ k j, ¬ (k = 12 ∨ k = 8 ∨ k = 9 ∨ (k = 7 ∧ j = 4) ∨ (k = 34 ∧ j = 0)) → t.1 k j = s.1 k j := fun k j hk => by rw [of k j (by omega) (by omega), ov k j (by omega) (by omega) (by omega)]
  refine ⟨t, rfl, ⟨⟨lt, d8.of (funext fun j => of 8 j (by decide) (by omega)), d9.of (funext fun j => of 9 j (by decide) (by omega)), ?_, ?_, ?_, fun j hj => ?_⟩, ⟨?_, ?_, fun j hj => hw.2.1.2.2 j (by omega)⟩, ?_, fun i hi => KpW.of hi _ (hw.2.2.2.1 i hi) fun k j hk => og k j (by omega), hw.2.2.2.2.1.of (og 1 1 (by omega)) (funext fun j => og 2 j (by omega)), hw.2.2.2.2.2.of (og 142 0 (by omega)) (funext fun j => og 143 j (by omega)) (funext fun j => og 144 j (by omega))⟩, ou.trans (o.mono fun k j hk => ?_)⟩
  · rw [og 11 0 (by omega)]; exact hw.1.2.2.2.1
  · rw [og 11 1 (by omega)]; exact hw.1.2.2.2.2.1
  · rw [og 11 2 (by omega)]; exact hw.1.2.2.2.2.2.1
  · rw [og 14 j (by omega), og 15 j (by omega)]; exact hw.1.2.2.2.2.2.2 j hj
  · rw [← hw.2.1.1]; exact funext fun j => og 10 j (by omega)
  · rw [og 7 5 (by omega)]; exact hw.2.1.2.1
  · obtain ⟨nt, p1, p2, p3, p4⟩ := hw.2.2.1
    exact ⟨nt, p1, t34, by rw [og 34 2 (by omega)]; exact p3, fun i hi => by simp at hi⟩
  · simp only [Bool.or_eq_false_iff, Bool.and_eq_false_iff, decide_eq_false_iff_not, beq_eq_false_iff_ne] at hk ⊢; omega
theorem M_divide (hv : CV n T S D SP ap fi bk) (hm : HM s n T S D SP ap fi bk G w pl kp tx se) (zG : ∀ j, n ≤ j → G j = iI 0) (hn : n < 9) (ha : a < n) (hh : ∀ g, h.testBit g = true → T a g = true) (hl : h < 512) : ∃ t, fM_divide s (iI (a : Int)) (iI (h : Int)) = some (iI (n : Int), t) ∧ HM t (n + 1) (dvT n a h T S) (dvSt n a h T S) (dvD n a D) (uI SP n 0) ap fi bk G w [] kp tx se ∧ Off (fun k j => (decide (163 ≤ k) && decide (k ≤ 167)) || k == 161 && (j == 0 || j == 3 || j == 20)) s t := by
  have bd := hv.2.1 a
  have hS := hv.1
  have hm1 := hm.1.thr (v := iI 0)
  unfold fM_divide
  simp only [nmM]
  rw [M_isFarm (by omega) hm1.1 (by omega) (by omega), Option.bind_some, bI_d (by omega), if_neg (by decide), chk_in (by omega) (by omega) (by omega), iI_natc (by omega), hm1.1.2.1 a (by omega), if_pos ((mask_iff (bt_lt9 _ (by omega))).mpr ⟨h, hl, rfl, fun g hg => by
    rw [bt_bit, hh g hg]; have := hS.2.2.1 a g (hh g hg); simp; omega⟩), hm1.1.1, if_neg (by rw [iI_eq (by omega) (by omega) (by omega) (by omega)]; omega), iI_natc (by omega), chk_in (by omega) (by omega) (by omega), iI_add]
  rw [rd_ne (show (163 : Nat) ≠ 161 by decide), show (wsI s 161 0 (iI 0)).1 163 = _ from hm1.2.1]
  dsimp only
  rw [iI_div (by omega) (by omega) (by omega) (by omega), rd_at, rd_of (show a ≠ n by omega), rd_ne (show (163 : Nat) ≠ 161 by decide), show (wsI s 161 0 (iI 0)).1 163 = _ from hm1.2.1]
  dsimp only
  rw [iI_sub]
  generalize hu : wsI (wsI (wsI (wsI (wsI (wsI (wsI s 161 0 (iI 0)) 161 3 (iI ((n : Int) + 1))) 163 n (iI ((D a).tdiv 2))) 163 a (iI (D a - (D a).tdiv 2))) 164 n (iI 0)) 167 n (iI 0)) 165 n (iI 0) = u
  have d8 : Rw u 163 (dvD n a D) := by
    rw [← hu]
    show _ = _
    have e1 : Rw (wsI (wsI s 161 0 (iI 0)) 161 3 (iI ((n : Int) + 1))) 163 D := by
      show _ = _
      rw [rd_ne (by decide)]; exact hm1.2.1
    rw [rd_ne (by decide), rd_ne (by decide), rd_ne (by decide), wsI_R e1, wsI_R (k := 163) (D := uI D n ((D a).tdiv 2)) wRo_at, wR_wR, wRo_at]; rfl
  have d9 : Rw u 164 (uI SP n 0) := by
    rw [← hu]
    show _ = _
    rw [rd_ne (by decide), rd_ne (by decide), wsI_R (D := SP) (by rw [rd_ne (by decide), rd_ne (by decide), rd_ne (by decide), rd_ne (by decide)]; exact hm.1.2.2.1), wRo_at]
  have d7 : u.1 167 = G := by
    rw [← hu, rd_ne (by decide)]
    funext j
    rw [rd_if]
    by_cases e : j = n
    · subst e; rw [if_pos rfl, zG j (Nat.le_refl j)]
    · rw [if_neg e, rd_ne (by decide), rd_ne (by decide), rd_ne (by decide), rd_ne (by decide), rd_ne (by decide), hm.2.1.1]
  have d5 : ∀ x, x < 9 → u.1 165 x = iI ((bt (T x) 9 : Nat) : Int) := fun x hx => by
    rw [← hu, rd_if]
    by_cases e : x = n
    · subst e
      rw [if_pos rfl, bt_false fun j _ => T_out' hS (Nat.le_refl x)]; rfl
    · rw [if_neg e, rd_ne (by decide), rd_ne (by decide), rd_ne (by decide), rd_ne (by decide), rd_ne (by decide), rd_ne (by decide)]; exact hm.1.1.2.1 x hx
  have ou : Off (fun k j => (decide (163 ≤ k) && decide (k ≤ 167)) || k == 161 && (j == 0 || j == 3 || j == 20)) s u := by rw [← hu]; exact (((((((Off.refl s).set rfl).set rfl).set rfl).set rfl).set rfl).set rfl).set rfl
  have ov : ∀ k j, ¬ (k = 163 ∨ k = 164 ∨ k = 165 ∨ k = 167 ∨ (k = 161 ∧ (j = 0 ∨ j = 3))) → u.1 k j = s.1 k j := fun k j hk => by
    rw [← hu, rd_ne (by omega), rd_ne (by omega), rd_ne (by omega), rd_ne (by omega), rd_ne (by omega)]
    by_cases e : k = 161
    · subst e; rw [rd_of (by omega), rd_of (by omega)]
    · rw [rd_ne e, rd_ne e]
  have hLu : LM u (n + 1) T S := ⟨by rw [← hu, rd_ne (by decide), rd_ne (by decide), rd_ne (by decide), rd_ne (by decide), rd_ne (by decide), rd_at]; simp, d5, fun x y hx hy hT => by rw [ov 166 _ (by omega)]; exact hm.1.1.2.2 x y hx hy hT⟩
  obtain ⟨t, e, lt, t20, o⟩ := M_dvL hS hn ha hh hl hLu
  rw [e]
  have of : ∀ k j, k ≠ 165 → k ≠ 166 → ¬ (k = 161 ∧ j = 20) → t.1 k j = u.1 k j := fun k j h1 h2 h3 => o k j (by simp only [Bool.or_eq_false_iff, Bool.and_eq_false_iff, beq_eq_false_iff_ne]; omega)
  have og : ∀ k j, ¬ ((163 ≤ k ∧ k ≤ 167) ∨ (k = 161 ∧ (j = 0 ∨ j = 3 ∨ j = 20))) → t.1 k j = s.1 k j := fun k j hk => by rw [of k j (by omega) (by omega) (by omega), ov k j (by omega)]
  refine ⟨t, rfl, ⟨⟨lt, d8.of (funext fun j => of 163 j (by decide) (by decide) (by omega)), d9.of (funext fun j => of 164 j (by decide) (by decide) (by omega)), ?_, ?_, ?_, fun j hj => ?_⟩, ⟨?_, ?_⟩, ⟨t20, fun i hi => by simp at hi⟩, fun i hi => KpM.of _ (hm.2.2.2.1 i hi) (funext fun j => og 194 j (by omega)) (funext fun j => og 195 j (by omega)), hm.2.2.2.2.1.of (og 161 12 (by omega)) (funext fun j => og 169 j (by omega)), hm.2.2.2.2.2.of (og 161 43 (by omega)) (funext fun j => og 191 j (by omega)) (funext fun j => og 192 j (by omega))⟩, ou.trans (o.mono fun k j hk => ?_)⟩
  · rw [og 168 0 (by omega)]; exact hm.1.2.2.2.1
  · rw [og 168 1 (by omega)]; exact hm.1.2.2.2.2.1
  · rw [og 168 2 (by omega)]; exact hm.1.2.2.2.2.2.1
  · rw [og 184 j (by omega), og 187 j (by omega)]; exact hm.1.2.2.2.2.2.2 j hj
  · rw [← d7]; exact funext fun j => of 167 j (by decide) (by decide) (by omega)
  · rw [og 161 10 (by omega)]; exact hm.2.1.2
  · simp only [Bool.or_eq_false_iff, Bool.and_eq_false_iff, decide_eq_false_iff_not, beq_eq_false_iff_ne] at hk ⊢; omega
end DV
theorem op43 : op_43 wInv := fun s a1 a2 hI => by
  obtain ⟨n, T, S, D, SP, ap, fi, bk, G, w, pl, kp, tx, se, l, hv, hw, hm, r1, r2, hl⟩ := id hI
  obtain ⟨x, x1, x2, rfl⟩ := exI a1
  obtain ⟨y, y1, y2, rfl⟩ := exI a2
  have hn := hv.1.1.1
  have hm1 := hm.1.thr (v := iI 0)
  by_cases c1 : 0 ≤ x ∧ x < n
  · obtain ⟨a, rfl⟩ : ∃ g : Nat, x = g := ⟨x.toNat, by omega⟩
    have hbl := bt_lt9 (T a) hn
    by_cases c2 : (iI y &&& (iI ((bt (T a) n : Nat) : Int) ^^^ iI (-1))) = iI 0 ∧ n ≠ 9
    · obtain ⟨h, h1, h2, h3⟩ := (mask_iff hbl).mp c2.1
      have hh : ∀ g, h.testBit g = true → T a g = true := fun g hg => by
        have := h3 g hg
        rw [bt_bit] at this
        simp at this; exact this.2
      rw [h2]
      obtain ⟨t, e, hw1, o1⟩ := W_divide (a := a) (h := h) hv.1 hw (by omega) (by omega) hh h1
      have of : ∀ k j, ¬ ((7 ≤ k ∧ k ≤ 12) ∨ k = 34 ∧ j = 0) → t.1 k j = s.1 k j := fun k j hk => o1 k j (by simp only [Bool.or_eq_false_iff, Bool.and_eq_false_iff, decide_eq_false_iff_not, beq_eq_false_iff_ne]; omega)
      have lo : Lo s t := fun k hk => funext fun j => of k j (by omega)
      obtain ⟨u, f, hu, p⟩ := M_divide (a := a) (h := h) hv.1 (hm.lo lo) hw.2.1.2.2 (by omega) (by omega) hh h1
      have uf : ∀ k j, ¬ ((163 ≤ k ∧ k ≤ 167) ∨ k = 161 ∧ (j = 0 ∨ j = 3 ∨ j = 20)) → u.1 k j = t.1 k j := fun k j hk => p k j (by simp only [Bool.or_eq_false_iff, Bool.and_eq_false_iff, decide_eq_false_iff_not, beq_eq_false_iff_ne]; omega)
      have hd := dvF_ok hv.1.1 (show n < 9 by omega) (show a < n by omega) hh n (Nat.le_refl n)
      refine ⟨_, t, u, e, f, wInv_mk ⟨⟨hd.1.set (by omega) (by omega) (by omega) (by omega), dvD_bd hv.1.2.1, uI_Z9 (uI_Z9 hv.1.2.2.1 (by omega)) (by omega), uI_bd hv.1.2.2.2.1 (by omega), uI_Z9 hv.1.2.2.2.2.1 (by omega), hv.1.2.2.2.2.2⟩, ⟨by simp, fun x hx => by simp at hx⟩, hv.2.2⟩ hw1 (fun k hk => funext fun j => uf k j (by omega)) hu (r1.of (of 32 1 (by omega)) (funext fun j => of 33 j (by omega))) ((r2.lo lo).of (uf 161 1 (by omega)) (funext fun j => uf 162 j (by omega))) hl⟩
    · refine ⟨iI (-1), s, wsI s 161 0 (iI 0), ?_, ?_, wInv_thr hI⟩
      · unfold fW_divide fW_divide_J38
        rw [Land_has hn hw.1.1 x1 x2, Option.bind_some, bI_d c1, if_neg (by decide), Land_touching hv.1.1 hw.1.1 (by omega), Option.bind_some]
        by_cases c3 : (iI y &&& (iI ((bt (T a) n : Nat) : Int) ^^^ iI (-1))) = iI 0
        · have : n = 9 := Classical.byContradiction fun h => c2 ⟨c3, h⟩
          rw [if_pos c3, hw.1.1.1, if_pos (by rw [this]; rfl)]
        · rw [if_neg c3]
      · unfold fM_divide fM_divide_J35
        simp only [nmM]
        rw [M_isFarm hn hm1.1 x1 x2, Option.bind_some, bI_d c1, if_neg (by decide), chk_in (by omega) (by omega) (by omega), iI_natc (by omega), hm1.1.2.1 a (by omega), bt_T hv.1.1]
        by_cases c3 : (iI y &&& (iI ((bt (T a) n : Nat) : Int) ^^^ iI (-1))) = iI 0
        · have : n = 9 := Classical.byContradiction fun h => c2 ⟨c3, h⟩
          rw [if_pos c3, hm1.1.1, if_pos (by rw [this]; rfl)]
        · rw [if_neg c3]
  · refine ⟨iI (-1), s, wsI s 161 0 (iI 0), ?_, ?_, wInv_thr hI⟩
    · unfold fW_divide fW_divide_J38
      rw [Land_has hn hw.1.1 x1 x2, Option.bind_some, bI_n c1, if_pos rfl]
    · unfold fM_divide fM_divide_J35
      simp only [nmM]
      rw [M_isFarm hn hm1.1 x1 x2, Option.bind_some, bI_n c1, if_pos rfl]
