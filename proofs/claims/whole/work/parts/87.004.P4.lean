/-! a row put in another's place -/
def wRo (s : wM) (k : Nat) (F : Nat → Int32) : wM := (fun a => if a = k then F else s.1 a, s.2)
theorem wRo_at {s : wM} {k : Nat} {F : Nat → Int32} : (wRo s k F).1 k = F := by simp [wRo]
theorem wR_ne {s : wM} {k a : Nat} {F : Nat → Int32} (h : a ≠ k) : (wRo s k F).1 a = s.1 a := by simp [wRo, h]
theorem wR_wR {s : wM} {k : Nat} {F G : Nat → Int32} : wRo (wRo s k F) k G = wRo s k G := by
  unfold wRo; simp only [Prod.mk.injEq, and_true]; funext a; split <;> rfl
theorem wR_id {s : wM} {k : Nat} {F : Nat → Int32} (h : s.1 k = F) : wRo s k F = s := by
  unfold wRo
  show (_, s.2) = (s.1, s.2)
  simp only [Prod.mk.injEq, and_true]; funext a; split
  · subst_vars; rfl
  · rfl
def uI (D : Nat → Int) (j : Nat) (v : Int) : Nat → Int := fun i => if i = j then v else D i
theorem uI_at {D : Nat → Int} {j : Nat} {v : Int} : uI D j v j = v := if_pos rfl
theorem uI_ne {D : Nat → Int} {i j : Nat} {v : Int} (h : i ≠ j) : uI D j v i = D i := if_neg h
theorem wsI_R {s : wM} {k j : Nat} {D : Nat → Int} {v : Int} (h : s.1 k = fun j => iI (D j)) : wsI s k j (iI v) = wRo s k (fun i => iI (uI D j v i)) := by
  unfold wsI wRo uI
  simp only [Prod.mk.injEq, and_true]
  funext a b
  by_cases h1 : a = k
  · subst h1; simp only [true_and, if_true]; rw [h]; split <;> rfl
  · simp [h1]
theorem wR_Rw {s : wM} {k : Nat} {D : Nat → Int} : Rw (wRo s k (fun i => iI (D i))) k D := wRo_at
theorem Rw.ne {s : wM} {k a : Nat} {D : Nat → Int} {F : Nat → Int32} (h : Rw s a D) (hk : a ≠ k) : Rw (wRo s k F) a D := (wR_ne hk).trans h
theorem wR_off {s t : wM} {k : Nat} {F : Nat → Int32} {K : Nat → Nat → Bool} (h : Off K s t) (hK : ∀ j, K k j = true) : Off K s (wRo t k F) := fun a b hk => by
  have : a ≠ k := fun e => by rw [e, hK] at hk; cases hk
  rw [wR_ne this]; exact h a b hk
def mv (b : Int) (D : Nat → Int) (x y : Nat) : Nat → Int := uI (uI D x (D x - b)) y (uI D x (D x - b) y + b)
theorem mv_back (b : Int) (D : Nat → Int) {x y : Nat} (h : x ≠ y) : mv b (mv b D x y) y x = D := by
  funext j
  unfold mv uI
  by_cases h1 : j = x
  · subst h1; simp [h] <;> omega
  · by_cases h2 : j = y
    · subst h2; simp [h.symm] <;> omega
    · simp [h1, h2]
theorem mv_bd {b : Int} {D : Nat → Int} {x y : Nat} (hxy : x ≠ y) (hD : Bd D 0 99) (h1 : b ≤ D x) (h2 : D y ≤ 99 - b) (hb : 0 ≤ b) : Bd (mv b D x y) 0 99 := by
  intro j
  have := hD j; have := hD x; have := hD y
  unfold mv uI
  by_cases h1 : j = x
  · subst h1; simp [hxy]; omega
  · by_cases h2 : j = y
    · subst h2; simp [hxy, hxy.symm]; omega
    · simp [h1, h2]; omega
theorem LW.of {s t : wM} {n : Nat} {T : Nat → Nat → Bool} {S : Nat → Nat → Int} (h : LW s n T S) (h7 : t.1 7 4 = s.1 7 4) (h12 : t.1 12 = s.1 12) : LW t n T S := by
  unfold LW; rw [h7, h12]; exact h
theorem LM.of {s t : wM} {n : Nat} {T : Nat → Nat → Bool} {S : Nat → Nat → Int} (h : LM s n T S) (h7 : t.1 161 3 = s.1 161 3) (h12 : t.1 165 = s.1 165) (h13 : t.1 166 = s.1 166) : LM t n T S := by
  unfold LM; rw [h7, h12, h13]; exact h
theorem z0 : (iI 0).toNatClampNeg = 0 := rfl
theorem z1 : (iI 1).toNatClampNeg = 1 := rfl
theorem z2 : (iI 2).toNatClampNeg = 2 := rfl
section WF2
variable {s : wM} {n : Nat} {T : Nat → Nat → Bool} {S : Nat → Nat → Int} {D : Nat → Int} {ap bk : Int}
theorem Land_evenWith {a : Nat} (hS : Cty n T S) (hL : LW s n T S) (hD : Rw s 8 D) (bD : Bd D 0 99) (hr : s.1 11 0 = iI ap) (hap : 0 ≤ ap ∧ ap ≤ 9) (ha : a < 9) : fLand_evenWith s (iI (a : Int)) = some (iI ((bt (ev T ap D a) n : Nat) : Int)) := by
  have hn := hS.1
  unfold fLand_evenWith
  refine for2a (fun i => iI ((bt (ev T ap D a) i : Nat) : Int)) (i0 := 0) (n := n) (Nat.zero_le _) (by omega) (fun i _ hi k => ?_) (fun k => ?_)
  · have b1 := bD a
    have b2 := bD i
    unfold fLand_evenWith_L4
    rw [hL.1, if_neg (by rw [iI_le (by omega) (by omega) (by omega) (by omega)]; omega), Land_between hL ha (by omega), Option.bind_some]
    rw [chk_in (by omega) (by omega) (by omega), chk_in (by omega) (by omega) (by omega), iI_natc (by omega), iI_natc (by omega), show s.1 8 = _ from hD, Land_isNear hr (by omega) (by omega) hap, Option.bind_some]
    simp only [between_n hS, fLand_evenWith_J48, fLand_evenWith_J49, ← bt_or (P := ev T ap D a) (i := i) (by omega), shl1 (i := i) (by omega), iI_add, bI_0, ev]
    by_cases hT : T a i = true
    · by_cases h : ((D a - D i).natAbs : Int) < ap
      · simp [hT, h]
      · simp [hT, h]
    · simp [hT]
  · unfold fLand_evenWith_L4
    rw [hL.1, if_pos (by rw [iI_le (by omega) (by omega) (by omega) (by omega)]; omega)]
def cc (T : Nat → Nat → Bool) (bk : Int) (D : Nat → Int) (a b : Nat) : Bool := T a b && decide (bk ≤ D a) && decide (D b ≤ 99 - bk)
theorem Land_canCarry {a b : Nat} (hS : Cty n T S) (hL : LW s n T S) (hD : Rw s 8 D) (bD : Bd D 0 99) (hr : s.1 11 2 = iI bk) (hap : 1 ≤ bk ∧ bk ≤ 9) (ha : a < 9) (hb : b < 9) : fLand_canCarry s (iI (a : Int)) (iI (b : Int)) = some (bI (cc T bk D a b)) := by
  have hn := hS.1
  have b1 := bD a
  have b2 := bD b
  have ht := hS.2.2.1 a b
  simp only [fLand_canCarry, fLand_canCarry_J56, fLand_canCarry_J57, Land_hasTwo (y := (a : Int)) (z := (b : Int)) hn hL (by omega) (by omega) (by omega) (by omega), Land_between hL ha hb, Option.bind_some, bI_0, between_n hS, z2, hr, show s.1 8 = _ from hD]
  simp (disch := omega) only [iI_add, iI_sub, iI_mul, iI_lt, iI_le, iI_eq, iI_natc, iI_nat, chk_in, chkZ_1, chkZ_0, iMax_i, iMin_i, iAbs_i, Option.bind_some, nmI, nmM, nmL, rd_ne, rd_at, rd_cne, rd_fne, rd_L, rd_2, rd_c2, rd_f2, if_true, if_false, Int.toNat_natCast, ne_eq]
  unfold cc
  cases hT : T a b
  · simp [← bI_f]
  · have := ht hT
    rw [if_neg (by simp; omega)]
    by_cases h1 : D a < bk
    · simp [h1, show ¬ bk ≤ D a by omega, ← bI_f]
    · by_cases h2 : 99 - bk < D b
      · simp [h1, h2, show ¬ D b ≤ 99 - bk by omega, ← bI_f]
      · simp [h1, h2, show D b ≤ 99 - bk by omega, show bk ≤ D a by omega, ← bI_t]
theorem Land_bring {a b : Nat} (hD : Rw s 8 D) (hr : s.1 11 2 = iI bk) (ha : a < 9) (hb : b < 9) : fLand_bring s (iI (a : Int)) (iI (b : Int)) = some (wRo s 8 (fun j => iI (mv bk D a b j))) := by
  simp only [fLand_bring, z2, hr, show s.1 8 = _ from hD]
  simp (disch := omega) only [iI_add, iI_sub, iI_mul, iI_lt, iI_le, iI_eq, iI_natc, iI_nat, chk_in, chkZ_1, chkZ_0, iMax_i, iMin_i, iAbs_i, Option.bind_some, nmI, nmM, nmL, rd_ne, rd_at, rd_cne, rd_fne, rd_L, rd_2, rd_c2, rd_f2, if_true, if_false, Int.toNat_natCast, ne_eq]
  rw [wsI_R hD]
  simp only [wRo_at, wR_ne (show (11 : Nat) ≠ 8 by decide), hr, iI_add]
  rw [wsI_R (k := 8) (D := uI D a (D a - bk)) wRo_at, wR_wR]
  rfl
theorem cc_ne (hS : Cty n T S) {a b : Nat} (h : cc T bk D a b = true) : a ≠ b ∧ a < n ∧ b < n ∧ bk ≤ D a ∧ D b ≤ 99 - bk := by
  unfold cc at h
  simp at h
  have := hS.2.2.1 a b h.1.1
  omega
theorem Land_evensAfter {a b : Nat} (hS : Cty n T S) (hL : LW s n T S) (hD : Rw s 8 D) (bD : Bd D 0 99) (hr0 : s.1 11 0 = iI ap) (hap : 0 ≤ ap ∧ ap ≤ 9) (hr : s.1 11 2 = iI bk) (hbk : 1 ≤ bk ∧ bk ≤ 9) (h : cc T bk D a b = true) : fLand_evensAfter s (iI (a : Int)) (iI (b : Int)) = some (iI ((cnt (ev T ap (mv bk D a b) a) n : Nat) : Int), s) := by
  have hn := hS.1
  have hc := cc_ne hS h
  have hm : Bd (mv bk D a b) 0 99 := mv_bd hc.1 bD hc.2.2.2.1 hc.2.2.2.2 (by omega)
  unfold fLand_evensAfter
  rw [if_neg (by rw [iI_eq (by omega) (by omega) (by omega) (by omega)]; omega), Land_bring hD hr (by omega) (by omega), Option.bind_some]
  rw [Land_evenWith (s := wRo s 8 _) hS (hL.of (congrFun (wR_ne (by decide)) _) (wR_ne (by decide))) wR_Rw hm (by rw [wR_ne (by decide)]; exact hr0) hap (by omega), Option.bind_some, bitc_bt hn, Option.bind_some]
  rw [Land_bring (s := wRo s 8 _) wR_Rw (by rw [wR_ne (by decide)]; exact hr) (by omega) (by omega), Option.bind_some, wR_wR, mv_back _ _ hc.1, wR_id hD]
theorem Land_evens0 {a : Nat} (hS : Cty n T S) (hL : LW s n T S) (hD : Rw s 8 D) (bD : Bd D 0 99) (hr0 : s.1 11 0 = iI ap) (hap : 0 ≤ ap ∧ ap ≤ 9) (ha : a < 9) : fLand_evensAfter s (iI (a : Int)) (iI (-1)) = some (iI ((cnt (ev T ap D a) n : Nat) : Int), s) := by
  unfold fLand_evensAfter
  rw [if_pos rfl, Land_evenWith hS hL hD bD hr0 hap ha, Option.bind_some, bitc_bt hS.1, Option.bind_some]
/-- the first of the best -/
def bF (c : Nat → Bool) (e : Nat → Nat) (e0 : Nat) : Nat → Int × Nat
  | 0 => (-1, e0)
  | i + 1 => if c i && decide (e i < (bF c e e0 i).2) then ((i : Int), e i) else bF c e e0 i
theorem bF_ok (c : Nat → Bool) (e : Nat → Nat) (e0 : Nat) : ∀ i, ((bF c e e0 i).1 = -1 ∧ (bF c e e0 i).2 = e0) ∨ ∃ j : Nat, j < i ∧ (bF c e e0 i).1 = (j : Int) ∧ (bF c e e0 i).2 = e j ∧ c j = true
  | 0 => Or.inl ⟨rfl, rfl⟩
  | i + 1 => by
    unfold bF
    split
    · rename_i h; simp at h; exact Or.inr ⟨i, by omega, rfl, rfl, h.1⟩
    · rcases bF_ok c e e0 i with h | ⟨j, h1, h2⟩
      · exact Or.inl h
      · exact Or.inr ⟨j, by omega, h2⟩
def bestF (n : Nat) (T : Nat → Nat → Bool) (ap bk : Int) (D : Nat → Int) (a i : Nat) : Int × Nat := bF (cc T bk D a) (fun b => cnt (ev T ap (mv bk D a b) a) n) (cnt (ev T ap D a) n) i
theorem bestF_le (n : Nat) (T : Nat → Nat → Bool) (ap bk : Int) (D : Nat → Int) (a i : Nat) : (bestF n T ap bk D a i).2 ≤ n := by
  rcases bF_ok (cc T bk D a) (fun b => cnt (ev T ap (mv bk D a b) a) n) (cnt (ev T ap D a) n) i with h | ⟨j, h1, h2⟩
  · unfold bestF; rw [h.2]; exact cnt_le _ _
  · unfold bestF; rw [h2.2.1]; exact cnt_le _ _
theorem Land_bestFor {a : Nat} (hS : Cty n T S) (hL : LW s n T S) (hD : Rw s 8 D) (bD : Bd D 0 99) (hr0 : s.1 11 0 = iI ap) (hap : 0 ≤ ap ∧ ap ≤ 9) (hr : s.1 11 2 = iI bk) (hbk : 1 ≤ bk ∧ bk ≤ 9) (ha : a < 9) : fLand_bestFor s (iI (a : Int)) = some (iI (bestF n T ap bk D a n).1, s) := by
  have hn := hS.1
  unfold fLand_bestFor
  rw [Land_evens0 hS hL hD bD hr0 hap ha, Option.bind_some]
  refine wh4_w (Q := fun x => x = _) (fun m x2 x3 x4 t => ∃ i : Nat, i ≤ n ∧ m = n - i ∧ x2 = iI (bestF n T ap bk D a i).1 ∧ x3 = iI ((bestF n T ap bk D a i).2 : Int) ∧ x4 = iI (i : Int) ∧ t = s) ?_ 100000 n _ _ _ _ (by omega) ⟨0, by omega, rfl, rfl, rfl, rfl, rfl⟩
  rintro m x2 x3 x4 t ⟨i, h1, rfl, rfl, rfl, rfl, rfl⟩ k hk
  unfold fLand_bestFor_L12
  rw [hL.1]
  by_cases h : i < n
  · have hle := bestF_le n T ap bk D a i
    have hk' := hk (n - (i + 1)) _ _ _ _ (by omega) ⟨i + 1, by omega, rfl, rfl, rfl, rfl, rfl⟩
    rw [if_neg (by rw [iI_le (by omega) (by omega) (by omega) (by omega)]; omega), Land_canCarry hS hL hD bD hr hbk ha (by omega), Option.bind_some]
    simp only [bI_0, fLand_bestFor_J53, iI_add]
    cases hc : cc T bk D a i
    · rw [if_pos rfl, ← hk']
      simp [bestF, bF, hc]
    · rw [if_neg (by simp), Land_evensAfter hS hL hD bD hr0 hap hr hbk hc, Option.bind_some]
      have hcl := cnt_le (ev T ap (mv bk D a i) a) n
      simp only [iI_le (a := ((bestF n T ap bk D a i).2 : Int)) (b := ((cnt (ev T ap (mv bk D a i) a) n : Nat) : Int)) (by omega) (by omega) (by omega) (by omega), Land_evensAfter hS hL hD bD hr0 hap hr hbk hc, Option.bind_some]
      rw [← hk']
      by_cases h5 : (bestF n T ap bk D a i).2 ≤ cnt (ev T ap (mv bk D a i) a) n
      · rw [if_pos (by omega)]
        have : ¬ cnt (ev T ap (mv bk D a i) a) n < (bestF n T ap bk D a i).2 := by omega
        simp only [bestF] at this ⊢
        simp [bF, hc, this]
      · rw [if_neg (by omega)]
        have : cnt (ev T ap (mv bk D a i) a) n < (bestF n T ap bk D a i).2 := by omega
        simp only [bestF] at this ⊢
        simp [bF, hc, this]
  · have : i = n := by omega
    subst this
    rw [if_pos (by rw [iI_le (by omega) (by omega) (by omega) (by omega)]; omega)]
theorem Land_allDepths (hS : Cty n T S) (hL : LW s n T S) (hD : Rw s 8 D) : fLand_allDepths s = some (iI (sm D n)) := by
  have hn := hS.1
  unfold fLand_allDepths
  refine for2a (fun i => iI (sm D i)) (i0 := 0) (n := n) (Nat.zero_le _) (by omega) (fun i _ hi k => ?_) (fun k => ?_)
  · unfold fLand_allDepths_L4
    rw [hL.1, show s.1 8 = _ from hD]
    simp (disch := omega) only [iI_add, iI_sub, iI_mul, iI_lt, iI_le, iI_eq, iI_natc, iI_nat, chk_in, chkZ_1, chkZ_0, iMax_i, iMin_i, iAbs_i, Option.bind_some, nmI, nmM, nmL, rd_ne, rd_at, rd_cne, rd_fne, rd_L, rd_2, rd_c2, rd_f2, if_true, if_false, Int.toNat_natCast, ne_eq]
    rw [if_neg (by omega)]; rfl
  · unfold fLand_allDepths_L4
    rw [hL.1, if_pos (by rw [iI_le (by omega) (by omega) (by omega) (by omega)]; omega)]
theorem Land_allPaid {G : Nat → Int} (hS : Cty n T S) (hL : LW s n T S) (hD : Rw s 10 G) : fLand_allPaid s = some (iI (sm G n)) := by
  have hn := hS.1
  unfold fLand_allPaid
  refine for2a (fun i => iI (sm G i)) (i0 := 0) (n := n) (Nat.zero_le _) (by omega) (fun i _ hi k => ?_) (fun k => ?_)
  · unfold fLand_allPaid_L4
    rw [hL.1, show s.1 10 = _ from hD]
    simp (disch := omega) only [iI_add, iI_sub, iI_mul, iI_lt, iI_le, iI_eq, iI_natc, iI_nat, chk_in, chkZ_1, chkZ_0, iMax_i, iMin_i, iAbs_i, Option.bind_some, nmI, nmM, nmL, rd_ne, rd_at, rd_cne, rd_fne, rd_L, rd_2, rd_c2, rd_f2, if_true, if_false, Int.toNat_natCast, ne_eq]
    rw [if_neg (by omega)]; rfl
  · unfold fLand_allPaid_L4
    rw [hL.1, if_pos (by rw [iI_le (by omega) (by omega) (by omega) (by omega)]; omega)]
theorem Land_touchingPairs (hS : Cty n T S) (hL : LW s n T S) : fLand_touchingPairs s = some (iI (sm (fun a => (cnt (T a) n : Int)) n) / iI 2) := by
  have hn := hS.1
  unfold fLand_touchingPairs
  refine for2a (fun i => iI (sm (fun a => (cnt (T a) n : Int)) i)) (i0 := 0) (n := n) (Nat.zero_le _) (by omega) (fun i _ hi k => ?_) (fun k => ?_)
  · unfold fLand_touchingPairs_L4
    rw [hL.1, if_neg (by rw [iI_le (by omega) (by omega) (by omega) (by omega)]; omega), Land_touching hS hL (by omega), Option.bind_some, bitc_bt hn, Option.bind_some, iI_add, iI_add]; rfl
  · unfold fLand_touchingPairs_L4
    rw [hL.1, if_pos (by rw [iI_le (by omega) (by omega) (by omega) (by omega)]; omega)]
end WF2
