section MP
variable {s t : wM} {c : Nat → Nat} {L p f x lo : Nat} {v : Int}
def MP (s : wM) (c : Nat → Nat) (L p : Nat) : Prop := L ≤ 80 ∧ p ≤ L ∧ s.1 161 14 = iI (L : Int) ∧ s.1 161 13 = iI (p : Int) ∧ (∀ i, i < L → s.1 169 i = iI (c i : Int)) ∧ ∀ i, c i < 256
def K13 : Nat → Nat → Bool := fun k j => k == 161 && j == 13
theorem MP.go (h : MP s c L p) {q : Nat} (hq : q ≤ L) : MP (wsI s 161 13 (iI (q : Int))) c L q := ⟨h.1, hq, by rw [rd_of (by decide)]; exact h.2.2.1, rd_at, fun i hi => by rw [rd_ne (by decide)]; exact h.2.2.2.2.1 i hi, h.2.2.2.2.2⟩
theorem MP.of (h : MP s c L p) (e1 : t.1 161 14 = s.1 161 14) (e2 : t.1 161 13 = s.1 161 13) (e3 : t.1 169 = s.1 169) : MP t c L p := ⟨h.1, h.2.1, e1.trans h.2.2.1, e2.trans h.2.2.2.1, fun i hi => by rw [e3]; exact h.2.2.2.2.1 i hi, h.2.2.2.2.2⟩
theorem M_takesC (h : MP s c L p) (hx : x < 256) : (isC c L p x → ∃ t, fM_takes s (iI (x : Int)) = some (iI 1, t) ∧ MP t c L (p + 1) ∧ Off K13 s t) ∧ (¬ isC c L p x → ∃ t, fM_takes s (iI (x : Int)) = some (iI 0, t) ∧ MP t c L p ∧ Off K13 s t) := by
  have hL := h.1
  have hp := h.2.1
  have h256 := h.2.2.2.2.2 p
  unfold fM_takes fM_takes_J28 fM_takes_J29
  rw [h.2.2.1, h.2.2.2.1]
  have f1 : fM_flag s (iI 1) = some (iI 1) := rfl
  have f0 : fM_flag s (iI 0) = some (iI 0) := rfl
  rw [f1, f0, Option.bind_some, Option.bind_some, nmM_e, nmM_e, chkZ_0, chkZ_1, iI_add, iI_add]
  have g0 : MP (wsI s 161 13 (iI ((p : Int) + 0))) c L p := by rw [show (p : Int) + 0 = (p : Int) by omega]; exact h.go hp
  refine ⟨fun c1 => ?_, fun c1 => ?_⟩
  · have := c1.1
    rw [if_neg (by rw [iI_le (by omega) (by omega) (by omega) (by omega)]; omega), chk_in (by omega) (by omega) (by omega), iI_natc (by omega), h.2.2.2.2.1 p c1.1, if_pos (by rw [c1.2])]
    refine ⟨_, rfl, ?_, (Off.refl s).set rfl⟩
    rw [show (p : Int) + 1 = ((p + 1 : Nat) : Int) by omega]
    exact h.go c1.1
  · by_cases c2 : L ≤ p
    · rw [if_pos (by rw [iI_le (by omega) (by omega) (by omega) (by omega)]; omega)]
      exact ⟨_, rfl, g0, (Off.refl s).set rfl⟩
    · have c3 : ¬ c p = x := fun e => c1 ⟨by omega, e⟩
      rw [if_neg (by rw [iI_le (by omega) (by omega) (by omega) (by omega)]; omega), chk_in (by omega) (by omega) (by omega), iI_natc (by omega), h.2.2.2.2.1 p (by omega), if_neg (by rw [iI_eq (by omega) (by omega) (by omega) (by omega)]; omega)]
      exact ⟨_, rfl, g0, (Off.refl s).set rfl⟩
theorem M_digitC (h : MP s c L p) (hlo : lo ≤ 9) : (dg c L (48 + lo) p → ∃ t, fM_digit s (iI (lo : Int)) = some (iI ((c p : Int) - 48), t) ∧ MP t c L (p + 1) ∧ Off K13 s t) ∧ (¬ dg c L (48 + lo) p → fM_digit s (iI (lo : Int)) = some (iI (-1), s)) := by
  have hL := h.1
  have hp := h.2.1
  have h256 := h.2.2.2.2.2 p
  unfold fM_digit fM_digit_J35
  rw [h.2.2.1, h.2.2.2.1]
  refine ⟨fun c1 => ?_, fun c1 => ?_⟩
  · have c0 := c1.1
    have c2 := c1.2
    have e13 : (wsI s 161 13 (iI ((p : Int) + 1))).1 161 13 - iI 1 = iI (p : Int) := by rw [rd_at, iI_sub]; exact iI_congr (by omega)
    rw [if_neg (by rw [iI_le (by omega) (by omega) (by omega) (by omega)]; omega), chk_in (by omega) (by omega) (by omega), iI_natc (by omega), h.2.2.2.2.1 p c0, M_in, Option.bind_some, iI_add, iL (by omega) (by omega), iL (by omega) (by omega), bI_d (by rw [show (57 : Int64).toInt = 57 from rfl]; omega), if_neg (by decide), iI_add, nmM_e, e13, chk_in (by omega) (by omega) (by omega), iI_natc (by omega), rd_ne (by decide), h.2.2.2.2.1 p c0, iI_sub]
    refine ⟨_, rfl, ?_, (Off.refl s).set rfl⟩
    rw [show (p : Int) + 1 = ((p + 1 : Nat) : Int) by omega]
    exact h.go c0
  · by_cases c2 : L ≤ p
    · rw [if_pos (by rw [iI_le (by omega) (by omega) (by omega) (by omega)]; omega)]
    · have c3 : ¬ (48 + lo ≤ c p ∧ c p ≤ 57) := fun e => c1 ⟨by omega, e⟩
      rw [if_neg (by rw [iI_le (by omega) (by omega) (by omega) (by omega)]; omega), chk_in (by omega) (by omega) (by omega), iI_natc (by omega), h.2.2.2.2.1 p (by omega), M_in, Option.bind_some, iI_add, iL (by omega) (by omega), iL (by omega) (by omega), bI_n (by rw [show (57 : Int64).toInt = 57 from rfl]; omega), if_pos (by decide)]
theorem M_farmBut (h : MP s c L p) (h15 : s.1 161 15 = iI (f : Int)) (hf : f ≤ 9) (hv : -1 ≤ v ∧ v ≤ 9) : (ltr c L f p ∧ (c p : Int) - 97 ≠ v → ∃ t, fM_farmBut s (iI v) = some (iI ((c p : Int) - 97), t) ∧ MP t c L (p + 1) ∧ Off K13 s t) ∧ (¬ (ltr c L f p ∧ (c p : Int) - 97 ≠ v) → fM_farmBut s (iI v) = some (iI (-1), s)) := by
  have hL := h.1
  have hp := h.2.1
  have h256 := h.2.2.2.2.2 p
  unfold fM_farmBut fM_farmBut_J54
  rw [h.2.2.1, h.2.2.2.1, h15]
  refine ⟨fun c1 => ?_, fun c1 => ?_⟩
  · have c0 := c1.1.1
    have c2 := c1.1.2
    have c3 := c1.2
    have e13 : (wsI s 161 13 (iI ((p : Int) + 1))).1 161 13 - iI 1 = iI (p : Int) := by rw [rd_at, iI_sub]; exact iI_congr (by omega)
    rw [if_neg (by rw [iI_le (by omega) (by omega) (by omega) (by omega)]; omega), chk_in (by omega) (by omega) (by omega), iI_natc (by omega), h.2.2.2.2.1 p c0, M_in, Option.bind_some, iI_sub, iI_sub, iL (by omega) (by omega), iL (by omega) (by omega), bI_d (by rw [show (0 : Int64).toInt = 0 from rfl]; omega), if_neg (by decide), if_neg (by rw [iI_eq (by omega) (by omega) (by omega) (by omega)]; omega), iI_add, nmM_e, e13, chk_in (by omega) (by omega) (by omega), iI_natc (by omega), rd_ne (by decide), h.2.2.2.2.1 p c0, iI_sub]
    refine ⟨_, rfl, ?_, (Off.refl s).set rfl⟩
    rw [show (p : Int) + 1 = ((p + 1 : Nat) : Int) by omega]
    exact h.go c0
  · by_cases c2 : L ≤ p
    · rw [if_pos (by rw [iI_le (by omega) (by omega) (by omega) (by omega)]; omega)]
    · rw [if_neg (by rw [iI_le (by omega) (by omega) (by omega) (by omega)]; omega), chk_in (by omega) (by omega) (by omega), iI_natc (by omega), h.2.2.2.2.1 p (by omega), M_in, Option.bind_some, iI_sub, iI_sub, iL (by omega) (by omega), iL (by omega) (by omega)]
      by_cases c3 : 97 ≤ c p ∧ c p < 97 + f
      · have c4 : (c p : Int) - 97 = v := Decidable.byContradiction fun e => c1 ⟨⟨by omega, c3⟩, e⟩
        rw [bI_d (by rw [show (0 : Int64).toInt = 0 from rfl]; omega), if_neg (by decide), if_pos (by rw [c4])]
      · rw [bI_n (by rw [show (0 : Int64).toInt = 0 from rfl]; omega), if_pos (by decide)]
end MP
/-! a county as its lines change it -/
abbrev Lnd : Type := Nat × (Nat → Nat → Bool) × (Nat → Nat → Int) × (Nat → Int) × (Nat → Int)
def apL (w : Lnd) (x : Ln) : Lnd := if x.1 = -1 then (w.1 + 1, w.2.1, w.2.2.1, uI w.2.2.2.1 w.1 x.2.1, uI w.2.2.2.2 w.1 x.2.2) else (w.1, uT w.2.1 x.1.toNat x.2.1.toNat true, uS w.2.2.1 x.1.toNat x.2.1.toNat x.2.2, w.2.2.2.1, w.2.2.2.2)
def LV (w : Lnd) : Prop := Cty w.1 w.2.1 w.2.2.1 ∧ Bd w.2.2.2.1 0 99 ∧ Z9 w.2.2.2.1 ∧ Bd w.2.2.2.2 0 9 ∧ Z9 w.2.2.2.2
def WCo (s : wM) (n0 : Nat) (w : Lnd) : Prop := s.1 161 15 = iI (w.1 : Int) ∧ (∀ a, a < w.1 → s.1 172 a = iI ((bt (w.2.1 a) 9 : Nat) : Int)) ∧ (∀ a b, a < 9 → b < 9 → w.2.1 a b = true → s.1 173 (9 * a + b) = iI (w.2.2.1 a b)) ∧ ∀ j, n0 ≤ j → j < w.1 → s.1 170 j = iI (w.2.2.2.1 j) ∧ s.1 171 j = iI (w.2.2.2.2 j)
def Kc : Nat → Nat → Bool := fun k j => (k == 161 && (j == 13 || j == 15)) || (decide (170 ≤ k) && decide (k ≤ 173))
section CL
variable {s t : wM} {c : Nat → Nat} {L p q f n0 : Nat} {w : Lnd} {x : Ln} {d z : Int}
theorem apL_1 : (apL w x).1 = nf x w.1 := by unfold apL nf; split <;> rfl
theorem LV.ap (h : LV w) (ok : OKl w.1 x) : LV (apL w x) := by
  obtain ⟨h1, h2, h3, h4, h5⟩ := h
  unfold apL
  rcases ok with ⟨e, k1, k2, k3⟩ | ⟨k1, k2, k3, k4⟩
  · rw [if_pos e]
    exact ⟨h1.more k1, uI_bd h2 k2, uI_Z9 h3 k1, uI_bd h4 k3, uI_Z9 h5 k1⟩
  · rw [if_neg (by omega)]
    exact ⟨h1.set (by omega) (by omega) (by omega) k4, h2, h3, h4, h5⟩
theorem WCo.of (h : WCo s n0 w) (o : ∀ k j, (k = 161 ∧ j = 15) ∨ (170 ≤ k ∧ k ≤ 173) → t.1 k j = s.1 k j) : WCo t n0 w := ⟨by rw [o 161 15 (by omega)]; exact h.1, fun a ha => by rw [o 172 a (by omega)]; exact h.2.1 a ha, fun a b ha hb hT => by rw [o 173 _ (by omega)]; exact h.2.2.1 a b ha hb hT, fun j h1 h2 => by rw [o 170 j (by omega), o 171 j (by omega)]; exact h.2.2.2 j h1 h2⟩
theorem WCo.k13 (h : WCo s n0 w) (o : Off K13 s t) : WCo t n0 w := h.of fun k j hk => o k j (by simp only [K13, Bool.and_eq_false_iff, beq_eq_false_iff_ne]; omega)
theorem K13.kc (o : Off K13 s t) : Off Kc s t := o.mono fun k j hk => by
  simp only [K13, Kc, Bool.or_eq_false_iff, Bool.and_eq_false_iff, decide_eq_false_iff_not, beq_eq_false_iff_ne] at hk ⊢; omega
theorem M_pushFarm (h : WCo s n0 w) (hS : Cty w.1 w.2.1 w.2.2.1) (hp : MP s c L p) (hf : w.1 < 9) (hz : 0 ≤ z ∧ z ≤ 9) : ∃ t, fM_readsFarm_J56 (iI d) (iI z) s = some (iI 1, t) ∧ WCo t n0 (apL w (-1, d, z)) ∧ MP t c L p ∧ Off Kc s t := by
  unfold fM_readsFarm_J56
  rw [if_pos (by rw [iI_le (by omega) (by omega) (by omega) (by omega)]; omega), h.1, chk_in (by omega) (by omega) (by omega), iI_natc (by omega), nmM_e, rd_ne (by decide), h.1, chk_in (by omega) (by omega) (by omega), iI_natc (by omega), nmM_e, rd_ne (by decide), rd_ne (by decide), h.1, chk_in (by omega) (by omega) (by omega), iI_natc (by omega), nmM_e, rd_ne (by decide), rd_ne (by decide), rd_ne (by decide), h.1, iI_add, nmM_e]
  have o : Off Kc s (wsI (wsI (wsI (wsI s 170 w.1 (iI d)) 171 w.1 (iI z)) 172 w.1 (iI 0)) 161 15 (iI ((w.1 : Int) + 1))) := ((((Off.refl s).set rfl).set rfl).set rfl).set rfl
  refine ⟨_, rfl, ?_, hp.of (o 161 14 rfl |>.trans rfl) ?_ (o.row fun j => rfl), o⟩
  · unfold apL
    rw [if_pos rfl]
    refine ⟨by rw [rd_at]; simp, fun a ha => ?_, fun a b ha hb hT => ?_, fun j h1 h2 => ?_⟩
    · rw [rd_ne (by decide)]
      by_cases e : a = w.1
      · subst e
        rw [rd_at]
        show iI 0 = iI ((bt (w.2.1 w.1) 9 : Nat) : Int)
        rw [bt_false fun j _ => ?_]
        · rfl
        · by_cases e : w.2.1 w.1 j = true
          · have := hS.2.2.1 _ _ e; omega
          · simpa using e
      · have ha' : a < w.1 + 1 := ha
        rw [rd_of e, rd_ne (by decide), rd_ne (by decide)]; exact h.2.1 a (by omega)
    · rw [rd_ne (by decide), rd_ne (by decide), rd_ne (by decide), rd_ne (by decide)]; exact h.2.2.1 a b ha hb hT
    · have h2' : j < w.1 + 1 := h2
      rw [rd_ne (show (170 : Nat) ≠ 161 by decide), rd_ne (show (170 : Nat) ≠ 172 by decide), rd_ne (show (170 : Nat) ≠ 171 by decide), rd_ne (show (171 : Nat) ≠ 161 by decide), rd_ne (show (171 : Nat) ≠ 172 by decide)]
      show _ = iI (uI w.2.2.2.1 w.1 d j) ∧ _ = iI (uI w.2.2.2.2 w.1 z j)
      unfold uI
      by_cases e : j = w.1
      · subst e; rw [rd_at, rd_at, if_pos rfl, if_pos rfl]; exact ⟨rfl, rfl⟩
      · rw [rd_of e, rd_of e, rd_ne (by decide), if_neg e, if_neg e]; exact h.2.2.2 j h1 (by omega)
  · rw [rd_of (by decide), rd_ne (by decide), rd_ne (by decide), rd_ne (by decide)]
theorem M_pushPair {a b : Nat} (h : WCo s n0 w) (hS : Cty w.1 w.2.1 w.2.2.1) (hp : MP s c L p) (ha : a < w.1) (hb : b < w.1) (hab : a ≠ b) (hz : 0 ≤ z ∧ z ≤ 9) : ∃ t, fM_readsTouch_J44 (iI (a : Int)) (iI (b : Int)) (iI z) s = some (iI 1, t) ∧ WCo t n0 (apL w ((a : Int), (b : Int), z)) ∧ MP t c L p ∧ Off Kc s t := by
  have hn := hS.1
  have e : fM_readsTouch_J44 (iI (a : Int)) (iI (b : Int)) (iI z) s = some (iI 1, wsI (wsI (wsI (wsI s 172 a (iI ((bt (fun y => if y = b then true else w.2.1 a y) 9 : Nat) : Int))) 172 b (iI ((bt (fun y => if y = a then true else w.2.1 b y) 9 : Nat) : Int))) 173 (9 * a + b) (iI z)) 173 (9 * b + a) (iI z)) := by
    unfold fM_readsTouch_J44
    rw [if_pos (by rw [iI_le (by omega) (by omega) (by omega) (by omega)]; omega)]
    simp only [nmM_e, iI_natc (show a ≤ 2147483647 by omega), iI_natc (show b ≤ 2147483647 by omega), iI_mul, iI_add, iI_ix' (show a < 1000000 by omega) (show b < 1000000 by omega), iI_ix' (show b < 1000000 by omega) (show a < 1000000 by omega), chk_in (a := (a : Int)) (n := 9) (by omega) (by omega) (by omega), chk_in (a := (b : Int)) (n := 9) (by omega) (by omega) (by omega), chk_in (a := 9 * (a : Int) + (b : Int)) (n := 81) (by omega) (by omega) (by omega), chk_in (a := 9 * (b : Int) + (a : Int)) (n := 81) (by omega) (by omega) (by omega), h.2.1 a ha, h.2.1 b hb, rd_of (show b ≠ a from hab.symm), shl1 (show a < 31 by omega), shl1 (show b < 31 by omega), bt_set (show a < 9 by omega), bt_set (show b < 9 by omega)]
  refine ⟨_, e, ?_, hp.of ?_ ?_ ?_, ((((Off.refl s).set rfl).set rfl).set rfl).set rfl⟩
  · unfold apL
    rw [if_neg (by show ¬ ((a : Int) = -1); omega)]
    refine ⟨?_, fun x hx => ?_, fun x y hx hy hT => ?_, fun j h1 h2 => ?_⟩
    · rw [rd_ne (by decide), rd_ne (by decide), rd_ne (by decide), rd_ne (by decide)]; exact h.1
    · show _ = iI ((bt (uT w.2.1 (a : Int).toNat (b : Int).toNat true x) 9 : Nat) : Int)
      rw [Int.toNat_natCast, Int.toNat_natCast, rd_ne (by decide), rd_ne (by decide), rd_if]
      by_cases e1 : x = b
      · subst e1
        rw [if_pos rfl, bt_congr]
        intro j hj; unfold uT
        by_cases e2 : j = a
        · rw [if_pos e2, if_pos (by omega)]
        · rw [if_neg e2, if_neg (by omega)]
      · rw [if_neg e1, rd_if]
        by_cases e2 : x = a
        · subst e2
          rw [if_pos rfl, bt_congr]
          intro j hj; unfold uT
          by_cases e3 : j = b
          · rw [if_pos e3, if_pos (by omega)]
          · rw [if_neg e3, if_neg (by omega)]
        · rw [if_neg e2, h.2.1 x hx, bt_congr]
          intro j hj; unfold uT; rw [if_neg (by omega)]
    · have hT' : uT w.2.1 a b true x y = true := hT
      show _ = iI (uS w.2.2.1 (a : Int).toNat (b : Int).toNat z x y)
      rw [Int.toNat_natCast, Int.toNat_natCast]
      unfold uT at hT'
      unfold uS
      by_cases e1 : (x = a ∧ y = b) ∨ (x = b ∧ y = a)
      · rw [if_pos e1]
        rcases e1 with ⟨rfl, rfl⟩ | ⟨rfl, rfl⟩
        · rw [rd_if]
          by_cases h : 9 * x + y = 9 * y + x
          · rw [if_pos h]
          · rw [if_neg h, rd_at]
        · rw [rd_at]
      · rw [if_neg e1] at hT' ⊢
        rw [rd_if, if_neg (by omega), rd_if, if_neg (by omega), rd_ne (by decide), rd_ne (by decide)]
        exact h.2.2.1 x y hx hy hT'
    · rw [rd_ne (by decide), rd_ne (by decide), rd_ne (by decide), rd_ne (by decide), rd_ne (by decide), rd_ne (by decide), rd_ne (by decide), rd_ne (by decide)]; exact h.2.2.2 j h1 h2
  · rw [rd_ne (by decide), rd_ne (by decide), rd_ne (by decide), rd_ne (by decide)]
  · rw [rd_ne (by decide), rd_ne (by decide), rd_ne (by decide), rd_ne (by decide)]
  · rw [rd_ne (by decide), rd_ne (by decide), rd_ne (by decide), rd_ne (by decide)]
end CL
