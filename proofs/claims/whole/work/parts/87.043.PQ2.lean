/-! place -/
def plF (P : Nat → Bool) : Nat → Nat × Nat × Nat
  | 0 => (0, 0, 0)
  | v + 1 => if P v then ((plF P v).1 + 1, if (plF P v).1 = 0 then v else (plF P v).2.1, v) else plF P v
theorem plF_f {P : Nat → Bool} {v : Nat} (h : P v = false) : plF P (v + 1) = plF P v := if_neg (by rw [h]; decide)
theorem plF_t {P : Nat → Bool} {v : Nat} (h : P v = true) : plF P (v + 1) = ((plF P v).1 + 1, if (plF P v).1 = 0 then v else (plF P v).2.1, v) := if_pos h
theorem plF_le (P : Nat → Bool) : ∀ v, (plF P v).1 ≤ v
  | 0 => Nat.le_refl 0
  | v + 1 => by
    have := plF_le P v
    unfold plF; split
    · simp only; omega
    · omega
section PL
variable {s t u : wM} {n : Nat} {T : Nat → Nat → Bool} {S : Nat → Nat → Int} {D SP : Nat → Int} {ap fi bk : Int} {x : Nat}
def plR (P : Nat → Bool) : List Int32 := if (plF P 100).1 = 0 then [] else [iI ((plF P 100).2.1 : Int), iI ((plF P 100).2.2 : Int)]
theorem W_place (hv : CV n T S D SP ap fi bk) (hw : CW s n T S D SP ap fi bk) {f : Int} (h1 : -2147483648 ≤ f) (h2 : f ≤ 2147483647) : ∃ s', fW_place s (iI f) = some (iI (if 0 ≤ f ∧ f < ((2 ^ n : Nat) : Int) then ((plF (fun v => fre n ap D (v : Int) f.toNat) 100).1 : Int) else -1), s') ∧ WQ s s' (if 0 ≤ f ∧ f < ((2 ^ n : Nat) : Int) then some (plR (fun v => fre n ap D (v : Int) f.toNat)) else none) := by
  have hn := hv.1.1
  have hp2 : 2 ^ n ≤ 2 ^ 9 := Nat.pow_le_pow_right (by omega) hn
  have hap : 0 ≤ ap ∧ ap ≤ 9 := by have := hv.2.2.2.2.2.1; omega
  unfold fW_place
  rw [Land_hasAll hw.1 hn h1 h2, Option.bind_some]
  simp only [bI_0, decide_eq_false_iff_not]
  by_cases c1 : 0 ≤ f ∧ f < ((2 ^ n : Nat) : Int)
  · obtain ⟨b, rfl⟩ : ∃ g : Nat, f = g := ⟨f.toNat, by omega⟩
    have hb : b < 512 := by omega
    rw [if_neg (by simpa using c1), if_pos c1, if_pos c1]
    simp only [Int.toNat_natCast]
    generalize hP : (fun v : Nat => fre n ap D (v : Int) b) = P
    have hPv : ∀ v : Nat, fre n ap D (v : Int) b = P v := fun v => by rw [← hP]
    refine wh4_w (Q := fun y => ∃ s', y = some (iI ((plF P 100).1 : Int), s') ∧ WQ s s' (some (plR P))) (fun m y z v q => ∃ i : Nat, i ≤ 100 ∧ m = 100 - i ∧ y = iI ((plF P i).1 : Int) ∧ z = iI ((plF P i).2.1 : Int) ∧ v = iI ((plF P i).2.2 : Int) ∧ q = iI (i : Int)) ?_ 100000 100 _ _ _ _ (by omega) ⟨0, by omega, rfl, rfl, rfl, rfl, rfl⟩
    rintro m y z v q ⟨i, h1, rfl, rfl, rfl, rfl, rfl⟩ c hc
    have hle := plF_le P i
    unfold fW_place_L23 fW_place_J53 fW_place_J61 fW_place_J95
    by_cases hi : i < 100
    · rw [if_neg (by rw [iI_lt (by omega) (by omega) (by omega) (by omega)]; omega), Land_isFree hv.1 hw.1 hw.2.1 hv.2.1 hw.2.2.2.1 hap (by omega) hb, Option.bind_some, hPv, iI_add, iI_add]
      simp only [bI_0, iI_eq (a := ((plF P i).1 : Int)) (b := 0) (by omega) (by omega) (by omega) (by omega)]
      have hk := hc (100 - (i + 1)) _ _ _ _ (by omega) ⟨i + 1, by omega, rfl, rfl, rfl, rfl, rfl⟩
      cases hPi : P i
      · rw [plF_f hPi] at hk
        rw [if_pos rfl]; exact hk
      · rw [plF_t hPi] at hk
        dsimp only at hk
        rw [if_neg (by decide)]
        by_cases h0 : (plF P i).1 = 0
        · rw [if_pos (by omega)]; rw [if_pos h0] at hk; exact hk
        · rw [if_neg (by omega)]; rw [if_neg h0] at hk; exact hk
    · have : i = 100 := by omega
      subst this
      rw [if_pos (by decide)]
      obtain ⟨u1, e1, r1, o1⟩ := Num_clear (s := s)
      rw [e1, Option.bind_some]
      by_cases h0 : (plF P 100).1 = 0
      · rw [if_pos (by rw [iI_le (by omega) (by omega) (by omega) (by omega)]; omega)]
        refine ⟨u1, rfl, (WQ.refl hw.2.2.2.2.2.2).row o1 ?_ (by unfold plR; split <;> simp)⟩
        unfold plR; rw [if_pos h0]; exact r1
      · rw [if_neg (by rw [iI_le (by omega) (by omega) (by omega) (by omega)]; omega)]
        obtain ⟨u2, e2, r2, o2⟩ := Num_add (v := iI ((plF P 100).2.1 : Int)) r1 (by simp)
        obtain ⟨u3, e3, r3, o3⟩ := Num_add (v := iI ((plF P 100).2.2 : Int)) r2 (by simp)
        rw [e2, Option.bind_some, e3, Option.bind_some]
        refine ⟨u3, rfl, (WQ.refl hw.2.2.2.2.2.2).row ((o1.trans o2).trans o3) ?_ (by unfold plR; split <;> simp)⟩
        unfold plR; rw [if_neg h0]; exact r3
  · rw [if_pos c1, if_neg c1, if_neg c1]
    exact ⟨s, rfl, WQ.refl hw.2.2.2.2.2.2⟩
theorem M_freeL {k25 : Int32 → Int32 → Int32 → Int32 → Option (Int32 × wM)} {x2 x3 x4 : Int32} {v : Nat} (hS : Cty n T S) (hL : LM s n T S) (hD : Rw s 163 D) (bD : Bd D 0 99) (hr : s.1 168 0 = iI ap) (hap : 0 ≤ ap ∧ ap ≤ 9) (hx : x < 512) (hv : v < 1000) : wh2 (fM_place_L38 k25 (iI (x : Int)) x2 x3 x4 (iI (v : Int)) s) 100000 (iI 1) (iI 0) = if fre n ap D (v : Int) x then (if x2 = iI 0 then k25 (x2 + iI 1) (iI (v : Int)) (iI (v : Int)) (iI (v : Int) + iI 1) else k25 (x2 + iI 1) x3 (iI (v : Int)) (iI (v : Int) + iI 1)) else k25 x2 x3 x4 (iI (v : Int) + iI 1) := by
  have hn := hS.1
  have := for2a (f := fM_place_L38 k25 (iI (x : Int)) x2 x3 x4 (iI (v : Int)) s) (fun i => bI (alB (fun g => !(x.testBit g && decide (((((v : Int) - D g).natAbs : Nat) : Int) < ap))) i)) (i0 := 0) (n := n) (r := if fre n ap D (v : Int) x then (if x2 = iI 0 then k25 (x2 + iI 1) (iI (v : Int)) (iI (v : Int)) (iI (v : Int) + iI 1) else k25 (x2 + iI 1) x3 (iI (v : Int)) (iI (v : Int) + iI 1)) else k25 x2 x3 x4 (iI (v : Int) + iI 1)) (Nat.zero_le _) (by omega) (fun i _ hi c => ?_) (fun c => ?_)
  · exact this
  · have b1 := bD i
    unfold fM_place_L38 fM_place_J83 fM_place_J87 fM_place_J88
    rw [hL.1, if_neg (by rw [iI_le (by omega) (by omega) (by omega) (by omega)]; omega), M_has hx (by omega), Option.bind_some, chk_in (by omega) (by omega) (by omega), iI_natc (by omega), show s.1 163 = _ from hD, z0, hr, iI_sub, iAbs_i (by omega) (by omega), iI_add]
    simp only [bI_0, iI_lt (a := ((D i - (v : Int)).natAbs : Int)) (b := ap) (by omega) (by omega) (by omega) (by omega)]
    show _ = c (bI (alB (fun g => !(x.testBit g && decide (((((v : Int) - D g).natAbs : Nat) : Int) < ap))) i && _)) _
    rw [show (D i - (v : Int)).natAbs = ((v : Int) - D i).natAbs by omega]
    cases alB (fun g => !(x.testBit g && decide (((((v : Int) - D g).natAbs : Nat) : Int) < ap))) i
    · simp [bI]
    · rw [if_neg (by decide)]
      by_cases h : x.testBit i = true
      · rw [if_neg (by rw [h]; decide)]
        by_cases h3 : ((((v : Int) - D i).natAbs : Nat) : Int) < ap
        · simp [h, h3, bI]
        · simp [h, h3, bI]
      · rw [if_pos (by simpa using h)]
        simp [h, bI]
  · unfold fM_place_L38 fM_place_J111 fM_place_J119
    rw [hL.1, if_pos (by rw [iI_le (by omega) (by omega) (by omega) (by omega)]; omega)]
    simp only [bI_0]
    show (if fre n ap D (v : Int) x = false then _ else _) = _
    cases fre n ap D (v : Int) x <;> rfl
theorem M_place (hv : CV n T S D SP ap fi bk) (hm : CM s n T S D SP ap fi bk) {f : Int} (h1 : -2147483648 ≤ f) (h2 : f ≤ 2147483647) : ∃ s', fM_place s (iI f) = some (iI (if 0 ≤ f ∧ f < ((2 ^ n : Nat) : Int) then ((plF (fun v => fre n ap D (v : Int) f.toNat) 100).1 : Int) else -1), s') ∧ MQn s s' (if 0 ≤ f ∧ f < ((2 ^ n : Nat) : Int) then some (plR (fun v => fre n ap D (v : Int) f.toNat)) else none) := by
  have hn := hv.1.1
  have hp2 : 2 ^ n ≤ 2 ^ 9 := Nat.pow_le_pow_right (by omega) hn
  have hap : 0 ≤ ap ∧ ap ≤ 9 := by have := hv.2.2.2.2.2.1; omega
  have hm1 := hm.thr (v := iI 0)
  have hz := hm.2.2.2.2.2.2
  unfold fM_place
  simp only [nmM]
  rw [M_areBits hn hm1.1 h1 h2, Option.bind_some]
  simp only [bI_0, decide_eq_false_iff_not]
  by_cases c1 : 0 ≤ f ∧ f < ((2 ^ n : Nat) : Int)
  · obtain ⟨b, rfl⟩ : ∃ g : Nat, f = g := ⟨f.toNat, by omega⟩
    have hb : b < 512 := by omega
    rw [if_neg (by simpa using c1), if_pos c1, if_pos c1]
    simp only [Int.toNat_natCast]
    generalize hP : (fun v : Nat => fre n ap D (v : Int) b) = P
    have hPv : ∀ v : Nat, fre n ap D (v : Int) b = P v := fun v => by rw [← hP]
    refine wh4_w (Q := fun y => ∃ s', y = some (iI ((plF P 100).1 : Int), s') ∧ MQn s s' (some (plR P))) (fun m y z v q => ∃ i : Nat, i ≤ 100 ∧ m = 100 - i ∧ y = iI ((plF P i).1 : Int) ∧ z = iI ((plF P i).2.1 : Int) ∧ v = iI ((plF P i).2.2 : Int) ∧ q = iI (i : Int)) ?_ 100000 100 _ _ _ _ (by omega) ⟨0, by omega, rfl, rfl, rfl, rfl, rfl⟩
    rintro m y z v q ⟨i, h1, rfl, rfl, rfl, rfl, rfl⟩ c hc
    have hle := plF_le P i
    unfold fM_place_L25 fM_place_J145
    by_cases hi : i < 100
    · rw [if_neg (by rw [iI_lt (by omega) (by omega) (by omega) (by omega)]; omega), M_freeL hv.1 hm1.1 hm1.2.1 hv.2.1 hm1.2.2.2.1 hap hb (by omega), hPv, iI_add, iI_add]
      simp only [iI_eq (a := ((plF P i).1 : Int)) (b := 0) (by omega) (by omega) (by omega) (by omega)]
      have hk := hc (100 - (i + 1)) _ _ _ _ (by omega) ⟨i + 1, by omega, rfl, rfl, rfl, rfl, rfl⟩
      cases hPi : P i
      · rw [plF_f hPi] at hk
        rw [if_neg (by decide)]; exact hk
      · rw [plF_t hPi] at hk
        dsimp only at hk
        rw [if_pos rfl]
        by_cases h0 : (plF P i).1 = 0
        · rw [if_pos (by omega)]; rw [if_pos h0] at hk; exact hk
        · rw [if_neg (by omega)]; rw [if_neg h0] at hk; exact hk
    · have : i = 100 := by omega
      subst this
      rw [if_pos (by decide)]
      simp only [nmM]
      have r1 := M_rows0 (s := wsI s 161 0 (iI 0))
      have o1 : Off KMn (wsI s 161 0 (iI 0)) (wsI (wsI s 161 0 (iI 0)) 161 1 (iI 0)) := (Off.refl _).set rfl
      by_cases h0 : (plF P 100).1 = 0
      · rw [if_pos (by rw [iI_le (by omega) (by omega) (by omega) (by omega)]; omega)]
        refine ⟨_, rfl, (MQn.thr (v := iI 0) hz).row o1 ?_⟩
        unfold plR; rw [if_pos h0]; exact r1
      · rw [if_neg (by rw [iI_le (by omega) (by omega) (by omega) (by omega)]; omega)]
        obtain ⟨u2, e2, r2, o2⟩ := M_enters (v := iI ((plF P 100).2.1 : Int)) r1 (by simp)
        obtain ⟨u3, e3, r3, o3⟩ := M_enters (v := iI ((plF P 100).2.2 : Int)) r2 (by simp)
        rw [e2, Option.bind_some, e3, Option.bind_some]
        refine ⟨u3, rfl, (MQn.thr (v := iI 0) hz).row ((o1.trans o2).trans o3) ?_⟩
        unfold plR; rw [if_neg h0]; exact r3
  · rw [if_pos c1, if_neg c1, if_neg c1]
    exact ⟨_, rfl, MQn.thr hz⟩
end PL
theorem op24 : op_24 wInv := fun s a1 hI => by
  obtain ⟨n, T, S, D, SP, ap, fi, bk, G, w, pl, kp, tx, se, l, hv, hw, hm, _⟩ := id hI
  obtain ⟨x, x1, x2, rfl⟩ := exI a1
  obtain ⟨s1, e1, q1⟩ := W_place hv.1 hw.1 x1 x2
  obtain ⟨s2, e2, q2⟩ := M_place hv.1 (hm.1.byW q1.off.1) x1 x2
  exact ⟨_, s1, s2, e1, e2, wInv_q hI q1 q2⟩
/-! even -/
def evB (T : Nat → Nat → Bool) (ap : Int) (D : Nat → Int) (x : Nat) (p : Nat × Nat) : Nat := if ev T ap D p.1 p.2 then x ||| (2 ^ p.1 ||| 2 ^ p.2) else x
def evL (T : Nat → Nat → Bool) (ap : Int) (D : Nat → Int) (l : List (Nat × Nat)) : Nat := l.foldl (evB T ap D) 0
def evF (T : Nat → Nat → Bool) (ap : Int) (D : Nat → Int) (l : List (Nat × Nat)) : List Int32 := match l.find? (fun p => ev T ap D p.1 p.2) with
  | none => []
  | some p => [iI (p.1 : Int), iI (p.2 : Int)]
section EV
variable {s t u : wM} {n : Nat} {T : Nat → Nat → Bool} {S : Nat → Nat → Int} {D SP : Nat → Int} {ap fi bk : Int} {x : Nat}
theorem evL_bit (f : Nat) : ∀ (l : List (Nat × Nat)) (x : Nat), (l.foldl (evB T ap D) x).testBit f = (x.testBit f || l.any fun p => ev T ap D p.1 p.2 && (p.1 == f || p.2 == f))
  | [], x => by simp
  | p :: l, x => by
    rw [List.foldl_cons, evL_bit f l, List.any_cons]
    unfold evB
    by_cases h : ev T ap D p.1 p.2 = true
    · rw [if_pos h, h, Nat.testBit_or, Nat.testBit_or, Nat.testBit_two_pow, Nat.testBit_two_pow]
      rw [show (decide (p.1 = f)) = (p.1 == f) from rfl, show (decide (p.2 = f)) = (p.2 == f) from rfl]
      simp [Bool.or_assoc]
    · rw [if_neg h]; simp [h]
theorem evL_snoc (l : List (Nat × Nat)) (p : Nat × Nat) : evL T ap D (l ++ [p]) = evB T ap D (evL T ap D l) p := by unfold evL; rw [List.foldl_append]; rfl
theorem evL_0 (l : List (Nat × Nat)) : evL T ap D l = 0 ↔ ∀ p, p ∈ l → ev T ap D p.1 p.2 = false := by
  constructor
  · intro h p hp
    have := evL_bit (T := T) (ap := ap) (D := D) p.1 l 0
    rw [show l.foldl (evB T ap D) 0 = 0 from h] at this
    simp only [Nat.zero_testBit, Bool.false_or] at this
    have h2 := List.any_eq_false.mp this.symm p hp
    simpa using h2
  · intro h
    refine Nat.eq_of_testBit_eq fun f => ?_
    have := evL_bit (T := T) (ap := ap) (D := D) f l 0
    rw [show evL T ap D l = l.foldl (evB T ap D) 0 from rfl, this]
    simp only [Nat.zero_testBit, Bool.false_or]
    exact List.any_eq_false.mpr fun p hp => by rw [h p hp]; simp
theorem evL_lt {l : List (Nat × Nat)} (h : ∀ p, p ∈ l → p.1 < 9 ∧ p.2 < 9) : evL T ap D l < 512 := by
  refine Nat.lt_pow_two_of_testBit (n := 9) _ fun i hi => ?_
  rw [show evL T ap D l = l.foldl (evB T ap D) 0 from rfl, evL_bit]
  simp only [Nat.zero_testBit, Bool.false_or]
  refine List.any_eq_false.mpr fun p hp => ?_
  have := h p hp
  rw [show (p.1 == i) = false by simp; omega, show (p.2 == i) = false by simp; omega]
  simp
def evP (n : Nat) (T : Nat → Nat → Bool) (ap : Int) (D : Nat → Int) (f : Nat) : Bool := !(decide (bt (ev T ap D f) n = 0))
theorem evL_prs (hS : Cty n T S) : evL T ap D (prs n T) = bt (evP n T ap D) n := by
  refine Nat.eq_of_testBit_eq fun f => ?_
  rw [show evL T ap D (prs n T) = (prs n T).foldl (evB T ap D) 0 from rfl, evL_bit, bt_bit]
  simp only [Nat.zero_testBit, Bool.false_or]
  rw [Bool.eq_iff_iff, List.any_eq_true]
  simp only [Bool.and_eq_true, Bool.or_eq_true, beq_iff_eq, decide_eq_true_eq, evP, Bool.not_eq_true', decide_eq_false_iff_not]
  constructor
  · rintro ⟨p, hp, he, h⟩
    obtain ⟨g1, g2, g3⟩ := mem_prs.mp hp
    refine ⟨by omega, fun h0 => ?_⟩
    rcases h with rfl | rfl
    · have := bt_zero h0 p.2 g2; rw [he] at this; cases this
    · have := bt_zero h0 p.1 (by omega); rw [ev_symm hS.2.1, he] at this; cases this
  · rintro ⟨hf, h0⟩
    have : ∃ j, j < n ∧ ev T ap D f j = true := by
      rcases first_or (fun j => !(ev T ap D f j)) n with h | ⟨j, h1, h2, _⟩
      · exact absurd (bt_false fun j hj => by have := h j hj; simpa using this) h0
      · exact ⟨j, h1, by simpa using h2⟩
    obtain ⟨j, hj, he⟩ := this
    have hT : T f j = true := by
      unfold ev at he; simp at he; exact he.1
    have hne := (hS.2.2.1 f j hT).2.2
    by_cases h : f < j
    · exact ⟨(f, j), mem_prs.mpr ⟨h, hj, hT⟩, he, Or.inl rfl⟩
    · exact ⟨(j, f), mem_prs.mpr ⟨by omega, hf, by rw [hS.2.1]; exact hT⟩, by rw [ev_symm hS.2.1]; exact he, Or.inr rfl⟩
def evR (n : Nat) (T : Nat → Nat → Bool) (ap : Int) (D : Nat → Int) : List Int32 := evF T ap D (prs n T) ++ [iI ((bt (evP n T ap D) n : Nat) : Int)]
theorem evF_len (l : List (Nat × Nat)) : (evF T ap D l).length ≤ 2 := by unfold evF; split <;> simp
theorem evR_len : (evR n T ap D).length ≤ 10 := by unfold evR; have := evF_len (T := T) (ap := ap) (D := D) (prs n T); simp; omega
theorem W_even (hv : CV n T S D SP ap fi bk) (hw : CW s n T S D SP ap fi bk) : ∃ s', fW_even s = some (iI (ep n T ap D), s') ∧ WQ s s' (some (evR n T ap D)) := by
  have hn := hv.1.1
  have hl := prs_len T hn
  have hap : 0 ≤ ap ∧ ap ≤ 9 := by have := hv.2.2.2.2.2.1; omega
  obtain ⟨t, e, hA, _⟩ := W_look hv hw
  have q := hA.wq hv.2.2.2.2.1
  have hwt := hw.wq q
  unfold fW_even
  rw [e, Option.bind_some]
  have loop : ∀ x1 r, (∀ k, fW_even_L23 x1 t (iI ((bt (evP n T ap D) n : Nat) : Int)) (iI (n : Int)) k = r) → wh2 (fW_even_L23 x1 t) 100000 (iI 0) (iI 0) = r := fun x1 r fin => by
    refine for2a (f := fW_even_L23 x1 t) (fun i => iI ((bt (evP n T ap D) i : Nat) : Int)) (i0 := 0) (n := n) (r := r) (Nat.zero_le _) (by omega) (fun i _ hi c => ?_) fin
    unfold fW_even_L23 fW_even_J53
    have hlt := bt_lt9 (ev T ap D i) hn
    rw [hwt.1.1, if_neg (by rw [iI_le (by omega) (by omega) (by omega) (by omega)]; omega), Land_evenWith hv.1 hwt.1 hwt.2.1 hv.2.1 hwt.2.2.2.1 hap (by omega), Option.bind_some, shl1 (by omega), ← bt_or (P := evP n T ap D) (i := i) (by omega), iI_add]
    simp only [iI_eq (a := ((bt (ev T ap D i) n : Nat) : Int)) (b := 0) (by omega) (by omega) (by omega) (by omega)]
    by_cases h : bt (ev T ap D i) n = 0
    · rw [if_pos (by omega), if_neg (by simp [evP, h])]
    · rw [if_neg (by omega), if_pos (by simp [evP, h])]
  have fin : ∀ (u : wM) (L : List Int32), RW u L → L.length ≤ 2 → Off KN t u → ∃ s', fW_even_J105 (iI ((bt (evP n T ap D) n : Nat) : Int)) u = some (iI (ep n T ap D), s') ∧ WQ s s' (some (L ++ [iI ((bt (evP n T ap D) n : Nat) : Int)])) := fun u L r hL o => by
    unfold fW_even_J105
    obtain ⟨u2, e2, r2, o2⟩ := Num_add (v := iI ((bt (evP n T ap D) n : Nat) : Int)) r (by omega)
    have hA2 : AH u2 n T S SP ap D := hA.1.of ((o.trans o2).mono fun k j hk => by simp only [KN, Bool.or_eq_false_iff, Bool.and_eq_false_iff, beq_eq_false_iff_ne, bne_eq_false_iff_eq] at hk ⊢; omega)
    rw [e2, Option.bind_some, Ah_evenPairs hv.1 hA2 hv.2.1 hap, Option.bind_some]
    exact ⟨u2, rfl, q.row (o.trans o2) r2 (by simp; omega)⟩
  obtain ⟨u1, e1, r1, o1⟩ := Num_clear (s := t)
  rcases Ah_firstEven hv.1 hA.1 hv.2.1 hap with ⟨h1, h2⟩ | ⟨p, hp, h1, h2, h3⟩
  · rw [h2, Option.bind_some]
    obtain ⟨s', f1, f2⟩ := fin u1 [] r1 (by simp) o1
    refine ⟨s', loop _ _ fun k => ?_, ?_⟩
    · unfold fW_even_L23
      rw [hwt.1.1, if_pos (by rw [iI_le (by omega) (by omega) (by omega) (by omega)]; omega), e1, Option.bind_some, if_pos rfl, f1]
    · have : evF T ap D (prs n T) = [] := by
        unfold evF
        rw [List.find?_eq_none.mpr fun x hx => ?_]
        obtain ⟨i, hi, rfl⟩ := List.mem_iff_getElem.mp hx
        rw [h1 i hi]; simp
      unfold evR; rw [this]; exact f2
  · rw [h3, Option.bind_some]
    obtain ⟨a1, a2, a3⟩ := hA.1.2.2.2.1 p hp
    obtain ⟨u2, e2, r2, o2⟩ := Num_add (v := iI ((prs n T)[p].1 : Int)) r1 (by simp)
    obtain ⟨u3, e3, r3, o3⟩ := Num_add (v := iI ((prs n T)[p].2 : Int)) r2 (by simp)
    obtain ⟨s', f1, f2⟩ := fin u3 _ r3 (by simp) ((o1.trans o2).trans o3)
    refine ⟨s', loop _ _ fun k => ?_, ?_⟩
    · unfold fW_even_L23
      rw [hwt.1.1, if_pos (by rw [iI_le (by omega) (by omega) (by omega) (by omega)]; omega), e1, Option.bind_some, if_neg (by rw [iI_eq (by omega) (by omega) (by omega) (by omega)]; omega), chk_in (by omega) (by omega) (by omega), iI_natc (by omega), o1 17 p rfl, a1, e2, Option.bind_some, o2 18 p rfl, o1 18 p rfl, a2, e3, Option.bind_some, f1]
    · have : evF T ap D (prs n T) = [iI ((prs n T)[p].1 : Int), iI ((prs n T)[p].2 : Int)] := by
        unfold evF
        rw [(List.find?_eq_some_iff_getElem (p := fun p : Nat × Nat => ev T ap D p.1 p.2) (b := (prs n T)[p])).mpr ⟨h1, p, hp, rfl, fun j hj => by rw [h2 j hj]; rfl⟩]
      unfold evR; rw [this]; exact f2
theorem M_even (hv : CV n T S D SP ap fi bk) (hm : CM s n T S D SP ap fi bk) : ∃ s', fM_even s = some (iI (ep n T ap D), s') ∧ MQn s s' (some (evR n T ap D)) := by
  have hn := hv.1.1
  have hap : 0 ≤ ap ∧ ap ≤ 9 := by have := hv.2.2.2.2.2.1; omega
  have hz := hm.2.2.2.2.2.2
  unfold fM_even
  simp only [nmM]
  have cm : ∀ u, Off KMr s u → (∀ j, u.1 184 j = s.1 184 j ∧ u.1 187 j = s.1 187 j) → CM u n T S D SP ap fi bk := fun u o z => hm.kq o fun j hj => by rw [(z j).1, (z j).2]; exact hz j hj
  have o0 : Off (fun k j => KMn k j || k == 161 && j == 0) s (wsI (wsI s 161 0 (iI 0)) 161 1 (iI 0)) := ((Off.refl s).set rfl).set rfl
  have oz : ∀ u, Off (fun k j => KMn k j || k == 161 && j == 0) s u → CM u n T S D SP ap fi bk ∧ Off KMr s u ∧ ZM u := fun u o => by
    have o' : Off KMr s u := o.mono fun k j hk => by
      cases e : KMn k j with
      | false =>
        by_cases h : k = 161 ∧ j = 0
        · rw [h.1, h.2] at hk; exact absurd hk (by decide)
        · rw [Bool.false_or, Bool.and_eq_false_iff, beq_eq_false_iff_ne, beq_eq_false_iff_ne]; omega
      | true =>
        exfalso
        simp only [KMn, Bool.or_eq_true, Bool.and_eq_true, beq_iff_eq] at e
        simp only [KMr, Bool.or_eq_false_iff, Bool.and_eq_false_iff, beq_eq_false_iff_ne] at hk
        omega
    have z : ZM u := fun j hj => by rw [o 184 j rfl, o 187 j rfl]; exact hz j hj
    exact ⟨hm.kq o' z, o', z⟩
  refine wh3_w (Q := fun x => ∃ s', x = some (iI (ep n T ap D), s') ∧ MQn s s' (some (evR n T ap D))) (fun m x y u => ∃ a : Nat, a ≤ n ∧ m = n - a ∧ x = iI ((evL T ap D (prL T n a) : Nat) : Int) ∧ y = iI (a : Int) ∧ RM u (evF T ap D (prL T n a)) ∧ Off (fun k j => KMn k j || k == 161 && j == 0) s u) ?_ 100000 n _ _ (wsI (wsI s 161 0 (iI 0)) 161 1 (iI 0)) (by omega) ⟨0, by omega, rfl, rfl, rfl, M_rows0, o0⟩
  rintro m x y u ⟨a, h1, rfl, rfl, rfl, ru, ho⟩ c hc
  obtain ⟨hu, _, _⟩ := oz u ho
  unfold fM_even_L14
  rw [hu.1.1]
  by_cases ha : a < n
  · rw [if_neg (by rw [iI_le (by omega) (by omega) (by omega) (by omega)]; omega), iI_add]
    refine wh3_w (Q := fun x => ∃ s', x = some (iI (ep n T ap D), s') ∧ MQn s s' (some (evR n T ap D))) (fun m x y u => ∃ b : Nat, a < b ∧ b ≤ n ∧ m = n - b ∧ x = iI ((evL T ap D (prL T n a ++ rowL T a b) : Nat) : Int) ∧ y = iI (b : Int) ∧ RM u (evF T ap D (prL T n a ++ rowL T a b)) ∧ Off (fun k j => KMn k j || k == 161 && j == 0) s u) ?_ 100000 (n - (a + 1)) _ _ u (by omega) ⟨a + 1, by omega, by omega, rfl, by rw [row_start, List.append_nil], by simp, by rw [row_start, List.append_nil]; exact ru, ho⟩
    rintro m x y u ⟨b, g1, g2, rfl, rfl, rfl, ru, ho⟩ c2 hc2
    obtain ⟨hu, _, _⟩ := oz u ho
    have hmem : ∀ p, p ∈ prL T n a ++ rowL T a b → p.1 < 9 ∧ p.2 < 9 := fun p hp => by
      rcases List.mem_append.mp hp with h | h
      · have := mem_prL.mp h; omega
      · have := mem_row.mp h; omega
    have hlt := evL_lt (T := T) (ap := ap) (D := D) hmem
    unfold fM_even_L26 fM_even_J64 fM_even_J74
    rw [hu.1.1]
    by_cases hb : b < n
    · rw [if_neg (by rw [iI_le (by omega) (by omega) (by omega) (by omega)]; omega), M_isEven hu.1 hu.2.1 hv.2.1 hu.2.2.2.1 hap (by omega) (by omega), Option.bind_some]
      simp only [bI_0, nmI, iI_add]
      by_cases hT : T a b = true
      · have hr : prL T n a ++ rowL T a (b + 1) = (prL T n a ++ rowL T a b) ++ [(a, b)] := by simp [rowL, g1, hT]
        by_cases he : ev T ap D a b = true
        · rw [if_neg (by rw [he]; decide)]
          have p1 : 2 ^ a ≤ 2 ^ 8 := Nat.pow_le_pow_right (by omega) (by omega)
          have p2 : 2 ^ b ≤ 2 ^ 8 := Nat.pow_le_pow_right (by omega) (by omega)
          have p3 : 2 ^ a ||| 2 ^ b < 2 ^ 9 := Nat.or_lt_two_pow (by omega) (by omega)
          have eb : iI ((evL T ap D (prL T n a ++ rowL T a b) : Nat) : Int) ||| (iShl (iI 1) (iI (a : Int)) ||| iShl (iI 1) (iI (b : Int))) = iI ((evL T ap D (prL T n a ++ rowL T a (b + 1)) : Nat) : Int) := by
            rw [shl1 (by omega), shl1 (by omega), or_nat (by omega) (by omega), or_nat (by omega) (by omega), hr, evL_snoc]
            unfold evB
            rw [if_pos he]
          rw [eb]
          simp only [iI_eq (a := ((evL T ap D (prL T n a ++ rowL T a b) : Nat) : Int)) (b := 0) (by omega) (by omega) (by omega) (by omega)]
          by_cases h0 : evL T ap D (prL T n a ++ rowL T a b) = 0
          · rw [if_pos (by omega)]
            have hnone : (prL T n a ++ rowL T a b).find? (fun p => ev T ap D p.1 p.2) = none := List.find?_eq_none.mpr fun p hp => by rw [evL_0 _ |>.mp h0 p hp]; simp
            have hF : evF T ap D (prL T n a ++ rowL T a b) = [] := by unfold evF; rw [hnone]
            have hF' : evF T ap D (prL T n a ++ rowL T a (b + 1)) = [iI (a : Int), iI (b : Int)] := by
              unfold evF; rw [hr, List.find?_append, hnone]; simp [he]
            rw [hF] at ru
            obtain ⟨u2, e2, r2, o2⟩ := M_enters (v := iI (a : Int)) ru (by simp)
            obtain ⟨u3, e3, r3, o3⟩ := M_enters (v := iI (b : Int)) r2 (by simp)
            rw [e2, Option.bind_some, e3, Option.bind_some]
            refine hc2 (n - (b + 1)) _ _ _ (by omega) ⟨b + 1, by omega, by omega, rfl, rfl, by simp, by rw [hF']; exact r3, ho.trans ((o2.trans o3).mono fun k j hk => ?_)⟩
            simp only [Bool.or_eq_false_iff] at hk; exact hk.1
          · rw [if_neg (by omega)]
            refine hc2 (n - (b + 1)) _ _ _ (by omega) ⟨b + 1, by omega, by omega, rfl, rfl, by simp, ?_, ho⟩
            have : evF T ap D (prL T n a ++ rowL T a (b + 1)) = evF T ap D (prL T n a ++ rowL T a b) := by
              unfold evF
              rw [hr, List.find?_append]
              cases hq : (prL T n a ++ rowL T a b).find? (fun p => ev T ap D p.1 p.2) with
              | none => exact absurd ((evL_0 _).mpr fun p hp => by have := List.find?_eq_none.mp hq p hp; simpa using this) h0
              | some p => simp
            rw [this]; exact ru
        · rw [if_pos (by simpa using he)]
          refine hc2 (n - (b + 1)) _ _ _ (by omega) ⟨b + 1, by omega, by omega, rfl, ?_, by simp, ?_, ho⟩
          · rw [hr, evL_snoc]; unfold evB; rw [if_neg he]
          · have : evF T ap D (prL T n a ++ rowL T a (b + 1)) = evF T ap D (prL T n a ++ rowL T a b) := by
              unfold evF
              rw [hr, List.find?_append]
              cases (prL T n a ++ rowL T a b).find? (fun p => ev T ap D p.1 p.2) with
              | none => simp [he]
              | some p => simp
            rw [this]; exact ru
      · have : ev T ap D a b = false := by unfold ev; simp [hT]
        rw [if_pos this]
        refine hc2 (n - (b + 1)) _ _ _ (by omega) ⟨b + 1, by omega, by omega, rfl, ?_, by simp, ?_, ho⟩
        · rw [show rowL T a (b + 1) = rowL T a b by simp [rowL, hT]]
        · rw [show rowL T a (b + 1) = rowL T a b by simp [rowL, hT]]; exact ru
    · have : b = n := by omega
      subst this
      rw [if_pos (by rw [iI_le (by omega) (by omega) (by omega) (by omega)]; omega), iI_add]
      exact hc (b - (a + 1)) _ _ _ (by omega) ⟨a + 1, by omega, rfl, rfl, by simp, ru, ho⟩
  · have : a = n := by omega
    subst this
    rw [if_pos (by rw [iI_le (by omega) (by omega) (by omega) (by omega)]; omega)]
    have e9 : evL T ap D (prL T a a) = bt (evP a T ap D) a := evL_prs hv.1
    rw [e9]
    obtain ⟨u2, e2, r2, o2⟩ := M_enters (v := iI ((bt (evP a T ap D) a : Nat) : Int)) ru (by have := evF_len (T := T) (ap := ap) (D := D) (prL T a a); omega)
    have ho2 : Off (fun k j => KMn k j || k == 161 && j == 0) s u2 := ho.trans (o2.mono fun k j hk => by simp only [Bool.or_eq_false_iff] at hk; exact hk.1)
    obtain ⟨hu2, oq, zq⟩ := oz u2 ho2
    rw [e2, Option.bind_some, M_evenPairs hv.1 hu2.1 hu2.2.1 hv.2.1 hu2.2.2.2.1 hap, Option.bind_some]
    exact ⟨u2, rfl, oq, zq, r2⟩
end EV
theorem op14 : op_14 wInv := fun s hI => by
  obtain ⟨n, T, S, D, SP, ap, fi, bk, G, w, pl, kp, tx, se, l, hv, hw, hm, _⟩ := id hI
  obtain ⟨s1, e1, q1⟩ := W_even hv.1 hw.1
  obtain ⟨s2, e2, q2⟩ := M_even hv.1 (hm.1.byW q1.off.1)
  exact ⟨_, s1, s2, e1, e2, wInv_q hI q1 q2⟩
