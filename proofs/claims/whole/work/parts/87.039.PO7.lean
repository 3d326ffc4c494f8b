section AG
variable {s t : wM} {n : Nat} {T : Nat → Nat → Bool} {S : Nat → Nat → Int} {D D' SP SP' : Nat → Int} {ap fi bk ap' fi' bk' : Int} {k : Nat} {G : Nat → Int32} {w : Int32} {pl pl' : List PI} {kp : Nat → KI} {tx : List Nat} {se : List (Nat × Nat)} {x : PI}
def KA7 : Nat → Nat → Bool := fun a j => a == 8 || a == 9 || a == 10 || a == 11 || a == 7 && j == 5 || a == 34 && j == 0
theorem W_againOp {a : Nat} (ha : a < 3) (hv : CV n T S D SP ap fi bk) (hw : HW s n T S D SP ap fi bk G w pl kp tx se) (hk : kp a = some (n, x, SP', ap', fi', bk')) (hx : PIok n x) : ∃ t, fW_again s (iI (a : Int)) = some (iI 1, t) ∧ HW t n T S (c9 x.1) (c9 SP') ap' fi' bk' (g9 x.2.1) x.2.2 [] kp tx se ∧ Off KA7 s t := by
  have hn := hv.1.1
  have hK := hw.2.2.2.1 a ha
  rw [hk] at hK
  obtain ⟨k1, k2, k3, k4, k5, k6⟩ := hK
  unfold fW_again
  rw [W_isWithin (by omega) (by omega) (by omega) (by omega) (by omega) (by omega), Option.bind_some, bI_d (by omega), if_neg (by decide), chk_in (by omega) (by omega) (by omega), iI_natc (by omega), k1, hw.1.1.1, if_pos rfl]
  obtain ⟨t1, e1, t8, t10, t75, o1⟩ := Sn_give (s := s) (k := 146 + 5 * a) (D := D) (G := G) (x := x) (by omega) hw.1.2.1 hv.2.2.1 hw.2.1.1 (fun j hj => hw.2.1.2.2 j (by omega)) k2
  rw [e1, Option.bind_some]
  unfold fSn_giveSpringsAndLaw fPa_clear
  rw [chkC9, z0, n9]
  simp only [nmM]
  rw [chkC3, n3]
  simp only [Option.bind_some]
  have f1 : ∀ c j, ¬ (c = 8 ∨ c = 10 ∨ c = 7 ∧ j = 5) → t1.1 c j = s.1 c j := fun c j h => o1 c j (by simp only [KGv, Bool.or_eq_false_iff, Bool.and_eq_false_iff, beq_eq_false_iff_ne]; omega)
  have o : Off KA7 s (wsI (wCpy (wCpy t1 (146 + 5 * a + 2) 9 0 0 9) (146 + 5 * a + 4) 11 0 0 3) 34 0 (iI 0)) := Off.set (Off.cpy (Off.cpy (o1.mono fun k j hk => by simp only [KA7, KGv, Bool.or_eq_false_iff, Bool.and_eq_false_iff, beq_eq_false_iff_ne] at hk ⊢; omega) fun j => rfl) fun j => rfl) rfl
  refine ⟨_, rfl, ⟨⟨?_, ?_, ?_, ?_, ?_, ?_, fun j hj => ?_⟩, ⟨?_, ?_, g9_z hx.2⟩, ?_, fun i hi => ?_, ?_, ?_⟩, o⟩
  · exact hw.1.1.of (o 7 4 rfl) (o.row fun j => rfl)
  · exact t8.of (by rw [rd_ne (by decide), rd_cne (by decide), rd_cne (by decide)])
  · funext j
    rw [rd_ne (by decide), rd_cne (by decide), rd_c]
    show _ = iI (c9 SP' j)
    unfold c9
    by_cases h : j < 9
    · rw [if_pos h, if_pos h, f1 _ _ (by omega)]; exact k3 j h
    · rw [if_neg h, if_neg h, f1 9 j (by omega), show s.1 9 = _ from hw.1.2.2.1]; show iI (SP j) = _; rw [hv.2.2.2.2.1 j (by omega)]
  · rw [rd_ne (by decide), rd_c, if_pos (by decide), rd_cne (by omega), f1 _ _ (by omega)]; exact k4
  · rw [rd_ne (by decide), rd_c, if_pos (by decide), rd_cne (by omega), f1 _ _ (by omega)]; exact k5
  · rw [rd_ne (by decide), rd_c, if_pos (by decide), rd_cne (by omega), f1 _ _ (by omega)]; exact k6
  · rw [o 14 j rfl, o 15 j rfl]; exact hw.1.2.2.2.2.2.2 j hj
  · rw [rd_ne (by decide), rd_cne (by decide), rd_cne (by decide)]; exact t10
  · rw [rd_ne (by decide), rd_cne (by decide), rd_cne (by decide)]; exact t75
  · obtain ⟨nt, p1, p2, p3, p4⟩ := hw.2.2.1
    exact ⟨nt, p1, rd_at, by rw [o 34 2 rfl]; exact p3, fun i hi => by simp at hi⟩
  · exact KpW.of hi _ (hw.2.2.2.1 i hi) fun k j hk => o k j (by simp only [KA7, Bool.or_eq_false_iff, Bool.and_eq_false_iff, beq_eq_false_iff_ne]; omega)
  · exact hw.2.2.2.2.1.of (o 1 1 rfl) (o.row fun j => rfl)
  · exact hw.2.2.2.2.2.of (o 142 0 rfl) (o.row fun j => rfl) (o.row fun j => rfl)
def KA8 : Nat → Nat → Bool := fun a j => a == 163 || a == 164 || a == 167 || a == 168 || a == 161 && (j == 0 || j == 10 || j == 20)
theorem KA8_f {a j : Nat} (h : ¬ (a = 163 ∨ a = 164 ∨ a = 167 ∨ a = 168 ∨ a = 161 ∧ (j = 0 ∨ j = 10 ∨ j = 20))) : KA8 a j = false := by
  simp only [KA8, Bool.or_eq_false_iff, Bool.and_eq_false_iff, beq_eq_false_iff_ne]; omega
theorem M_againOp {a : Nat} (ha : a < 3) (hv : CV n T S D SP ap fi bk) (hm : HM s n T S D SP ap fi bk G w pl kp tx se) (zG : ∀ j, n ≤ j → G j = iI 0) (hk : kp a = some (n, x, SP', ap', fi', bk')) : ∃ t, fM_again s (iI (a : Int)) = some (iI 1, t) ∧ HM t n T S (c9 x.1) (c9 SP') ap' fi' bk' (g9 x.2.1) x.2.2 [] kp tx se ∧ Off KA8 s t := by
  have hn := hv.1.1
  have hK := hm.2.2.2.1 a ha
  rw [hk] at hK
  obtain ⟨k1, k2, k3, k4, k5, k6, k7⟩ := hK
  unfold fM_again
  simp only [nmM]
  rw [M_in, Option.bind_some, iL (by omega) (by omega), bI_d (by show (0 : Int) ≤ _ ∧ _ ≤ (2 : Int); omega), if_neg (by decide), chk_in (by omega) (by omega) (by omega), iI_natc (by omega), rd_ne (by decide), k1, if_neg (by decide), iI_mul, iI_add, iI_add, chk_in (by omega) (by omega) (by omega), iI_nat (by omega) (by omega), show (32 * (a : Int) + 27 + 4).toNat = 32 * a + 31 by omega, rd_ne (by decide), k2, rd_of (by decide), hm.1.1.1, if_pos rfl]
  have main : ∃ t, wh2 (fM_again_L56 (iI (32 * (a : Int)))) 100000 (iI 0) (wsI s 161 0 (iI 0)) = some (iI 1, t) ∧ (∀ f, f < 9 → t.1 163 f = iI (x.1 f) ∧ t.1 164 f = iI (SP' f) ∧ t.1 167 f = x.2.1 f) ∧ (∀ f, f < 3 → t.1 168 f = s.1 195 (32 * a + 27 + f)) ∧ t.1 161 10 = x.2.2 ∧ t.1 161 20 = iI 0 ∧ (∀ j, 9 ≤ j → t.1 163 j = s.1 163 j ∧ t.1 164 j = s.1 164 j ∧ t.1 167 j = s.1 167 j) ∧ Off KA8 s t := by
    have g2 : ∀ j, 9 ≤ j → (wsI s 161 0 (iI 0)).1 163 j = s.1 163 j ∧ (wsI s 161 0 (iI 0)).1 164 j = s.1 164 j ∧ (wsI s 161 0 (iI 0)).1 167 j = s.1 167 j := fun j hj => ⟨by rw [rd_ne (by decide)], by rw [rd_ne (by decide)], by rw [rd_ne (by decide)]⟩
    have g3 : Off KA8 s (wsI s 161 0 (iI 0)) := (Off.refl s).set rfl
    refine wh2_w (Q := fun y => ∃ t, y = some (iI 1, t) ∧ (∀ f, f < 9 → t.1 163 f = iI (x.1 f) ∧ t.1 164 f = iI (SP' f) ∧ t.1 167 f = x.2.1 f) ∧ (∀ f, f < 3 → t.1 168 f = s.1 195 (32 * a + 27 + f)) ∧ t.1 161 10 = x.2.2 ∧ t.1 161 20 = iI 0 ∧ (∀ j, 9 ≤ j → t.1 163 j = s.1 163 j ∧ t.1 164 j = s.1 164 j ∧ t.1 167 j = s.1 167 j) ∧ Off KA8 s t) (fun m y u => ∃ i : Nat, i ≤ 9 ∧ m = 9 - i ∧ y = iI (i : Int) ∧ (∀ f, f < i → u.1 163 f = iI (x.1 f) ∧ u.1 164 f = iI (SP' f) ∧ u.1 167 f = x.2.1 f) ∧ (∀ j, 9 ≤ j → u.1 163 j = s.1 163 j ∧ u.1 164 j = s.1 164 j ∧ u.1 167 j = s.1 167 j) ∧ Off KA8 s u) ?_ 100000 9 _ (wsI s 161 0 (iI 0)) (by omega) ⟨0, by omega, rfl, rfl, fun f hf => by omega, g2, g3⟩
    rintro m y u ⟨i, h1, rfl, rfl, h3, h4, ho⟩ c hc
    unfold fM_again_L56
    by_cases hi : i < 9
    · obtain ⟨j1, j2, j3⟩ := k3 i hi
      rw [if_neg (by rw [iI_le (by omega) (by omega) (by omega) (by omega)]; omega)]
      simp only [nmM, iI_add, chk_in (a := (i : Int)) (n := 9) (by omega) (by omega) (by omega), chk_in (a := 32 * (a : Int) + (i : Int)) (n := 96) (by omega) (by omega) (by omega), chk_in (a := 32 * (a : Int) + 9 + (i : Int)) (n := 96) (by omega) (by omega) (by omega), chk_in (a := 32 * (a : Int) + 18 + (i : Int)) (n := 96) (by omega) (by omega) (by omega)]
      rw [iI_natc (by omega), iI_nat (by omega) (by omega), iI_nat (by omega) (by omega), iI_nat (by omega) (by omega), show (32 * (a : Int) + (i : Int)).toNat = 32 * a + i by omega, show (32 * (a : Int) + 9 + (i : Int)).toNat = 32 * a + 9 + i by omega, show (32 * (a : Int) + 18 + (i : Int)).toNat = 32 * a + 18 + i by omega]
      simp only [rd_ne (show (195 : Nat) ≠ 163 by decide), rd_ne (show (195 : Nat) ≠ 164 by decide)]
      rw [ho 195 _ rfl, ho 195 _ rfl, ho 195 _ rfl, j1, j2, j3]
      refine hc (9 - (i + 1)) _ _ (by omega) ⟨i + 1, by omega, rfl, by simp, fun f hf => ?_, fun j hj => ?_, ((ho.set rfl).set rfl).set rfl⟩
      · rw [rd_ne (by decide), rd_ne (by decide), rd_if, rd_ne (by decide), rd_if, rd_ne (by decide), rd_if, rd_ne (by decide), rd_ne (by decide)]
        by_cases e1 : f = i
        · subst e1; rw [if_pos rfl, if_pos rfl, if_pos rfl]; exact ⟨rfl, rfl, rfl⟩
        · rw [if_neg e1, if_neg e1, if_neg e1]; exact h3 f (by omega)
      · rw [rd_ne (by decide), rd_ne (by decide), rd_of (by omega), rd_ne (by decide), rd_of (by omega), rd_ne (by decide), rd_of (by omega), rd_ne (by decide), rd_ne (by decide)]; exact h4 j hj
    · have : i = 9 := by omega
      subst this
      rw [if_pos (by decide)]
      refine wh2_w (Q := fun y => ∃ t, y = some (iI 1, t) ∧ (∀ f, f < 9 → t.1 163 f = iI (x.1 f) ∧ t.1 164 f = iI (SP' f) ∧ t.1 167 f = x.2.1 f) ∧ (∀ f, f < 3 → t.1 168 f = s.1 195 (32 * a + 27 + f)) ∧ t.1 161 10 = x.2.2 ∧ t.1 161 20 = iI 0 ∧ (∀ j, 9 ≤ j → t.1 163 j = s.1 163 j ∧ t.1 164 j = s.1 164 j ∧ t.1 167 j = s.1 167 j) ∧ Off KA8 s t) (fun m y u => ∃ i : Nat, i ≤ 3 ∧ m = 3 - i ∧ y = iI (i : Int) ∧ (∀ f, f < 9 → u.1 163 f = iI (x.1 f) ∧ u.1 164 f = iI (SP' f) ∧ u.1 167 f = x.2.1 f) ∧ (∀ f, f < i → u.1 168 f = s.1 195 (32 * a + 27 + f)) ∧ (∀ j, 9 ≤ j → u.1 163 j = s.1 163 j ∧ u.1 164 j = s.1 164 j ∧ u.1 167 j = s.1 167 j) ∧ Off KA8 s u) ?_ 100000 3 _ u (by omega) ⟨0, by omega, rfl, rfl, h3, fun f hf => by omega, h4, ho⟩
      rintro m y u ⟨i, h1, rfl, rfl, h3, h5, h4, ho⟩ c hc
      unfold fM_again_L118
      simp only [iI_add, nmM]
      by_cases hi : i < 3
      · rw [if_neg (by rw [iI_le (by omega) (by omega) (by omega) (by omega)]; omega), chk_in (by omega) (by omega) (by omega), chk_in (by omega) (by omega) (by omega), iI_natc (by omega), iI_nat (by omega) (by omega), show (32 * (a : Int) + 27 + (i : Int)).toNat = 32 * a + 27 + i by omega, ho 195 _ rfl]
        refine hc (3 - (i + 1)) _ _ (by omega) ⟨i + 1, by omega, rfl, by simp, fun f hf => ?_, fun f hf => ?_, fun j hj => ?_, ho.set rfl⟩
        · rw [rd_ne (by decide), rd_ne (by decide), rd_ne (by decide)]; exact h3 f hf
        · rw [rd_if]
          by_cases e1 : f = i
          · subst e1; rw [if_pos rfl]
          · rw [if_neg (by omega)]; exact h5 f (by omega)
        · rw [rd_ne (by decide), rd_ne (by decide), rd_ne (by decide)]; exact h4 j hj
      · have : i = 3 := by omega
        subst this
        rw [if_pos (by decide), chk_in (by omega) (by omega) (by omega), iI_nat (by omega) (by omega), show (32 * (a : Int) + 27 + 3).toNat = 32 * a + 30 by omega, ho 195 _ rfl, k7]
        refine ⟨_, rfl, fun f hf => ?_, fun f hf => ?_, ?_, ?_, fun j hj => ?_, (ho.set rfl).set rfl⟩
        · rw [rd_ne (by decide), rd_ne (by decide), rd_ne (by decide), rd_ne (by decide), rd_ne (by decide), rd_ne (by decide)]; exact h3 f hf
        · rw [rd_ne (by decide), rd_ne (by decide)]; exact h5 f hf
        · rw [rd_of (by decide), rd_at]
        · rw [rd_at]
        · rw [rd_ne (by decide), rd_ne (by decide), rd_ne (by decide), rd_ne (by decide), rd_ne (by decide), rd_ne (by decide)]; exact h4 j hj
  obtain ⟨t, e, t1, t3, t4, t5, t6, o⟩ := main
  rw [e]
  have of : ∀ a j, ¬ (a = 163 ∨ a = 164 ∨ a = 167 ∨ a = 168 ∨ a = 161 ∧ (j = 0 ∨ j = 10 ∨ j = 20)) → t.1 a j = s.1 a j := fun a j h => o a j (KA8_f h)
  refine ⟨t, rfl, ⟨⟨hm.1.1.of (of 161 3 (by omega)) (funext fun j => of 165 j (by omega)) (funext fun j => of 166 j (by omega)), ?_, ?_, ?_, ?_, ?_, fun j hj => ?_⟩, ⟨?_, t4⟩, ⟨t5, fun i hi => by simp at hi⟩, fun i hi => KpM.of _ (hm.2.2.2.1 i hi) (funext fun j => of 194 j (by omega)) (funext fun j => of 195 j (by omega)), hm.2.2.2.2.1.of (of 161 12 (by omega)) (funext fun j => of 169 j (by omega)), hm.2.2.2.2.2.of (of 161 43 (by omega)) (funext fun j => of 191 j (by omega)) (funext fun j => of 192 j (by omega))⟩, o⟩
  · funext j
    show _ = iI (c9 x.1 j)
    unfold c9
    by_cases h : j < 9
    · rw [if_pos h]; exact (t1 j h).1
    · rw [if_neg h, (t6 j (by omega)).1, show s.1 163 = _ from hm.1.2.1]; show iI (D j) = _; rw [hv.2.2.1 j (by omega)]
  · funext j
    show _ = iI (c9 SP' j)
    unfold c9
    by_cases h : j < 9
    · rw [if_pos h]; exact (t1 j h).2.1
    · rw [if_neg h, (t6 j (by omega)).2.1, show s.1 164 = _ from hm.1.2.2.1]; show iI (SP j) = _; rw [hv.2.2.2.2.1 j (by omega)]
  · rw [t3 0 (by omega)]; exact k4
  · rw [t3 1 (by omega)]; exact k5
  · rw [t3 2 (by omega)]; exact k6
  · rw [of 184 j (by omega), of 187 j (by omega)]; exact hm.1.2.2.2.2.2.2 j hj
  · funext j
    unfold g9
    by_cases h : j < 9
    · rw [if_pos h]; exact (t1 j h).2.2
    · rw [if_neg h, (t6 j (by omega)).2.2, hm.2.1.1]; exact zG j (by omega)
end AG
theorem op45 : op_45 wInv := fun s a1 hI => by
  obtain ⟨n, T, S, D, SP, ap, fi, bk, G, w, pl, kp, tx, se, l, hv, hw, hm, r1, r2, hl⟩ := id hI
  obtain ⟨x, x1, x2, rfl⟩ := exI a1
  have hn := hv.1.1.1
  by_cases c : 0 ≤ x ∧ x ≤ 2
  · obtain ⟨a, rfl⟩ : ∃ g : Nat, x = g := ⟨x.toNat, by omega⟩
    have hKW := hw.2.2.2.1 a (by omega)
    have hKM := hm.2.2.2.1 a (by omega)
    have hKV := hv.2.2.1 a (by omega)
    have wE : fW_again s (iI (a : Int)) = if (s.1 (146 + 5 * a) 5) = (s.1 7 4) then fW_again s (iI (a : Int)) else some (iI 0, s) := by
      by_cases h : (s.1 (146 + 5 * a) 5) = (s.1 7 4)
      · rw [if_pos h]
      · rw [if_neg h]
        unfold fW_again fW_again_J28
        rw [W_isWithin (by omega) (by omega) (by omega) (by omega) (by omega) (by omega), Option.bind_some, bI_d (by omega), if_neg (by decide), chk_in (by omega) (by omega) (by omega), iI_natc (by omega), if_neg h]
    have mE : (s.1 194 a = iI 0 ∨ s.1 195 (32 * a + 31) ≠ s.1 161 3) → fM_again s (iI (a : Int)) = some (iI 0, wsI s 161 0 (iI 0)) := fun h => by
      unfold fM_again fM_again_J47
      simp only [nmM]
      rw [M_in, Option.bind_some, iL (by omega) (by omega), bI_d (by show (0 : Int) ≤ _ ∧ _ ≤ (2 : Int); omega), if_neg (by decide), chk_in (by omega) (by omega) (by omega), iI_natc (by omega), rd_ne (by decide)]
      by_cases h0 : s.1 194 a = iI 0
      · rw [if_pos h0]
      · rw [if_neg h0, iI_mul, iI_add, iI_add, chk_in (by omega) (by omega) (by omega), iI_nat (by omega) (by omega), show (32 * (a : Int) + 27 + 4).toNat = 32 * a + 31 by omega, rd_ne (by decide), rd_of (by decide), if_neg (by rcases h with h | h; exact absurd h h0; exact h)]
    cases hka : kp a with
    | none =>
      rw [hka] at hKW hKM
      have h1 : s.1 (146 + 5 * a) 5 = iI (-1) := hKW
      have h2 : s.1 194 a = iI 0 := hKM
      refine ⟨iI 0, s, wsI s 161 0 (iI 0), ?_, mE (Or.inl h2), wInv_thr hI⟩
      rw [wE, h1, hw.1.1.1, if_neg (by rw [iI_eq (by omega) (by omega) (by omega) (by omega)]; omega)]
    | some y =>
      obtain ⟨m, y, SP', ap', fi', bk'⟩ := y
      rw [hka] at hKW hKM hKV
      have hm9 : m ≤ 9 := hKV.1
      by_cases e : m = n
      · subst e
        obtain ⟨t, e1, hw1, o1⟩ := W_againOp (a := a) (by omega) hv.1 hw hka hKV.2.1
        have of : ∀ a j, ¬ (a = 8 ∨ a = 9 ∨ a = 10 ∨ a = 11 ∨ a = 7 ∧ j = 5 ∨ a = 34 ∧ j = 0) → t.1 a j = s.1 a j := fun a j h => o1 a j (by simp only [KA7, Bool.or_eq_false_iff, Bool.and_eq_false_iff, beq_eq_false_iff_ne]; omega)
        have lo : Lo s t := fun k hk => funext fun j => of k j (by omega)
        obtain ⟨u, f, hu, p⟩ := M_againOp (a := a) (by omega) hv.1 (hm.lo lo) hw.2.1.2.2 hka
        refine ⟨_, t, u, e1, f, wInv_mk ⟨⟨hv.1.1, c9_bd hKV.2.1.1 (by omega), c9_Z9, c9_bd hKV.2.2.1 (by omega), c9_Z9, hKV.2.2.2⟩, ⟨by simp, fun x hx => by simp at hx⟩, hv.2.2⟩ hw1 (fun k hk => funext fun j => p k j (KA8_f (by omega))) hu (r1.of (of 32 1 (by omega)) (funext fun j => of 33 j (by omega))) ((r2.lo lo).of (p 161 1 rfl) (p.row fun j => rfl)) hl⟩
      · refine ⟨iI 0, s, wsI s 161 0 (iI 0), ?_, mE (Or.inr ?_), wInv_thr hI⟩
        · rw [wE, hKW.1, hw.1.1.1, if_neg (by rw [iI_eq (by omega) (by omega) (by omega) (by omega)]; omega)]
        · rw [hKM.2.1, hm.1.1.1]; intro h; rw [iI_eq (by omega) (by omega) (by omega) (by omega)] at h; omega
  · refine ⟨iI 0, s, wsI s 161 0 (iI 0), ?_, ?_, wInv_thr hI⟩
    · unfold fW_again fW_again_J28
      rw [W_isWithin x1 x2 (by omega) (by omega) (by omega) (by omega), Option.bind_some, bI_n c, if_pos rfl]
    · unfold fM_again fM_again_J47
      simp only [nmM]
      rw [M_in, Option.bind_some, iL x1 x2, bI_n (by show ¬ ((0 : Int) ≤ _ ∧ _ ≤ (2 : Int)); omega), if_pos rfl]
