section KP
variable {s t : wM} {n : Nat} {T : Nat → Nat → Bool} {S : Nat → Nat → Int} {D D' SP : Nat → Int} {ap fi bk : Int} {k : Nat} {G : Nat → Int32} {w : Int32} {pl pl' : List PI} {kp : Nat → KI} {tx : List Nat} {se : List (Nat × Nat)} {x : PI}
theorem KpW.of2 {i : Nat} (x : KI) (h : KpW s i x) (e : ∀ k j, 146 + 5 * i ≤ k ∧ k ≤ 150 + 5 * i → t.1 k j = s.1 k j) : KpW t i x := by
  cases x with
  | none => show t.1 _ 5 = _; rw [e _ _ (by omega)]; exact h
  | some x =>
    obtain ⟨m, x, SP, ap, fi, bk⟩ := x
    obtain ⟨h1, h2, h3, h4, h5, h6⟩ := h
    refine ⟨by rw [e _ _ (by omega)]; exact h1, h2.of fun j => ⟨e _ _ (by omega), e _ _ (by omega), e _ _ (by omega)⟩, fun f hf => by rw [e _ _ (by omega)]; exact h3 f hf, ?_, ?_, ?_⟩
    · rw [e _ _ (by omega)]; exact h4
    · rw [e _ _ (by omega)]; exact h5
    · rw [e _ _ (by omega)]; exact h6
theorem KpM.of2 {i : Nat} (x : KI) (h : KpM s i x) (e : t.1 194 i = s.1 194 i) (e2 : ∀ j, 32 * i ≤ j → j < 32 * i + 32 → t.1 195 j = s.1 195 j) : KpM t i x := by
  cases x with
  | none => show t.1 194 i = _; rw [e]; exact h
  | some x =>
    obtain ⟨m, x, SP, ap, fi, bk⟩ := x
    obtain ⟨h1, h2, h3, h4, h5, h6, h7⟩ := h
    refine ⟨by rw [e]; exact h1, by rw [e2 _ (by omega) (by omega)]; exact h2, fun f hf => ?_, ?_, ?_, ?_, ?_⟩
    · rw [e2 _ (by omega) (by omega), e2 _ (by omega) (by omega), e2 _ (by omega) (by omega)]; exact h3 f hf
    · rw [e2 _ (by omega) (by omega)]; exact h4
    · rw [e2 _ (by omega) (by omega)]; exact h5
    · rw [e2 _ (by omega) (by omega)]; exact h6
    · rw [e2 _ (by omega) (by omega)]; exact h7
theorem W_keepOp {a : Nat} (ha : a < 3) (hw : HW s n T S D SP ap fi bk G w pl kp tx se) : ∃ t, fW_keep s (iI (a : Int)) = some (iI 1, t) ∧ HW t n T S D SP ap fi bk G w pl (fun j => if j = a then some (n, (D, G, w), SP, ap, fi, bk) else kp j) tx se ∧ Off (fun a _ => decide (146 ≤ a) && decide (a ≤ 160)) s t := by
  unfold fW_keep
  rw [W_isWithin (by omega) (by omega) (by omega) (by omega) (by omega) (by omega), Option.bind_some, bI_d (by omega), if_neg (by decide), chk_in (by omega) (by omega) (by omega), iI_natc (by omega)]
  obtain ⟨t, e, t1, t2, t3, t4, t5, t6, o⟩ := Sn_take (s := s) (k := 146 + 5 * a) (by omega) (by omega)
  rw [e, Option.bind_some]
  have of : ∀ c j, ¬ (146 + 5 * a ≤ c ∧ c ≤ 146 + 5 * a + 4) → t.1 c j = s.1 c j := fun c j h => o c j (by simp only [Bool.and_eq_false_iff, decide_eq_false_iff_not]; omega)
  obtain ⟨nt, hp⟩ := hw.2.2.1
  refine ⟨t, rfl, ⟨hw.1.of fun k j hk => of k j (by omega), hw.2.1.of (funext fun j => of 10 j (by omega)) (of 7 5 (by omega)), ⟨nt, hp.of fun k j hk => of k j (by omega)⟩, fun i hi => ?_, hw.2.2.2.2.1.of (of 1 1 (by omega)) (funext fun j => of 2 j (by omega)), hw.2.2.2.2.2.of (of 142 0 (by omega)) (funext fun j => of 143 j (by omega)) (funext fun j => of 144 j (by omega))⟩, o.mono fun k j hk => by simp only [Bool.and_eq_false_iff, decide_eq_false_iff_not] at hk ⊢; omega⟩
  dsimp only
  by_cases e : i = a
  · subst e
    rw [if_pos rfl]
    refine ⟨by rw [t6]; exact hw.1.1.1, ⟨fun f hf => ?_, fun f hf => ?_, ?_⟩, fun f hf => ?_, ?_, ?_, ?_⟩
    · rw [t1, if_pos hf, show s.1 8 = _ from hw.1.2.1]
    · rw [t3, if_pos hf, hw.2.1.1]
    · rw [t5, hw.2.1.2.1]
    · rw [t2, if_pos hf, show s.1 9 = _ from hw.1.2.2.1]
    · rw [t4, if_pos (by decide)]; exact hw.1.2.2.2.1
    · rw [t4, if_pos (by decide)]; exact hw.1.2.2.2.2.1
    · rw [t4, if_pos (by decide)]; exact hw.1.2.2.2.2.2.1
  · rw [if_neg e]
    exact KpW.of2 _ (hw.2.2.2.1 i hi) fun k j hk => of k j (by omega)
def KK : Nat → Nat → Bool := fun a j => a == 194 || a == 195 || a == 161 && j == 0
theorem M_keepOp {a : Nat} (ha : a < 3) (hm : HM s n T S D SP ap fi bk G w pl kp tx se) : ∃ t, fM_keep s (iI (a : Int)) = some (iI 1, t) ∧ HM t n T S D SP ap fi bk G w pl (fun j => if j = a then some (n, (D, G, w), SP, ap, fi, bk) else kp j) tx se ∧ Off KK s t := by
  unfold fM_keep
  simp only [nmM]
  rw [M_in, Option.bind_some, iL (by omega) (by omega), bI_d (by show (0 : Int) ≤ _ ∧ _ ≤ (2 : Int); omega), if_neg (by decide), chk_in (by omega) (by omega) (by omega), iI_natc (by omega), iI_mul]
  have g1 : (wsI (wsI s 161 0 (iI 0)) 194 a (iI 1)).1 194 = fun j => if j = a then iI 1 else s.1 194 j := by funext j; rw [rd_if, rd_ne (by decide)]
  have g2 : (wsI (wsI s 161 0 (iI 0)) 194 a (iI 1)).1 195 = s.1 195 := by rw [rd_ne (by decide), rd_ne (by decide)]
  have g3 : Off KK s (wsI (wsI s 161 0 (iI 0)) 194 a (iI 1)) := ((Off.refl s).set rfl).set rfl
  generalize wsI (wsI s 161 0 (iI 0)) 194 a (iI 1) = s0 at g1 g2 g3 ⊢
  have main : ∃ t, wh2 (fM_keep_L33 (iI (32 * (a : Int)))) 100000 (iI 0) s0 = some (iI 1, t) ∧ t.1 194 = s0.1 194 ∧ (∀ f, f < 9 → t.1 195 (32 * a + f) = s.1 163 f ∧ t.1 195 (32 * a + 9 + f) = s.1 164 f ∧ t.1 195 (32 * a + 18 + f) = s.1 167 f) ∧ (∀ f, f < 3 → t.1 195 (32 * a + 27 + f) = s.1 168 f) ∧ t.1 195 (32 * a + 30) = s.1 161 10 ∧ t.1 195 (32 * a + 31) = s.1 161 3 ∧ (∀ j, j < 32 * a ∨ 32 * a + 32 ≤ j → t.1 195 j = s.1 195 j) ∧ Off KK s t := by
    refine wh2_w (Q := fun x => ∃ t, x = some (iI 1, t) ∧ t.1 194 = s0.1 194 ∧ (∀ f, f < 9 → t.1 195 (32 * a + f) = s.1 163 f ∧ t.1 195 (32 * a + 9 + f) = s.1 164 f ∧ t.1 195 (32 * a + 18 + f) = s.1 167 f) ∧ (∀ f, f < 3 → t.1 195 (32 * a + 27 + f) = s.1 168 f) ∧ t.1 195 (32 * a + 30) = s.1 161 10 ∧ t.1 195 (32 * a + 31) = s.1 161 3 ∧ (∀ j, j < 32 * a ∨ 32 * a + 32 ≤ j → t.1 195 j = s.1 195 j) ∧ Off KK s t) (fun m y u => ∃ i : Nat, i ≤ 9 ∧ m = 9 - i ∧ y = iI (i : Int) ∧ u.1 194 = s0.1 194 ∧ (∀ f, f < i → u.1 195 (32 * a + f) = s.1 163 f ∧ u.1 195 (32 * a + 9 + f) = s.1 164 f ∧ u.1 195 (32 * a + 18 + f) = s.1 167 f) ∧ (∀ j, j < 32 * a ∨ 32 * a + 32 ≤ j → u.1 195 j = s.1 195 j) ∧ Off KK s u) ?_ 100000 9 _ s0 (by omega) ⟨0, by omega, rfl, rfl, rfl, fun f hf => by omega, fun j _ => by rw [g2], g3⟩
    rintro m y u ⟨i, h1, rfl, rfl, h2, h3, h4, ho⟩ c hc
    unfold fM_keep_L33
    by_cases hi : i < 9
    · rw [if_neg (by rw [iI_le (by omega) (by omega) (by omega) (by omega)]; omega), chk_in (by omega) (by omega) (by omega), iI_natc (by omega), iI_add, iI_add, iI_add, iI_add, iI_add, iI_add]
      simp only [nmM, chk_in (a := 32 * (a : Int) + (i : Int)) (n := 96) (by omega) (by omega) (by omega), chk_in (a := 32 * (a : Int) + 9 + (i : Int)) (n := 96) (by omega) (by omega) (by omega), chk_in (a := 32 * (a : Int) + 18 + (i : Int)) (n := 96) (by omega) (by omega) (by omega)]
      rw [iI_nat (by omega) (by omega), iI_nat (by omega) (by omega), iI_nat (by omega) (by omega), show (32 * (a : Int) + (i : Int)).toNat = 32 * a + i by omega, show (32 * (a : Int) + 9 + (i : Int)).toNat = 32 * a + 9 + i by omega, show (32 * (a : Int) + 18 + (i : Int)).toNat = 32 * a + 18 + i by omega]
      simp only [rd_ne (show (164 : Nat) ≠ 195 by decide), rd_ne (show (167 : Nat) ≠ 195 by decide)]
      rw [ho 163 i rfl, ho 164 i rfl, ho 167 i rfl]
      refine hc (9 - (i + 1)) _ _ (by omega) ⟨i + 1, by omega, rfl, by simp, by rw [rd_ne (by decide), rd_ne (by decide), rd_ne (by decide)]; exact h2, fun f hf => ?_, fun j hj => ?_, ((ho.set rfl).set rfl).set rfl⟩
      · simp only [rd_if]
        by_cases e1 : f = i
        · subst e1
          refine ⟨?_, ?_, ?_⟩
          · rw [if_neg (by omega), if_neg (by omega), if_pos rfl]
          · rw [if_neg (by omega), if_pos rfl]
          · rw [if_pos rfl]
        · obtain ⟨k1, k2, k3⟩ := h3 f (by omega)
          refine ⟨?_, ?_, ?_⟩
          · rw [if_neg (by omega), if_neg (by omega), if_neg (by omega)]; exact k1
          · rw [if_neg (by omega), if_neg (by omega), if_neg (by omega)]; exact k2
          · rw [if_neg (by omega), if_neg (by omega), if_neg (by omega)]; exact k3
      · rw [rd_of (by omega), rd_of (by omega), rd_of (by omega)]; exact h4 j hj
    · have : i = 9 := by omega
      subst this
      rw [if_pos (by decide)]
      refine wh2_w (Q := fun x => ∃ t, x = some (iI 1, t) ∧ t.1 194 = s0.1 194 ∧ (∀ f, f < 9 → t.1 195 (32 * a + f) = s.1 163 f ∧ t.1 195 (32 * a + 9 + f) = s.1 164 f ∧ t.1 195 (32 * a + 18 + f) = s.1 167 f) ∧ (∀ f, f < 3 → t.1 195 (32 * a + 27 + f) = s.1 168 f) ∧ t.1 195 (32 * a + 30) = s.1 161 10 ∧ t.1 195 (32 * a + 31) = s.1 161 3 ∧ (∀ j, j < 32 * a ∨ 32 * a + 32 ≤ j → t.1 195 j = s.1 195 j) ∧ Off KK s t) (fun m y u => ∃ i : Nat, i ≤ 3 ∧ m = 3 - i ∧ y = iI (i : Int) ∧ u.1 194 = s0.1 194 ∧ (∀ f, f < 9 → u.1 195 (32 * a + f) = s.1 163 f ∧ u.1 195 (32 * a + 9 + f) = s.1 164 f ∧ u.1 195 (32 * a + 18 + f) = s.1 167 f) ∧ (∀ f, f < i → u.1 195 (32 * a + 27 + f) = s.1 168 f) ∧ (∀ j, j < 32 * a ∨ 32 * a + 32 ≤ j → u.1 195 j = s.1 195 j) ∧ Off KK s u) ?_ 100000 3 _ u (by omega) ⟨0, by omega, rfl, rfl, h2, h3, fun f hf => by omega, h4, ho⟩
      rintro m y u ⟨i, h1, rfl, rfl, h2, h3, h5, h4, ho⟩ c hc
      unfold fM_keep_L95
      simp only [iI_add, nmM]
      by_cases hi : i < 3
      · rw [if_neg (by rw [iI_le (by omega) (by omega) (by omega) (by omega)]; omega), chk_in (by omega) (by omega) (by omega), chk_in (by omega) (by omega) (by omega), iI_natc (by omega), iI_nat (by omega) (by omega), show (32 * (a : Int) + 27 + (i : Int)).toNat = 32 * a + 27 + i by omega, ho 168 i rfl]
        refine hc (3 - (i + 1)) _ _ (by omega) ⟨i + 1, by omega, rfl, by simp, by rw [rd_ne (by decide)]; exact h2, fun f hf => ?_, fun f hf => ?_, fun j hj => ?_, ho.set rfl⟩
        · rw [rd_of (by omega), rd_of (by omega), rd_of (by omega)]; exact h3 f hf
        · rw [rd_if]
          by_cases e1 : f = i
          · subst e1; rw [if_pos rfl]
          · rw [if_neg (by omega)]; exact h5 f (by omega)
        · rw [rd_of (by omega)]; exact h4 j hj
      · have : i = 3 := by omega
        subst this
        rw [if_pos (by decide), chk_in (by omega) (by omega) (by omega), chk_in (by omega) (by omega) (by omega), iI_nat (by omega) (by omega), iI_nat (by omega) (by omega), show (32 * (a : Int) + 27 + 3).toNat = 32 * a + 30 by omega, show (32 * (a : Int) + 27 + 4).toNat = 32 * a + 31 by omega]
        refine ⟨_, rfl, by rw [rd_ne (by decide), rd_ne (by decide)]; exact h2, fun f hf => ?_, fun f hf => ?_, ?_, ?_, fun j hj => ?_, (ho.set rfl).set rfl⟩
        · rw [rd_of (by omega), rd_of (by omega), rd_of (by omega), rd_of (by omega), rd_of (by omega), rd_of (by omega)]; exact h3 f hf
        · rw [rd_of (by omega), rd_of (by omega)]; exact h5 f hf
        · rw [rd_of (by omega), rd_at, ho 161 10 rfl]
        · rw [rd_at, rd_ne (by decide), ho 161 3 rfl]
        · rw [rd_of (by omega), rd_of (by omega)]; exact h4 j hj
  obtain ⟨t, e, t1, t2, t3, t4, t5, t6, o⟩ := main
  rw [e]
  have of : ∀ a j, ¬ (a = 194 ∨ a = 195 ∨ a = 161 ∧ j = 0) → t.1 a j = s.1 a j := fun a j h => o a j (by simp only [KK, Bool.or_eq_false_iff, Bool.and_eq_false_iff, beq_eq_false_iff_ne]; omega)
  refine ⟨t, rfl, ⟨hm.1.of fun k j hk => of k j (by omega), hm.2.1.of (funext fun j => of 167 j (by omega)) (of 161 10 (by omega)), hm.2.2.1.of (of 161 20 (by omega)) (funext fun j => of 174 j (by omega)), fun i hi => ?_, hm.2.2.2.2.1.of (of 161 12 (by omega)) (funext fun j => of 169 j (by omega)), hm.2.2.2.2.2.of (of 161 43 (by omega)) (funext fun j => of 191 j (by omega)) (funext fun j => of 192 j (by omega))⟩, o⟩
  dsimp only
  by_cases e : i = a
  · subst e
    rw [if_pos rfl]
    refine ⟨by rw [t1, g1]; simp, by rw [t5]; exact hm.1.1.1, fun f hf => ?_, ?_, ?_, ?_, ?_⟩
    · obtain ⟨k1, k2, k3⟩ := t2 f hf
      rw [k1, k2, k3, show s.1 163 = _ from hm.1.2.1, show s.1 164 = _ from hm.1.2.2.1, hm.2.1.1]; exact ⟨rfl, rfl, rfl⟩
    · rw [show 32 * i + 27 = 32 * i + 27 + 0 by omega, t3 0 (by omega)]; exact hm.1.2.2.2.1
    · rw [show 32 * i + 28 = 32 * i + 27 + 1 by omega, t3 1 (by omega)]; exact hm.1.2.2.2.2.1
    · rw [show 32 * i + 29 = 32 * i + 27 + 2 by omega, t3 2 (by omega)]; exact hm.1.2.2.2.2.2.1
    · rw [t4]; exact hm.2.1.2
  · rw [if_neg e]
    exact KpM.of2 _ (hm.2.2.2.1 i hi) (by rw [t1, g1]; simp [e]) fun j h1 h2 => t6 j (by omega)
end KP
theorem op44 : op_44 wInv := fun s a1 hI => by
  obtain ⟨n, T, S, D, SP, ap, fi, bk, G, w, pl, kp, tx, se, l, hv, hw, hm, r1, r2, hl⟩ := id hI
  obtain ⟨x, x1, x2, rfl⟩ := exI a1
  by_cases c : 0 ≤ x ∧ x ≤ 2
  · obtain ⟨a, rfl⟩ : ∃ g : Nat, x = g := ⟨x.toNat, by omega⟩
    obtain ⟨t, e, hw1, o1⟩ := W_keepOp (a := a) (by omega) hw
    have of : ∀ a j, ¬ (146 ≤ a ∧ a ≤ 160) → t.1 a j = s.1 a j := fun a j h => o1 a j (by simp only [Bool.and_eq_false_iff, decide_eq_false_iff_not]; omega)
    have lo : Lo s t := fun k hk => funext fun j => of k j (by omega)
    obtain ⟨u, f, hu, p⟩ := M_keepOp (a := a) (by omega) (hm.lo lo)
    have uf : ∀ a j, ¬ (a = 194 ∨ a = 195 ∨ a = 161 ∧ j = 0) → u.1 a j = t.1 a j := fun a j h => p a j (by simp only [KK, Bool.or_eq_false_iff, Bool.and_eq_false_iff, beq_eq_false_iff_ne]; omega)
    refine ⟨_, t, u, e, f, wInv_mk ⟨hv.1, hv.2.1, fun i hi => ?_, hv.2.2.2⟩ hw1 (fun k hk => funext fun j => uf k j (by omega)) hu (r1.of (of 32 1 (by omega)) (funext fun j => of 33 j (by omega))) ((r2.lo lo).of (uf 161 1 (by omega)) (funext fun j => uf 162 j (by omega))) hl⟩
    by_cases e : i = a
    · rw [if_pos e]; exact ⟨hv.1.1.1, ⟨hv.1.2.1, hw.2.1.2.2⟩, hv.1.2.2.2.1, hv.1.2.2.2.2.2⟩
    · rw [if_neg e]; exact hv.2.2.1 i hi
  · refine ⟨iI 0, s, wsI s 161 0 (iI 0), ?_, ?_, wInv_thr hI⟩
    · unfold fW_keep
      rw [W_isWithin x1 x2 (by omega) (by omega) (by omega) (by omega), Option.bind_some, bI_n c, if_pos rfl]
    · unfold fM_keep
      simp only [nmM]
      rw [M_in, Option.bind_some, iL x1 x2, bI_n (by show ¬ ((0 : Int) ≤ _ ∧ _ ≤ (2 : Int)); omega), if_pos rfl]
