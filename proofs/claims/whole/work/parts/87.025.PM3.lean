section SS
variable {s t u : wM} {n : Nat} {T : Nat → Nat → Bool} {S S' : Nat → Nat → Int} {D D' SP SP' : Nat → Int} {ap ap' fi bk : Int} {se : List (Nat × Nat)}
theorem uS_uS {a b : Nat} {v w : Int} : uS (uS S a b v) a b w = uS S a b w := by funext x y; unfold uS; split <;> rfl
theorem uS_id (hS : Cty n T S) {a b : Nat} : uS S a b (S a b) = S := by
  funext x y; unfold uS
  split
  · rename_i h
    rcases h with ⟨rfl, rfl⟩ | ⟨rfl, rfl⟩
    · rfl
    · exact hS.2.2.2.1 _ _
  · rfl
theorem uT_id (hS : Cty n T S) {a b : Nat} (h : T a b = true) : uT T a b true = T := by
  funext x y; unfold uT
  split
  · rename_i e
    rcases e with ⟨rfl, rfl⟩ | ⟨rfl, rfl⟩
    · exact h.symm
    · rw [hS.2.1]; exact h.symm
  · rfl
theorem Cty.setS {a b : Nat} {v : Int} (h : Cty n T S) (hT : T a b = true) (hv : 0 ≤ v ∧ v ≤ 9) : Cty n T (uS S a b v) := by
  have := h.2.2.1 a b hT
  have h2 := h.set (c := true) (v := v) this.1 this.2.1 this.2.2 hv
  rwa [uT_id h hT] at h2
theorem CV.setS {a b : Nat} {v : Int} (h : CV n T S D SP ap fi bk) (hT : T a b = true) (hv : 0 ≤ v ∧ v ≤ 9) : CV n T (uS S a b v) D SP ap fi bk := ⟨h.1.setS hT hv, h.2⟩
theorem WBd.setS {p a b : Nat} {v : Int} (hS : Cty n T S) (hA : WBd s t n T S' SP ap D) (hp : p < (prs n T).length) (hpe : (prs n T)[p] = (a, b) ∨ (prs n T)[p] = (b, a)) : WBd s (wsI t 19 p (iI v)) n T (uS S' a b v) SP ap D := by
  obtain ⟨⟨h1, h2, h3, h4, h5, h6⟩, g3, g4, g5⟩ := hA
  refine ⟨⟨?_, ?_, ?_, fun q hq => ?_, h5.of (rd_ne (by decide)), h6.of (rd_ne (by decide))⟩, g3.set rfl, g4, g5⟩
  · rw [rd_ne (by decide)]; exact h1
  · rw [rd_ne (by decide)]; exact h2
  · rw [rd_ne (by decide)]; exact h3
  · rw [rd_ne (by decide), rd_ne (by decide), rd_if]
    refine ⟨(h4 q hq).1, (h4 q hq).2.1, ?_⟩
    by_cases e : q = p
    · subst e
      rw [if_pos rfl]
      unfold uS
      rw [if_pos (by rcases hpe with h | h <;> rw [h] <;> simp)]
    · rw [if_neg e, (h4 q hq).2.2]
      unfold uS
      rw [if_neg]
      intro h
      apply e
      refine prs_inj hq hp ?_
      have r1 := (prs_get hS hq).1
      have r2 := (prs_get hS hp).1
      rcases hpe with h' | h' <;> rw [h'] at r2 ⊢ <;> simp only at r2
      · exact Prod.ext (by simp only; omega) (by simp only; omega)
      · exact Prod.ext (by simp only; omega) (by simp only; omega)
theorem WBd.a (h : WBd s t n T S SP ap D) (h8 : t.1 13 8 = iI 0) : WA s t n T S SP ap D := ⟨h.1, Or.inl h8, h.2⟩
def K165 : Nat → Nat → Bool := fun k j => KMq k j || k == 165 || k == 166
theorem CM.touch {a b : Nat} {v : Int} (h : CM u n T S D SP ap fi bk) (hS : Cty n T S) (hT : T a b = true) (hv : 0 ≤ v ∧ v ≤ 9) : ∃ t, fM_touchBy u (iI (a : Int)) (iI (b : Int)) (iI v) = some t ∧ CM t n T (uS S a b v) D SP ap fi bk ∧ Off (fun k _ => k == 165 || k == 166) u t := by
  have hab := hS.2.2.1 a b hT
  have hn := hS.1
  obtain ⟨t, e, hl, o⟩ := M_touchBy h.1 (show a < 9 by omega) (show b < 9 by omega) hab.2.2 (v := v) (by omega)
  rw [decide_eq_true hv.1, uT_id hS hT, Int.max_eq_right hv.1] at hl
  obtain ⟨h1, h2, h3, h4, h5, h6, h7⟩ := h
  refine ⟨t, e, ⟨hl, h2.of (o.row fun j => rfl), h3.of (o.row fun j => rfl), ?_, ?_, ?_, fun j hj => ?_⟩, o⟩
  · rw [o 168 0 rfl]; exact h4
  · rw [o 168 1 rfl]; exact h5
  · rw [o 168 2 rfl]; exact h6
  · rw [o 184 j rfl, o 187 j rfl]; exact h7 j hj
theorem SeM.of2 (h : SeM s se) (o : Off K165 s t) : SeM t se := ⟨by rw [o 161 43 rfl]; exact h.1, fun i hi => by rw [o 191 i rfl, o 192 i rfl]; exact h.2 i hi⟩
def stB (n : Nat) (T : Nat → Nat → Bool) (S : Nat → Nat → Int) (SP : Nat → Int) (ap : Int) (se : List (Nat × Nat)) (D : Nat → Int) (a b : Nat) : Nat → Bool := fun v => hol n T (uS S a b (v : Int)) SP ap se D
theorem W_stones (hv : CV n T S D SP ap fi bk) (hw : CW s n T S D SP ap fi bk) (hse : SeV se) (hs : SeW s se) {f m : Int} (h1 : -2147483648 ≤ f) (h2 : f ≤ 2147483647) (h3 : -2147483648 ≤ m) (h4 : m ≤ 2147483647) : ∃ s', fW_stones s (iI f) (iI m) = some (iI (if 0 ≤ f ∧ f < n ∧ 0 ≤ m ∧ m < n ∧ f ≠ m then (if T f.toNat m.toNat then ((bt (stB n T S SP ap se D f.toNat m.toNat) 10 : Nat) : Int) else -2) else -1), s') ∧ WQ s s' none := by
  have hn := hv.1.1
  have hap : 0 ≤ ap ∧ ap ≤ 9 := by have := hv.2.2.2.2.2.1; omega
  unfold fW_stones
  rw [Land_hasTwo hn hw.1 h3 h4 h1 h2, Option.bind_some]
  simp only [bI_0, decide_eq_false_iff_not]
  by_cases c1 : 0 ≤ f ∧ f < n ∧ 0 ≤ m ∧ m < n ∧ f ≠ m
  · obtain ⟨b, rfl⟩ : ∃ q : Nat, m = q := ⟨m.toNat, by omega⟩
    obtain ⟨a, rfl⟩ : ∃ g : Nat, f = g := ⟨f.toNat, by omega⟩
    simp only [Int.toNat_natCast]
    obtain ⟨t, e, hA, _⟩ := W_look hv hw
    rw [if_neg (by simpa using c1), if_pos c1, e, Option.bind_some]
    rcases Ah_pairOf hv.1 hA.1 (a := a) (b := b) (by omega) (by omega) (by omega) with ⟨hT, e2⟩ | ⟨p, hp, hT, hpe, e2⟩
    · rw [e2, Option.bind_some, if_pos rfl, hT]
      exact ⟨t, rfl, hA.wq hv.2.2.2.2.1⟩
    · have hl := prs_len T hn
      rw [e2, Option.bind_some, if_neg (by rw [iI_eq (by omega) (by omega) (by omega) (by omega)]; omega), if_pos hT]
      refine wh3_w (Q := fun x => ∃ s', x = some (iI ((bt (stB n T S SP ap se D a b) 10 : Nat) : Int), s') ∧ WQ s s' none) (fun m x y u => ∃ i : Nat, i ≤ 10 ∧ m = 10 - i ∧ x = iI ((bt (stB n T S SP ap se D a b) i : Nat) : Int) ∧ y = iI (i : Int) ∧ ∃ D' v, WBd s u n T (uS S a b v) SP ap D') ?_ 100000 10 _ _ _ (by omega) ⟨0, by omega, rfl, rfl, rfl, D, S a b, by rw [uS_id hv.1]; exact hA.b⟩
      rintro m x y u ⟨i, g1, rfl, rfl, rfl, D', v, hu⟩ c hc
      unfold fW_stones_L49 fW_stones_J102
      by_cases hi : i < 10
      · rw [if_neg (by rw [iI_lt (by omega) (by omega) (by omega) (by omega)]; omega)]
        obtain ⟨t1, e1, hA1, h8, _⟩ := W_rewind hu hw.2.1 hv.2.1 hv.2.2.1
        rw [e1, Option.bind_some, chk_in (by omega) (by omega) (by omega), iI_natc (by omega)]
        simp only [nmM]
        have hA2 := (hA1.b.setS (v := (i : Int)) hv.1 hp hpe).a (by rw [rd_ne (by decide)]; exact h8)
        rw [uS_uS] at hA2
        have hvi := hv.setS (v := (i : Int)) hT (by omega)
        obtain ⟨t3, D3, e3, hA3⟩ := Si_hold hvi.1 hv.2.2.2.1 hap hA2 hse hs
        rw [e3, Option.bind_some, shl1 (by omega)]
        simp only [bI_0, iI_add]
        have hk := hc (10 - (i + 1)) (iI ((bt (stB n T S SP ap se D a b) (i + 1) : Nat) : Int)) (iI ((i : Int) + 1)) t3 (by omega) ⟨i + 1, by omega, rfl, rfl, by simp, D3, _, hA3.b⟩
        rw [← bt_or (by omega)] at hk
        cases hh : hol n T (uS S a b (i : Int)) SP ap se D
        · rw [if_pos rfl]; rw [if_neg (by show ¬ hol n T (uS S a b (i : Int)) SP ap se D = true; rw [hh]; decide)] at hk; exact hk
        · rw [if_neg (by decide)]; rw [if_pos (by show hol n T (uS S a b (i : Int)) SP ap se D = true; rw [hh])] at hk; exact hk
      · have : i = 10 := by omega
        subst this
        rw [if_pos (by decide)]
        exact ⟨u, rfl, hu.wq hv.2.2.2.2.1⟩
  · rw [if_pos c1, if_neg c1]
    exact ⟨s, rfl, WQ.refl hw.2.2.2.2.2.2⟩
theorem K165_back (hm : CM s n T S D SP ap fi bk) (hu : CM u n T S D SP ap fi bk) (ho : Off K165 s u) (h6 : u.1 166 = s.1 166) (h6b : ∀ j, 9 ≤ j → u.1 165 j = s.1 165 j) : Off KMq s u := fun k j hk => by
  by_cases e : k = 165
  · subst e
    by_cases hj : j < 9
    · rw [hu.1.2.1 j hj, hm.1.2.1 j hj]
    · exact h6b j (by omega)
  · by_cases e2 : k = 166
    · subst e2; rw [h6]
    · exact ho k j (by simp [K165, hk, e, e2])
end SS
