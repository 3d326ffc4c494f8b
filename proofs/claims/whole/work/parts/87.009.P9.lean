def KA : Nat → Nat → Bool := fun k _ => decide (13 ≤ k) && decide (k ≤ 22)
def Z9 (D : Nat → Int) : Prop := ∀ j, 9 ≤ j → D j = 0
def ZW (s : wM) : Prop := ∀ j, 9 ≤ j → s.1 14 j = iI 0 ∧ s.1 15 j = iI 0
def AHl (s : wM) (n : Nat) (S : Nat → Nat → Int) (SP : Nat → Int) (ap : Int) (D : Nat → Int) (l : List (Nat × Nat)) : Prop :=
  s.1 13 12 = iI (n : Int) ∧ s.1 13 13 = iI ap ∧ s.1 13 6 = iI (l.length : Int) ∧ (∀ p (h : p < l.length), s.1 17 p = iI (l[p].1 : Int) ∧ s.1 18 p = iI (l[p].2 : Int) ∧ s.1 19 p = iI (S l[p].1 l[p].2)) ∧ Rw s 14 D ∧ Rw s 15 SP
def AH (s : wM) (n : Nat) (T : Nat → Nat → Bool) (S : Nat → Nat → Int) (SP : Nat → Int) (ap : Int) (D : Nat → Int) : Prop := AHl s n S SP ap D (prs n T)
theorem KA_t {k j : Nat} (h : 13 ≤ k) (h' : k ≤ 22) : KA k j = true := by simp [KA, h, h']
theorem cpy_Rw {s : wM} {k1 k2 : Nat} {D : Nat → Int} (h : Rw s k1 D) (hz : Z9 D) (h2 : ∀ j, 9 ≤ j → s.1 k2 j = iI 0) : Rw (wCpy s k1 k2 0 0 9) k2 D := by
  funext j
  rw [rd_c]
  split
  · rw [show s.1 k1 = _ from h]
  · rw [h2 j (by omega), hz j (by omega)]
theorem Rw.of {s t : wM} {k : Nat} {D : Nat → Int} (h : Rw s k D) (e : t.1 k = s.1 k) : Rw t k D := e.trans h
theorem chkC9 {ρ : Type} {k : Option ρ} : chkC (iI 0) (iI 0) (iI 9) 9 9 k = k := by unfold chkC; rw [if_pos (by decide)]
theorem n9 : (iI 9).toNatClampNeg = 9 := rfl
theorem AHl.of {s t : wM} {n : Nat} {S : Nat → Nat → Int} {SP : Nat → Int} {ap : Int} {D : Nat → Int} {l : List (Nat × Nat)} (h : AHl s n S SP ap D l) (e : Off (fun k j => k == 13 && j != 12 && j != 13 && j != 6 || k != 13 && k != 14 && k != 15 && k != 17 && k != 18 && k != 19) s t) : AHl t n S SP ap D l := by
  obtain ⟨h1, h2, h3, h4, h5, h6⟩ := h
  refine ⟨?_, ?_, ?_, fun p hp => ?_, ?_, ?_⟩
  · rw [e 13 12 rfl]; exact h1
  · rw [e 13 13 rfl]; exact h2
  · rw [e 13 6 rfl]; exact h3
  · rw [e 17 p rfl, e 18 p rfl, e 19 p rfl]; exact h4 p hp
  · exact h5.of (e.row fun j => rfl)
  · exact h6.of (e.row fun j => rfl)
section WA
variable {s : wM} {n : Nat} {T : Nat → Nat → Bool} {S : Nat → Nat → Int} {D SP : Nat → Int} {ap : Int}
theorem Ah_rewind (hD : Rw s 8 D) (hz : Z9 D) (hZ : ∀ j, 9 ≤ j → s.1 14 j = iI 0) : ∃ s', fAh_rewind s = some s' ∧ Rw s' 14 D ∧ s'.1 13 8 = iI 0 ∧ Off (fun k j => k == 14 || k == 13 && j == 8) s s' := by
  unfold fAh_rewind
  rw [chkC9, z0, n9]
  refine ⟨_, rfl, ?_, rd_at, ((Off.refl s).cpy fun j => rfl).set rfl⟩
  exact (cpy_Rw hD hz hZ).of (rd_ne (by decide))
theorem AHl_push {t : wM} {l : List (Nat × Nat)} {a b : Nat} (h : AHl t n S SP ap D l) : AHl (wsI (wsI (wsI (wsI t 17 l.length (iI (a : Int))) 18 l.length (iI (b : Int))) 19 l.length (iI (S a b))) 13 6 (iI ((l.length : Int) + 1))) n S SP ap D (l ++ [(a, b)]) := by
  obtain ⟨h1, h2, h3, h4, h5, h6⟩ := h
  refine ⟨?_, ?_, ?_, fun p hp => ?_, ?_, ?_⟩
  · rw [rd_of (by decide), rd_ne (by decide), rd_ne (by decide), rd_ne (by decide)]; exact h1
  · rw [rd_of (by decide), rd_ne (by decide), rd_ne (by decide), rd_ne (by decide)]; exact h2
  · rw [rd_at]; simp
  · simp only [rd_ne (show (17 : Nat) ≠ 13 by decide), rd_ne (show (18 : Nat) ≠ 13 by decide), rd_ne (show (19 : Nat) ≠ 13 by decide), rd_ne (show (17 : Nat) ≠ 18 by decide), rd_ne (show (17 : Nat) ≠ 19 by decide), rd_ne (show (18 : Nat) ≠ 17 by decide), rd_ne (show (18 : Nat) ≠ 19 by decide), rd_ne (show (19 : Nat) ≠ 17 by decide), rd_ne (show (19 : Nat) ≠ 18 by decide), rd_if]
    simp at hp
    by_cases e : p = l.length
    · subst e; simp
    · rw [if_neg e, if_neg e, if_neg e, List.getElem_append_left (by omega)]; exact h4 p (by omega)
  · exact h5.of (by rw [rd_ne (by decide), rd_ne (by decide), rd_ne (by decide), rd_ne (by decide)])
  · exact h6.of (by rw [rd_ne (by decide), rd_ne (by decide), rd_ne (by decide), rd_ne (by decide)])
theorem Ah_look (hS : Cty n T S) (hL : LW s n T S) (hD : Rw s 8 D) (hzD : Z9 D) (hSP : Rw s 9 SP) (hzS : Z9 SP) (hr : s.1 11 0 = iI ap) (hZ : ZW s) : ∃ s', fAh_look s = some s' ∧ AH s' n T S SP ap D ∧ s'.1 13 8 = iI 0 ∧ Off KA s s' := by
  have hn := hS.1
  unfold fAh_look
  simp only [nmM, z0]
  rw [chkC9, n9]
  generalize hs3 : wCpy (wsI (wsI s 13 12 (s.1 7 4)) 13 13 ((wsI s 13 12 (s.1 7 4)).1 11 0)) 9 15 0 0 9 = s3
  have o3 : Off KA s s3 := by rw [← hs3]; exact (((Off.refl s).set rfl).set rfl).cpy fun j => rfl
  have a1 : s3.1 13 12 = iI (n : Int) := by rw [← hs3, rd_cne (by decide), rd_of (by decide), rd_at]; exact hL.1
  have a2 : s3.1 13 13 = iI ap := by rw [← hs3, rd_cne (by decide), rd_at, rd_ne (by decide)]; exact hr
  have a3 : Rw s3 15 SP := by
    rw [← hs3]
    refine cpy_Rw (hSP.of ?_) hzS (fun j hj => ?_)
    · rw [rd_ne (by decide), rd_ne (by decide)]
    · rw [rd_ne (by decide), rd_ne (by decide)]; exact (hZ j hj).2
  obtain ⟨s4, e4, r4, f4, o4⟩ := Ah_rewind (s := s3) (D := D) (hD.of (o3.row fun j => rfl)) hzD (fun j hj => by
    rw [← hs3, rd_cne (by decide), rd_ne (by decide), rd_ne (by decide)]; exact (hZ j hj).1)
  rw [e4, Option.bind_some]
  have o4' : Off KA s s4 := o3.trans (o4.mono fun k j h => by
    simp only [KA, Bool.and_eq_false_iff, decide_eq_false_iff_not, Bool.or_eq_false_iff, beq_eq_false_iff_ne] at h ⊢
    refine ⟨by omega, Or.inl (by omega)⟩)
  have hL4 : LW s4 n T S := hL.of (o4' 7 4 rfl) (o4'.row fun j => rfl)
  refine wh2_w (Q := fun x => ∃ s', x = some s' ∧ AH s' n T S SP ap D ∧ s'.1 13 8 = iI 0 ∧ Off KA s s') (fun m x2 t => ∃ a : Nat, a ≤ n ∧ m = n - a ∧ x2 = iI (a : Int) ∧ AHl t n S SP ap D (prL T n a) ∧ t.1 13 8 = iI 0 ∧ Off KA s t) ?_ 100000 n _ _ (by omega) ⟨0, by omega, rfl, rfl, ⟨?_, ?_, ?_, fun p hp => by simp [prL] at hp, ?_, ?_⟩, ?_, ?_⟩
  · rintro m x2 t ⟨a, h1, rfl, rfl, hA, h8, ho⟩ c hc
    unfold fAh_look_L45
    rw [hA.1]
    by_cases h : a < n
    · rw [if_neg (by rw [iI_le (by omega) (by omega) (by omega) (by omega)]; omega), iI_add]
      refine wh2_w (Q := fun x => ∃ s', x = some s' ∧ AH s' n T S SP ap D ∧ s'.1 13 8 = iI 0 ∧ Off KA s s') (fun m x3 t => ∃ b : Nat, a < b ∧ b ≤ n ∧ m = n - b ∧ x3 = iI (b : Int) ∧ AHl t n S SP ap D (prL T n a ++ rowL T a b) ∧ t.1 13 8 = iI 0 ∧ Off KA s t) ?_ 100000 (n - (a + 1)) _ _ (by omega) ⟨a + 1, by omega, by omega, rfl, by simp, by rw [row_start, List.append_nil]; exact hA, h8, ho⟩
      rintro m x3 t ⟨b, g1, g2, rfl, rfl, gA, g8, go⟩ c2 hc2
      unfold fAh_look_L57 fAh_look_J120
      rw [gA.1]
      by_cases hb : b < n
      · have hLt : LW t n T S := hL.of (go 7 4 rfl) (go.row fun j => rfl)
        rw [if_neg (by rw [iI_le (by omega) (by omega) (by omega) (by omega)]; omega), Land_between hLt (by omega) (by omega), Option.bind_some]
        simp only [between_n hS]
        by_cases hT : T a b = true
        · have hlen := prL_lt T hn hb g1
          rw [if_neg (by simp [hT]), gA.2.2.1, chk_in (by omega) (by omega) (by omega), iI_natc (by omega)]
          simp only [nmM, rd_ne (show (13 : Nat) ≠ 17 by decide), rd_ne (show (13 : Nat) ≠ 18 by decide), rd_ne (show (13 : Nat) ≠ 19 by decide), gA.2.2.1]
          rw [chk_in (by omega) (by omega) (by omega), iI_natc (by omega)]
          have hL8 : LW (wsI (wsI t 17 (prL T n a ++ rowL T a b).length (iI (a : Int))) 18 (prL T n a ++ rowL T a b).length (iI (b : Int))) n T S := hLt.of (by rw [rd_ne (by decide), rd_ne (by decide)]) (by rw [rd_ne (by decide), rd_ne (by decide)])
          rw [Land_between hL8 (by omega) (by omega), Option.bind_some, chk_in (by omega) (by omega) (by omega), hT]
          simp only [if_true]
          rw [iI_add, iI_add]
          refine hc2 (n - (b + 1)) _ _ (by omega) ⟨b + 1, by omega, by omega, rfl, by simp, ?_, ?_, ?_⟩
          · rw [show prL T n a ++ rowL T a (b + 1) = (prL T n a ++ rowL T a b) ++ [(a, b)] by simp [rowL, g1, hT]]
            exact AHl_push gA
          · rw [rd_of (by decide), rd_ne (by decide), rd_ne (by decide), rd_ne (by decide)]; exact g8
          · exact (((go.set rfl).set rfl).set rfl).set rfl
        · rw [if_pos (by simpa using hT), iI_add]
          refine hc2 (n - (b + 1)) _ _ (by omega) ⟨b + 1, by omega, by omega, rfl, by simp, ?_, g8, go⟩
          rw [show rowL T a (b + 1) = rowL T a b by simp [rowL, hT]]
          exact gA
      · have : b = n := by omega
        subst this
        rw [if_pos (by rw [iI_le (by omega) (by omega) (by omega) (by omega)]; omega), iI_add]
        exact hc (b - (a + 1)) _ _ (by omega) ⟨a + 1, by omega, rfl, by simp, gA, g8, go⟩
    · have : a = n := by omega
      subst this
      rw [if_pos (by rw [iI_le (by omega) (by omega) (by omega) (by omega)]; omega)]
      exact ⟨t, rfl, hA, h8, ho⟩
  · rw [rd_of (by decide), o4 13 12 rfl]; exact a1
  · rw [rd_of (by decide), o4 13 13 rfl]; exact a2
  · exact rd_at
  · exact r4.of (rd_ne (by decide))
  · exact (a3.of (o4.row fun j => rfl)).of (rd_ne (by decide))
  · rw [rd_of (by decide)]; exact f4
  · exact o4'.set rfl
end WA
