section RE
variable {s t : wM} {n : Nat} {T : Nat → Nat → Bool} {S : Nat → Nat → Int} {D SP : Nat → Int} {ap fi bk : Int}
def mF (g : Nat → Int) (a : Int) : Nat → Int
  | 0 => a
  | i + 1 => min (mF g a i) (g i)
theorem mF_bd {g : Nat → Int} (hg : ∀ i, 0 ≤ g i ∧ g i ≤ 36) {a : Int} (h1 : 36 ≤ a) (h2 : a ≤ 2147483647) : ∀ c, 0 ≤ mF g a c ∧ mF g a c ≤ a
  | 0 => by simp only [mF]; omega
  | c + 1 => by have := mF_bd hg h1 h2 c; have := hg c; simp only [mF]; omega
theorem mF_eq {g : Nat → Int} (hg : ∀ i, 0 ≤ g i ∧ g i ≤ 36) : ∀ c, mF g 36 (c + 1) = mF g 2147483647 (c + 1)
  | 0 => by have := hg 0; simp only [mF]; omega
  | c + 1 => by
    have ih := mF_eq hg c
    show min (mF g 36 (c + 1)) _ = min (mF g 2147483647 (c + 1)) _
    rw [ih]
def gE (n : Nat) (T : Nat → Nat → Bool) (ap bk : Int) (D0 : Dp) (i : Nat) : Int := ep n T ap (Us n T bk D0 i)
def gC (n : Nat) (T : Nat → Nat → Bool) (ap bk : Int) (D0 : Dp) (c : Nat) : Nat := cnt (fun i => decide (gE n T ap bk D0 i = 0)) c
theorem gC_s (D0 : Dp) (c : Nat) : gC n T ap bk D0 (c + 1) = gC n T ap bk D0 c + (if gE n T ap bk D0 c = 0 then 1 else 0) := by
  unfold gC
  show cnt _ c + _ = _
  by_cases e : gE n T ap bk D0 c = 0
  · simp [e]
  · simp [e]
/-- the answer of reach, and its row -/
def rE (n : Nat) (T : Nat → Nat → Bool) (ap bk : Int) (D0 : Dp) (x : Nat) : Int32 × Option (List Int32) := if 3000 < Eb n T bk D0 (x + 1) then (iI (-3), none) else (iI (Eb n T bk D0 (x + 1) : Int), some [iI (gC n T ap bk D0 (Eb n T bk D0 (x + 1)) : Int), iI (mF (gE n T ap bk D0) 36 (Eb n T bk D0 (x + 1)))])
theorem W_reach (hv : CV n T S D SP ap fi bk) (hw : CW s n T S D SP ap fi bk) {x : Nat} (hx : x ≤ 4) : ∃ t, fW_reach s (iI (x : Int)) = some ((rE n T ap bk D x).1, t) ∧ WQ s t (rE n T ap bk D x).2 := by
  have hn := hv.1.1
  have hS := hv.1
  have hbk := hv.2.2.2.2.2.2.2
  have hap : 0 ≤ ap ∧ ap ≤ 9 := by have := hv.2.2.2.2.2.1; omega
  have hg : ∀ i, 0 ≤ gE n T ap bk D i ∧ gE n T ap bk D i ≤ 36 := fun i => ep_36 hS ap _
  obtain ⟨t, e, hA, hp, q⟩ := W_prepareSearch hv hw
  obtain ⟨u, ou, hcs⟩ := Se_findWithin hS hbk hv.2.1 hp (b := x) (by omega)
  have zw : ∀ {v D'}, AH v n T S SP ap D' → VS n D D' → ZW v := fun hAv hVv j hj => by
    rw [show _ = _ from hAv.2.2.2.2.1, show _ = _ from hAv.2.2.2.2.2]
    exact ⟨iI_congr (by rw [hVv.2 j (by omega), hv.2.2.1 j hj]), iI_congr (hv.2.2.2.2.1 j hj)⟩
  have qse : ∀ {v}, Off KSe t v → Off KWq s v := fun o => q.trans (o.mono fun k j hk => by
    simp only [KWq, KSe, Bool.or_eq_false_iff, Bool.and_eq_false_iff, decide_eq_false_iff_not, beq_eq_false_iff_ne] at hk ⊢; omega)
  unfold fW_reach
  rw [W_isWithin (by omega) (by omega) (by omega) (by omega) (by omega) (by omega), Option.bind_some, if_neg (by rw [bI_0]; simp; omega), e, Option.bind_some, Ah_pack hS hA (fun j _ => hv.2.1 j), Option.bind_some]
  have VD : VS n D D := ⟨hv.2.1, fun _ _ => rfl⟩
  rcases hcs with ⟨e2, σ, hsw⟩ | ⟨e2, hbig⟩
  · have hc3 := hsw.1
    have hrE : rE n T ap bk D x = (iI (Eb n T bk D (x + 1) : Int), some [iI (gC n T ap bk D (Eb n T bk D (x + 1)) : Int), iI (mF (gE n T ap bk D) 36 (Eb n T bk D (x + 1)))]) := by unfold rE; rw [if_neg (by omega)]
    rw [hrE, e2, Option.bind_some]
    dsimp only
    rw [if_neg (by decide)]
    have hvs : ∀ i, i < Eb n T bk D (x + 1) → VS n D (Us n T bk D i) := fun i hi => (U_ok hS (by omega) hv.2.1 (Eb n T bk D x) 0).1 i hi
    generalize Eb n T bk D (x + 1) = c at *
    refine wh4_w (Q := fun y => ∃ t, y = some (iI (c : Int), t) ∧ WQ s t (some [iI (gC n T ap bk D c : Int), iI (mF (gE n T ap bk D) 36 c)])) (fun m x y z v => ∃ (i : Nat) (D' : Dp), i ≤ c ∧ m = c - i ∧ x = iI (gC n T ap bk D i : Int) ∧ y = iI (mF (gE n T ap bk D) 36 i) ∧ z = iI (i : Int) ∧ AH v n T S SP ap D' ∧ VS n D D' ∧ Off KSe t v ∧ SW v n T bk D σ c) ?_ 100000 c _ _ _ _ (by omega) ⟨0, D, by omega, rfl, rfl, rfl, rfl, hA.k23 ou, VD, K23.se ou, hsw⟩
    rintro m x' y z v ⟨i, D', hi, rfl, rfl, rfl, rfl, hAv, hVv, hov, hswv⟩ k hk
    have hgi := hg i
    have hm := mF_bd hg (a := 36) (by omega) (by omega) i
    unfold fW_reach_L44
    rw [hswv.2.1]
    by_cases c1 : i < c
    · obtain ⟨v', e1, hAv', _, ov, ov2⟩ := Ah_unpackU hS hAv hVv.2 (hvs i c1)
      have hswv' : SW v' n T bk D σ c := hswv.of (ov _ _ rfl) (ov _ _ rfl) (ov _ _ rfl) (ov.row fun j => rfl) (ov.row fun j => rfl) ov2
      have hov' : Off KSe t v' := hov.trans (ov.mono fun k j hk => by
        simp only [KSe, Bool.or_eq_false_iff] at hk
        simp only [Bool.or_eq_false_iff]; exact ⟨hk.1.2, hk.2⟩)
      rw [if_neg (by rw [iI_le (by omega) (by omega) (by omega) (by omega)]; omega), chk_in (by omega) (by omega) (by omega), iI_natc (by omega), hswv.2.2.2.1 i c1, e1, Option.bind_some, Ah_evenPairs hS hAv' (hvs i c1).1 hap, Option.bind_some]
      unfold fW_reach_J93
      rw [show ep n T ap (Us n T bk D i) = gE n T ap bk D i from rfl, iMin_i (by omega) (by omega) (by omega) (by omega), iI_add, iI_add, iI_add]
      have hs := gC_s (n := n) (T := T) (ap := ap) (bk := bk) D i
      by_cases ce : gE n T ap bk D i = 0
      · rw [if_pos (by rw [ce])]
        rw [if_pos ce] at hs
        exact hk (c - (i + 1)) _ _ _ _ (by omega) ⟨i + 1, _, by omega, rfl, iI_congr (by omega), rfl, by simp, hAv', hvs i c1, hov', hswv'⟩
      · rw [if_neg (by rw [iI_eq (by omega) (by omega) (by omega) (by omega)]; omega)]
        rw [if_neg ce] at hs
        exact hk (c - (i + 1)) _ _ _ _ (by omega) ⟨i + 1, _, by omega, rfl, iI_congr (by omega), rfl, by simp, hAv', hvs i c1, hov', hswv'⟩
    · have : i = c := by omega
      subst this
      obtain ⟨w1, e1, r1, o1⟩ := Num_tell (s := v) (v := iI (gC n T ap bk D i : Int))
      obtain ⟨w2, e3, r2, o2⟩ := Num_add (v := iI (mF (gE n T ap bk D) 36 i)) r1 (by simp)
      rw [if_pos (by rw [iI_le (by omega) (by omega) (by omega) (by omega)]; omega), e1, Option.bind_some, e3, Option.bind_some, o2 23 1 rfl, o1 23 1 rfl, hswv.2.1]
      exact ⟨w2, rfl, WQ.row (l := [iI (gC n T ap bk D i : Int), iI (mF (gE n T ap bk D) 36 i)]) ⟨qse hov, zw hAv hVv⟩ (o1.trans o2) r2 (by simp)⟩
  · have hrE : rE n T ap bk D x = (iI (-3), none) := by unfold rE; rw [if_pos hbig]
    rw [hrE, e2, Option.bind_some]
    dsimp only
    rw [if_pos rfl]
    exact ⟨u, rfl, qse (K23.se ou), zw (hA.k23 ou) VD⟩
end RE
