section KE
variable {s t : wM} {n : Nat} {T : Nat → Nat → Bool} {S : Nat → Nat → Int} {D SP : Nat → Int} {ap fi bk : Int}
/-- what keeping a county lawful answers: q weeks to go, x buckets and w weeks till now -/
def KR (n : Nat) (T : Nat → Nat → Bool) (S : Nat → Nat → Int) (SP : Nat → Int) (ap bk : Int) (b : Nat) : Nat → Dp → Nat → Nat → Int32 → Option (List Int32) → Prop
  | 0, _, x, w, r, o => r = iI (w : Int) ∧ o = some [iI (x : Int)]
  | q + 1, D, x, w, r, o => (3000 < Eb n T bk D (b + 1) ∧ r = iI (-3) ∧ o = none) ∨ (Eb n T bk D (b + 1) ≤ 3000 ∧ (∀ j, j < Eb n T bk D (b + 1) → PL n T S SP ap (Us n T bk D j) = false) ∧ r = iI (w : Int) ∧ o = some [iI (x : Int)]) ∨ (Eb n T bk D (b + 1) ≤ 3000 ∧ ∃ i, i < Eb n T bk D (b + 1) ∧ PL n T S SP ap (Us n T bk D i) = true ∧ (∀ j, j < i → PL n T S SP ap (Us n T bk D j) = false) ∧ KR n T S SP ap bk b q (wk n T S SP (Us n T bk D i) 0 0) (x + fr n T bk D i) (w + 1) r o)
theorem KR_uni {b : Nat} {r r' : Int32} {o o' : Option (List Int32)} : ∀ q D x w, KR n T S SP ap bk b q D x w r o → KR n T S SP ap bk b q D x w r' o' → r' = r ∧ o' = o
  | 0, D, x, w, ⟨e1, e2⟩, ⟨e3, e4⟩ => ⟨e3.trans e1.symm, e4.trans e2.symm⟩
  | q + 1, D, x, w, h, h' => by
    rcases h with ⟨a1, e1, e2⟩ | ⟨a1, a2, e1, e2⟩ | ⟨a1, i, a2, a3, a4, a5⟩ <;> rcases h' with ⟨b1, f1, f2⟩ | ⟨b1, b2, f1, f2⟩ | ⟨b1, i', b2, b3, b4, b5⟩
    · exact ⟨f1.trans e1.symm, f2.trans e2.symm⟩
    · omega
    · omega
    · omega
    · exact ⟨f1.trans e1.symm, f2.trans e2.symm⟩
    · rw [a2 i' b2] at b3; cases b3
    · omega
    · rw [b2 i a2] at a3; cases a3
    · have : i' = i := by
        by_cases g1 : i' < i
        · rw [a4 i' g1] at b3; cases b3
        · by_cases g2 : i < i'
          · rw [b4 i g2] at a3; cases a3
          · omega
      subst this
      exact KR_uni q _ _ _ a5 b5
theorem VS.tr {D' u : Dp} (h : VS n D D') (h' : VS n D' u) : VS n D u := ⟨h'.1, fun j hj => (h'.2 j hj).trans (h.2 j hj)⟩
theorem N3.k23 (h : N3 s t) : Off K23 s t := h.1.mono fun k j hk => by
  have hk' : (k == 23) = false := hk
  simp only [hk', Bool.false_and]
theorem W_keeps (hv : CV n T S D SP ap fi bk) (hw : CW s n T S D SP ap fi bk) {X B : Nat} (hX : X ≤ 12) (hB : B ≤ 2) : ∃ r o t, fW_keeps s (iI (X : Int)) (iI (B : Int)) = some (r, t) ∧ WQ s t o ∧ KR n T S SP ap bk B X D 0 0 r o := by
  have hn := hv.1.1
  have hS := hv.1
  have hbk := hv.2.2.2.2.2.2.2
  have hap : 0 ≤ ap ∧ ap ≤ 9 := by have := hv.2.2.2.2.2.1; omega
  obtain ⟨t, e, hA, hp, q⟩ := W_prepareSearch hv hw
  have zw : ∀ {v D'}, AH v n T S SP ap D' → VS n D D' → ZW v := fun hAv hVv j hj => by
    rw [show _ = _ from hAv.2.2.2.2.1, show _ = _ from hAv.2.2.2.2.2]
    exact ⟨iI_congr (by rw [hVv.2 j (by omega), hv.2.2.1 j hj]), iI_congr (hv.2.2.2.2.1 j hj)⟩
  have q23 : ∀ {u v}, Off K23 u v → Off KWq u v := fun o => o.mono fun k j hk => by
    simp only [KWq, K23, Bool.or_eq_false_iff, Bool.and_eq_false_iff, decide_eq_false_iff_not, beq_eq_false_iff_ne] at hk ⊢; omega
  have qka : ∀ {u v}, Off KA u v → Off KWq u v := fun o => o.mono fun k j hk => by
    simp only [KWq, KA, Bool.or_eq_false_iff, Bool.and_eq_false_iff, decide_eq_false_iff_not, beq_eq_false_iff_ne] at hk ⊢; omega
  unfold fW_keeps
  rw [W_isWithin (by omega) (by omega) (by omega) (by omega) (by omega) (by omega), Option.bind_some, if_neg (by rw [bI_0]; simp; omega), W_isWithin (by omega) (by omega) (by omega) (by omega) (by omega) (by omega), Option.bind_some, if_neg (by rw [bI_0]; simp; omega), e, Option.bind_some]
  refine wh4_w (Q := fun y => ∃ r o t, y = some (r, t) ∧ WQ s t o ∧ KR n T S SP ap bk B X D 0 0 r o) (fun m a b c v => ∃ (w x : Nat) (D' : Dp), w ≤ X ∧ a = iI (x : Int) ∧ b = iI (w : Int) ∧ AH v n T S SP ap D' ∧ VS n D D' ∧ Prd v n T bk ∧ Off KWq s v ∧ ((c = iI 1 ∧ m = X - w + 1 ∧ ∀ r o, KR n T S SP ap bk B (X - w) D' x w r o → KR n T S SP ap bk B X D 0 0 r o) ∨ (c = iI 0 ∧ m = 0 ∧ KR n T S SP ap bk B X D 0 0 (iI (w : Int)) (some [iI (x : Int)])))) ?_ 100000 (X + 1) _ _ _ _ (by omega) ⟨0, 0, D, by omega, rfl, rfl, hA, ⟨hv.2.1, fun _ _ => rfl⟩, hp, q, Or.inl ⟨rfl, rfl, fun r o h => h⟩⟩
  rintro m a b c v ⟨w, x, D', hw', rfl, rfl, hAv, hVv, hpv, hov, hcs⟩ k hk
  unfold fW_keeps_L33 fW_keeps_J114
  have tell : KR n T S SP ap bk B X D 0 0 (iI (w : Int)) (some [iI (x : Int)]) → ∃ r o t, ((fNum_tell v (iI (x : Int))).bind fun q_2 => some (iI (w : Int), q_2)) = some (r, t) ∧ WQ s t o ∧ KR n T S SP ap bk B X D 0 0 r o := fun h => by
    obtain ⟨u, e1, r1, o1⟩ := Num_tell (s := v) (v := iI (x : Int))
    rw [e1, Option.bind_some]
    exact ⟨_, _, u, rfl, WQ.row (l := [iI (x : Int)]) ⟨hov, zw hAv hVv⟩ o1 r1 (by simp), h⟩
  rcases hcs with ⟨rfl, rfl, hc⟩ | ⟨rfl, rfl, hc⟩
  · by_cases c1 : X ≤ w
    · rw [if_pos (by rw [iI_le (by omega) (by omega) (by omega) (by omega)]; omega)]
      exact tell (hc _ _ (by rw [show X - w = 0 by omega]; exact ⟨rfl, rfl⟩))
    · obtain ⟨u, ou, hf⟩ := Se_findWithin hS hbk hVv.1 hpv (b := B) (by omega)
      have hq : X - w = (X - (w + 1)) + 1 := by omega
      rw [if_neg (by rw [iI_le (by omega) (by omega) (by omega) (by omega)]; omega), if_neg (by decide), Ah_pack hS hAv (fun j _ => hVv.1 j), Option.bind_some]
      rcases hf with ⟨e2, σ, hsw⟩ | ⟨e2, hbig⟩
      · rw [e2, Option.bind_some]
        dsimp only
        rw [if_neg (by decide)]
        have hc3 := hsw.1
        have hvs : ∀ i, i < Eb n T bk D' (B + 1) → VS n D' (Us n T bk D' i) := fun i hi => (U_ok hS (by omega) hVv.1 (Eb n T bk D' B) 0).1 i hi
        obtain ⟨z, oz, oz2, hz⟩ := Se_firstLawful hS hv.2.2.2.1 hap (hAv.k23 ou) ⟨hVv.1, fun _ _ => rfl⟩ hsw hvs
        have hoz : Off KWq s z := (hov.trans (q23 ou)).trans (qka oz)
        have hswz := hsw.ka oz oz2
        rcases hz with ⟨i, hi, e3, k1, k2, hAz⟩ | ⟨e3, k2, D'', hAz, hVz⟩
        · obtain ⟨y, e4, n3⟩ := Se_stepsTo hS hbk hVv.1 (h := Eb n T bk D' B) (m := 0) (Nat.le_of_eq (Eb_s B)) hswz hi
          rw [e3, Option.bind_some]
          dsimp only
          rw [if_neg (by rw [iI_eq (by omega) (by omega) (by omega) (by omega)]; omega)]
          unfold fW_keeps_J89 fW_keeps_J111
          rw [if_neg (by decide), e4, Option.bind_some]
          dsimp only
          rw [iI_add, iI_add]
          refine hk (X - (w + 1) + 1) _ _ _ _ (by omega) ⟨w + 1, x + fr n T bk D' i, _, by omega, by simp, by simp, hAz.k23 n3.k23, hVv.tr (hvs i hi).wkd, (hswz.n3 n3).2.2.1, hoz.trans (q23 n3.k23), Or.inl ⟨rfl, rfl, fun r o h => hc r o ?_⟩⟩
          rw [hq]
          exact Or.inr (Or.inr ⟨hc3, i, hi, k1, k2, h⟩)
        · rw [e3, Option.bind_some]
          dsimp only
          rw [if_pos rfl]
          unfold fW_keeps_J89 fW_keeps_J111
          rw [if_pos rfl]
          refine hk 0 _ _ _ _ (by omega) ⟨w, x, D'', hw', rfl, rfl, hAz, hVv.tr hVz, hswz.2.2.1, hoz, Or.inr ⟨rfl, rfl, hc _ _ ?_⟩⟩
          rw [hq]
          exact Or.inr (Or.inl ⟨hc3, k2, rfl, rfl⟩)
      · rw [e2, Option.bind_some]
        dsimp only
        rw [if_pos rfl]
        refine ⟨_, none, u, rfl, ⟨hov.trans (q23 ou), zw (hAv.k23 ou) hVv⟩, hc _ _ ?_⟩
        rw [hq]
        exact Or.inl ⟨hbig, rfl, rfl⟩
  · by_cases c1 : X ≤ w
    · rw [if_pos (by rw [iI_le (by omega) (by omega) (by omega) (by omega)]; omega)]; exact tell hc
    · rw [if_neg (by rw [iI_le (by omega) (by omega) (by omega) (by omega)]; omega), if_pos rfl]; exact tell hc
end KE
