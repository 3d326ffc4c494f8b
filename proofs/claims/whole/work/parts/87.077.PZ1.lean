section AN
variable {s t : wM} {n : Nat} {T : Nat → Nat → Bool} {S : Nat → Nat → Int} {D SP : Nat → Int} {ap fi bk : Int}
/-- what the fewest bucketfuls are -/
def ANS (n : Nat) (T : Nat → Nat → Bool) (ap bk : Int) (D0 : Dp) (f z : Int) (r : Int32) (o : Option (List Int32)) : Prop :=
  (∃ i H M : Nat, i < 3000 ∧ i < cG n T bk D0 H M ∧ PP n T ap f z (Us n T bk D0 i) = true ∧ (∀ j, j < i → PP n T ap f z (Us n T bk D0 j) = false) ∧ r = iI (fr n T bk D0 i : Int) ∧ o = some (((pth n T bk D0 i).map eWy).take 10)) ∨
  (r = iI (-2) ∧ o = none ∧ ∃ c : Nat, c ≤ 3000 ∧ (∀ H M, cG n T bk D0 H M ≤ c) ∧ ∀ j, j < c → PP n T ap f z (Us n T bk D0 j) = false) ∨
  (r = iI (-3) ∧ o = none ∧ (∃ H M, 3000 < cG n T bk D0 H M) ∧ ∀ j, j < 3000 → PP n T ap f z (Us n T bk D0 j) = false)
theorem ANS_uni {D0 : Dp} {f z : Int} {r r' : Int32} {o o' : Option (List Int32)} (h : ANS n T ap bk D0 f z r o) (h' : ANS n T ap bk D0 f z r' o') : r' = r ∧ o' = o := by
  rcases h with ⟨i, H, M, a1, a2, a3, a4, rfl, rfl⟩ | ⟨rfl, rfl, c, a1, a2, a3⟩ | ⟨rfl, rfl, ⟨H, M, a1⟩, a2⟩ <;> rcases h' with ⟨i', H', M', b1, b2, b3, b4, rfl, rfl⟩ | ⟨rfl, rfl, c', b1, b2, b3⟩ | ⟨rfl, rfl, ⟨H', M', b1⟩, b2⟩
  · have : i' = i := by
      by_cases e1 : i' < i
      · rw [a4 i' e1] at b3; cases b3
      · by_cases e2 : i < i'
        · rw [b4 i e2] at a3; cases a3
        · omega
    subst this; exact ⟨rfl, rfl⟩
  · have := b2 H M
    rw [b3 i (by omega)] at a3; cases a3
  · rw [b2 i a1] at a3; cases a3
  · have := a2 H' M'
    rw [a3 i' (by omega)] at b3; cases b3
  · exact ⟨rfl, rfl⟩
  · have := a2 H' M'; omega
  · rw [a2 i' b1] at b3; cases b3
  · have := b2 H M; omega
  · exact ⟨rfl, rfl⟩
theorem W_prepareSearch (hv : CV n T S D SP ap fi bk) (hw : CW s n T S D SP ap fi bk) : ∃ t, fW_prepareSearch s = some t ∧ AH t n T S SP ap D ∧ Prd t n T bk ∧ Off KWq s t := by
  obtain ⟨t, e, hA, _⟩ := W_look hv hw
  have q := (hA.wq hv.2.2.2.2.1)
  have hwt := hw.wq q
  obtain ⟨u, e2, hp, o, _⟩ := Se_prepare hv.1 hwt.1 hwt.2.2.2.2.2.1
  unfold fW_prepareSearch
  rw [e, Option.bind_some, e2, Option.bind_some]
  refine ⟨u, rfl, AHl.of hA.1 (o.mono fun k j hk => ?_), hp, q.1.trans (o.mono fun k j hk => ?_)⟩
  · by_cases e : k = 23 ∨ k = 26 ∨ k = 27
    · rcases e with rfl | rfl | rfl <;> simp at hk
    · simp only [KS, Bool.or_eq_false_iff, beq_eq_false_iff_ne]; omega
  · simp only [KWq, KS, Bool.or_eq_false_iff, Bool.and_eq_false_iff, decide_eq_false_iff_not, beq_eq_false_iff_ne] at hk ⊢; omega
theorem W_fewestSuch (hv : CV n T S D SP ap fi bk) (hw : CW s n T S D SP ap fi bk) {f z : Int} (hf : f = -1 ∨ 0 ≤ f ∧ f < n) (hz : 0 ≤ z ∧ z ≤ 99) : ∃ r o t, fW_fewestSuch s (iI f) (iI z) = some (r, t) ∧ WQ s t o ∧ ANS n T ap bk D f z r o := by
  have hn := hv.1.1
  have hap : 0 ≤ ap ∧ ap ≤ 9 := by have := hv.2.2.2.2.2.1; omega
  obtain ⟨t, e, hA, hp, q⟩ := W_prepareSearch hv hw
  obtain ⟨u, D', hAu, hVu, ou, hcs⟩ := Se_firstSuch hv.1 hv.2.2.2.2.2.2.2 hv.2.1 hap hA hp hf hz
  have hq : WQ s u none := by
    refine ⟨q.trans (ou.mono fun k j hk => ?_), fun j hj => ?_⟩
    · simp only [KWq, KSe, Bool.or_eq_false_iff, Bool.and_eq_false_iff, decide_eq_false_iff_not, beq_eq_false_iff_ne] at hk ⊢; omega
    · rw [show u.1 14 = _ from hAu.2.2.2.2.1, show u.1 15 = _ from hAu.2.2.2.2.2]
      show iI (D' j) = iI 0 ∧ iI (SP j) = iI 0
      rw [hVu.2 j (by omega), hv.2.2.1 j hj, hv.2.2.2.2.1 j hj]; exact ⟨rfl, rfl⟩
  unfold fW_fewestSuch
  rw [e, Option.bind_some]
  rcases hcs with ⟨i, c, h, m, k1, k2, k3, e2, ⟨σ, hsw⟩, k4, k5⟩ | ⟨e2, c, k1, _, k3, k4⟩ | ⟨e2, ⟨h, m, k1⟩, k2⟩
  · obtain ⟨v, e3, ov, ov2, rv⟩ := Se_tellWay hv.1 hv.2.2.2.2.2.2.2 hv.2.1 k1 hsw k2
    rw [e2, Option.bind_some]
    dsimp only
    rw [if_pos (by rw [iI_le (by omega) (by omega) (by omega) (by omega)]; omega), e3, Option.bind_some]
    refine ⟨_, _, v, rfl, ?_, Or.inl ⟨i, h, m, k3, by omega, k4, k5, rfl, rfl⟩⟩
    refine ⟨(hq.1.mono fun k j hk => ?_).trans (ov.mono fun k j hk => ?_), fun j hj => ?_, rv, by simp; omega⟩
    · simp only [KWr, Bool.or_eq_false_iff] at hk; exact hk.1.1
    · simp only [KWr, KWq, KTw, Bool.or_eq_false_iff, Bool.and_eq_false_iff, decide_eq_false_iff_not, beq_eq_false_iff_ne] at hk ⊢; omega
    · rw [ov 14 j rfl, ov 15 j rfl]; exact hq.2 j hj
  · rw [e2, Option.bind_some]
    dsimp only
    rw [if_neg (by decide)]
    exact ⟨_, none, u, rfl, hq, Or.inr (Or.inl ⟨rfl, rfl, c, k1, k3, k4⟩)⟩
  · rw [e2, Option.bind_some]
    dsimp only
    rw [if_neg (by decide)]
    exact ⟨_, none, u, rfl, hq, Or.inr (Or.inr ⟨rfl, rfl, ⟨h, m, by omega⟩, k2⟩)⟩
end AN
