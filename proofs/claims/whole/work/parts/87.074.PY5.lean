section MX
variable {s t : wM} {n : Nat} {T : Nat → Nat → Bool} {S : Nat → Nat → Int} {bk : Int} {D0 : Dp} {σ : Nat → Nat} {c : Nat}
theorem M_findsAll (hS : Cty n T S) (hbk : 1 ≤ bk ∧ bk ≤ 9) (h0 : Bd D0 0 99) (hL : LM s n T S) (hr : s.1 168 2 = iI bk) {k X : Nat} (hX : X ≤ 100) (hk : ∀ j, j < n → s.1 k j = iI (D0 j)) (k1 : k ≠ 161) (k2 : k < 180 ∨ 183 < k) : ∃ t, Off KFu s t ∧ ((fM_findsAll s k (iI (X : Int)) = some (iI 1, t) ∧ ∃ σ, MT t n T bk D0 σ (Eb n T bk D0 (X + 1))) ∨ (fM_findsAll s k (iI (X : Int)) = some (iI 0, t) ∧ 3000 < Eb n T bk D0 (X + 1))) := by
  have hn := hS.1
  obtain ⟨t0, σ0, e0, mt0, f0, o0⟩ := M_findsFirst (T := T) (bk := bk) hn hL.1 hk (fun j _ => h0 j) k1 k2
  have E1 : Eb n T bk D0 (X + 1) = cG n T bk D0 (Eb n T bk D0 X) 0 := rfl
  unfold fM_findsAll
  rw [e0, Option.bind_some]
  refine wh2_w (Q := fun y => ∃ t, Off KFu s t ∧ ((y = some (iI 1, t) ∧ ∃ σ, MT t n T bk D0 σ (Eb n T bk D0 (X + 1))) ∨ (y = some (iI 0, t) ∧ 3000 < Eb n T bk D0 (X + 1)))) (fun m x t => ∃ i : Nat, i ≤ 3000 ∧ m = 3000 - i ∧ x = iI (i : Int) ∧ Off KFu s t ∧ ∃ σ, (t.1 161 35 = iI 0 ∧ MT t n T bk D0 σ (cG n T bk D0 (min i (Eb n T bk D0 X)) 0)) ∨ (t.1 161 35 = iI 1 ∧ MT t n T bk D0 σ 3000 ∧ 3000 < Eb n T bk D0 (X + 1))) ?_ 100000 3000 _ _ (by omega) ⟨0, by omega, rfl, rfl, KFi.fu o0, σ0, Or.inl ⟨f0, by rw [Nat.zero_min, cG_0]; exact mt0⟩⟩
  rintro m x t ⟨i, hi, rfl, rfl, ho, σ, hcs⟩ kk hkk
  unfold fM_findsAll_L7 fM_findsAll_J46 fM_findsAll_J58 fM_findsAll_J40
  rcases hcs with ⟨h35, hmt⟩ | ⟨h35, hmt, hbig⟩
  · have hc3 := hmt.1
    rw [hmt.2.1, h35]
    by_cases c1 : i < cG n T bk D0 (min i (Eb n T bk D0 X)) 0
    · rw [if_neg (by rw [iI_le (by omega) (by omega) (by omega) (by omega)]; omega), if_pos rfl, chk_in (by omega) (by omega) (by omega), iI_natc (by omega), hmt.2.2.2.1 i c1, iI_add]
      have hfl := fr_le (n := n) (T := T) (bk := bk) (D0 := D0) i
      by_cases c2 : X ≤ fr n T bk D0 i
      · have hE : Eb n T bk D0 X ≤ i := by
          by_cases e : i < Eb n T bk D0 X
          · have := fr_lt X e; omega
          · omega
        rw [if_pos (by rw [iI_le (by omega) (by omega) (by omega) (by omega)]; omega)]
        exact hkk (3000 - (i + 1)) _ _ (by omega) ⟨i + 1, by omega, rfl, by simp, ho, σ, Or.inl ⟨h35, by rw [show min (i + 1) (Eb n T bk D0 X) = min i (Eb n T bk D0 X) by omega]; exact hmt⟩⟩
      · have hE : i < Eb n T bk D0 X := by
          by_cases e : i < Eb n T bk D0 X
          · exact e
          · have := fr_ge X c1 (by omega); omega
        rw [if_neg (by rw [iI_le (by omega) (by omega) (by omega) (by omega)]; omega)]
        rw [show min i (Eb n T bk D0 X) = i by omega] at hmt c1 hc3
        obtain ⟨v, e1, ov, σ', hv⟩ := M_findsFrom hS hbk h0 (hL.fu ho) (by rw [ho 168 2 rfl]; exact hr) c1 (by omega) ⟨Off.refl t, σ, Or.inl ⟨h35, hmt⟩⟩
        rw [e1, Option.bind_some]
        refine hkk (3000 - (i + 1)) _ _ (by omega) ⟨i + 1, by omega, rfl, by simp, ho.trans ov, σ', ?_⟩
        rcases hv with ⟨v1, v2⟩ | ⟨v1, v2, v3⟩
        · left
          rw [show min (i + 1) (Eb n T bk D0 X) = i + 1 by omega, ← cG_M (Nat.le_refl _)]
          exact ⟨v1, v2⟩
        · right
          refine ⟨v1, v2, ?_⟩
          rw [E1]
          refine Nat.lt_of_lt_of_le v3 ?_
          by_cases e : i + 1 = Eb n T bk D0 X
          · rw [e]; exact Nat.le_refl _
          · exact cG_mono (by omega)
    · rw [if_pos (by rw [iI_le (by omega) (by omega) (by omega) (by omega)]; omega), if_pos rfl, chkZ_1]
      refine ⟨t, ho, Or.inl ⟨rfl, σ, ?_⟩⟩
      have : cG n T bk D0 (min i (Eb n T bk D0 X)) 0 = Eb n T bk D0 (X + 1) := by
        rw [E1]
        by_cases e : Eb n T bk D0 X ≤ i
        · rw [show min i (Eb n T bk D0 X) = Eb n T bk D0 X by omega]
        · rw [show min i (Eb n T bk D0 X) = i by omega] at c1 ⊢
          exact Nat.le_antisymm (cG_mono (by omega)) (cG_end (by omega) _ _)
      rw [← this]; exact hmt
  · rw [hmt.2.1, h35]
    by_cases c1 : i < 3000
    · rw [if_neg (by rw [iI_le (by omega) (by omega) (by omega) (by omega)]; omega), if_neg (by decide), if_neg (by decide), chkZ_0]
      exact ⟨t, ho, Or.inr ⟨rfl, hbig⟩⟩
    · rw [if_pos (by rw [iI_le (by omega) (by omega) (by omega) (by omega)]; omega), if_neg (by decide), chkZ_0]
      exact ⟨t, ho, Or.inr ⟨rfl, hbig⟩⟩
end MX
