section MY
variable {s t : wM} {n : Nat} {T : Nat → Nat → Bool} {S : Nat → Nat → Int} {bk : Int} {D0 : Dp} {σ : Nat → Nat} {c : Nat}
theorem getD_mid {α : Type} {l r : List α} {x d : α} {k : Nat} (h : l.length = k) : (l ++ ([x] ++ r)).getD k d = x := by
  rw [List.getD_eq_getElem?_getD, List.getElem?_append_right (by omega), show k - l.length = 0 by omega]; rfl
def KTm : Nat → Nat → Bool := fun k j => k == 185 || ((k == 161 && j == 1) || k == 162)
theorem KMn.tm (h : Off KMn s t) : Off KTm s t := h.mono fun k j hk => by unfold KTm at hk; rw [Bool.or_eq_false_iff] at hk; exact hk.2
theorem M_tellsWay (h : MT s n T bk D0 σ c) {j : Nat} (hjc : j < c) : ∃ t, fM_tellsWay s (iI (j : Int)) = some (iI (fr n T bk D0 j : Int), t) ∧ RM t (((pth n T bk D0 j).map eWy).take 10) ∧ Off KTm s t := by
  obtain ⟨hc, h1, h2, h4, h5, h6, h7, h8⟩ := h
  have hfj := fr_le (n := n) (T := T) (bk := bk) (D0 := D0) j
  have hlen : (pth n T bk D0 j).length = fr n T bk D0 j := rfl
  unfold fM_tellsWay
  rw [chk_in (by omega) (by omega) (by omega), iI_natc (by omega), h4 j hjc, iI_sub]
  refine wh3_w (Q := fun y => ∃ t, y = some (iI (fr n T bk D0 j : Int), t) ∧ RM t (((pth n T bk D0 j).map eWy).take 10) ∧ Off KTm s t) (fun m x z t => ∃ (i q : Nat) (rest : List (Nat × Nat)), m = q ∧ x = iI (i : Int) ∧ z = iI ((q : Int) - 1) ∧ i < c ∧ fr n T bk D0 i = q ∧ q ≤ fr n T bk D0 j ∧ pth n T bk D0 j = pth n T bk D0 i ++ rest ∧ (∀ z, q ≤ z → z < fr n T bk D0 j → t.1 185 z = eWy ((pth n T bk D0 j).getD z (0, 0))) ∧ Off KTm s t ∨ q = 0 ∧ m = 0 ∧ z = iI ((q : Int) - 1) ∧ (∀ z, z < fr n T bk D0 j → t.1 185 z = eWy ((pth n T bk D0 j).getD z (0, 0))) ∧ Off KTm s t) ?_ 100000 (fr n T bk D0 j) _ _ _ (by omega) ⟨j, _, [], Or.inl ⟨rfl, rfl, rfl, hjc, rfl, Nat.le_refl _, by simp, fun z a b => by omega, Off.refl s⟩⟩
  rintro m x z t ⟨i, q, rest, hcs⟩ kk hkk
  unfold fM_tellsWay_L14
  have last : (∀ z, z < fr n T bk D0 j → t.1 185 z = eWy ((pth n T bk D0 j).getD z (0, 0))) → Off KTm s t → ∃ t', wh2 (fM_tellsWay_L53 (iI (fr n T bk D0 j : Int))) 100000 (iI 0) (wsI t 161 1 (iI 0)) = some (iI (fr n T bk D0 j : Int), t') ∧ RM t' (((pth n T bk D0 j).map eWy).take 10) ∧ Off KTm s t' := fun hrow ho => by
    refine wh2_w (Q := fun y => ∃ t', y = some (iI (fr n T bk D0 j : Int), t') ∧ RM t' (((pth n T bk D0 j).map eWy).take 10) ∧ Off KTm s t') (fun m x u => ∃ z : Nat, z ≤ fr n T bk D0 j ∧ z ≤ 10 ∧ m = 10 - z ∧ x = iI (z : Int) ∧ RM u (((pth n T bk D0 j).map eWy).take z) ∧ Off KTm s u ∧ u.1 185 = t.1 185) ?_ 100000 10 _ _ (by omega) ⟨0, by omega, by omega, rfl, rfl, M_rows0, ho.set rfl, rd_ne (by decide)⟩
    rintro m x u ⟨z, hz1, hz2, rfl, rfl, hr, hou, h185⟩ k2 hk2
    unfold fM_tellsWay_L53 fM_tellsWay_J83
    by_cases c1 : z < fr n T bk D0 j
    · rw [if_neg (by rw [iI_le (by omega) (by omega) (by omega) (by omega)]; omega)]
      by_cases c2 : z < 10
      · have hl : (((pth n T bk D0 j).map eWy).take z).length < 24 := by simp; omega
        obtain ⟨v, e, rv, ov⟩ := M_enters (v := u.1 185 z) hr hl
        rw [if_neg (by rw [iI_le (by omega) (by omega) (by omega) (by omega)]; omega), chk_in (by omega) (by omega) (by omega), iI_natc (by omega), e, Option.bind_some, iI_add]
        refine hk2 (10 - (z + 1)) _ _ (by omega) ⟨z + 1, by omega, by omega, rfl, by simp, ?_, hou.trans (KMn.tm ov), (ov.row fun j => rfl).trans h185⟩
        have hzl : z < ((pth n T bk D0 j).map eWy).length := by rw [List.length_map]; omega
        rw [List.take_succ_eq_append_getElem hzl]
        have : u.1 185 z = ((pth n T bk D0 j).map eWy)[z] := by
          rw [h185, hrow z c1, List.getElem_map, List.getD_eq_getElem?_getD, List.getElem?_eq_getElem (by omega)]; rfl
        rw [← this]; exact rv
      · rw [if_pos (by rw [iI_le (by omega) (by omega) (by omega) (by omega)]; omega)]
        have : z = 10 := by omega
        subst this
        exact ⟨u, rfl, hr, hou⟩
    · rw [if_pos (by rw [iI_le (by omega) (by omega) (by omega) (by omega)]; omega)]
      refine ⟨u, rfl, ?_, hou⟩
      rw [List.take_of_length_le (by rw [List.length_map]; omega)] at hr
      rw [List.take_of_length_le (by rw [List.length_map]; omega)]; exact hr
  rcases hcs with ⟨rfl, rfl, rfl, hi, hq, hqj, hpt, hrow, ho⟩ | ⟨rfl, rfl, rfl, hrow, ho⟩
  · by_cases c1 : m = 0
    · subst c1
      rw [if_pos (by rw [iI_lt (by omega) (by omega) (by omega) (by omega)]; omega), nmM_e]
      exact last (fun z hz => hrow z (Nat.zero_le _) hz) ho
    · have hi1 : 1 ≤ i := by
        by_cases e : i = 0
        · subst e; rw [fr_0] at hq; omega
        · omega
      have hlt := par_lt (n := n) (T := T) (bk := bk) (D0 := D0) hi1
      obtain ⟨r1, r2⟩ := h5 i hi1 hi
      have hfs := fr_s (n := n) (T := T) (bk := bk) (D0 := D0) hi1
      have hps := pth_s (n := n) (T := T) (bk := bk) (D0 := D0) hi1
      rw [if_neg (by rw [iI_lt (by omega) (by omega) (by omega) (by omega)]; omega), chk_in (by omega) (by omega) (by omega), show (m : Int) - 1 = ((m - 1 : Nat) : Int) by omega, chk_in (by omega) (by omega) (by omega), nmM_e, iI_natc (by omega), iI_natc (by omega), rd_ne (by decide), ho 181 i rfl, ho 180 i rfl, r1, r2, iI_add]
      refine hkk (m - 1) _ _ _ (by omega) ⟨par n T bk D0 i, m - 1, (mvs n T).getD (pm n T bk D0 i) (0, 0) :: rest, Or.inl ⟨rfl, rfl, iI_congr (by omega), by omega, by omega, by omega, ?_, fun z hz1 hz2 => ?_, ho.set rfl⟩⟩
      · rw [hpt, hps, List.append_assoc]; rfl
      · by_cases e : z = m - 1
        · subst e
          rw [rd_at, hpt, hps, List.append_assoc]
          refine congrArg eWy ?_
          exact (getD_mid (by show fr n T bk D0 (par n T bk D0 i) = _; omega)).symm
        · rw [rd_of e]; exact hrow z (by omega) hz2
  · rw [if_pos (by rw [iI_lt (by omega) (by omega) (by omega) (by omega)]; omega), nmM_e]
    exact last hrow ho
end MY
