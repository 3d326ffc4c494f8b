section MU
variable {s t : wM} {n : Nat} {T : Nat → Nat → Bool} {S : Nat → Nat → Int} {bk : Int} {D0 : Dp} {σ : Nat → Nat} {c : Nat}
def KU : Nat → Nat → Bool := fun k j => k == 184 && decide (j < 9)
theorem M_unpacks (hn : n ≤ 9) (h3 : s.1 161 3 = iI (n : Int)) {i : Nat} (hi : i < 3000) {u : Dp} (hu : Bn n u) (hk : s.2 179 i = lNn (mkey u n)) : ∃ t, fM_unpacks s (iI (i : Int)) = some t ∧ (∀ j, j < n → t.1 184 j = iI (u j)) ∧ Off KU s t ∧ t.2 = s.2 := by
  unfold fM_unpacks
  rw [chk_in (by omega) (by omega) (by omega), iI_natc (by omega), hk, h3, iI_sub]
  refine wh3_w (Q := fun y => ∃ t, y = some t ∧ (∀ j, j < n → t.1 184 j = iI (u j)) ∧ Off KU s t ∧ t.2 = s.2) (fun mm x z t => ∃ k : Nat, k ≤ n ∧ mm = k ∧ x = lNn (mkey u k) ∧ z = iI ((k : Int) - 1) ∧ (∀ j, k ≤ j → j < n → t.1 184 j = iI (u j)) ∧ Off KU s t ∧ t.2 = s.2) ?_ 100000 n _ _ _ (by omega) ⟨n, Nat.le_refl _, rfl, rfl, rfl, fun j h1 h2 => by omega, Off.refl s, rfl⟩
  rintro mm x z t ⟨k, hk, rfl, rfl, rfl, hj, ho, h2⟩ kk hkk
  unfold fM_unpacks_L15
  by_cases c1 : mm = 0
  · subst c1
    rw [if_pos (by rw [iI_lt (by omega) (by omega) (by omega) (by omega)]; omega)]
    exact ⟨t, rfl, fun j hjn => hj j (Nat.zero_le _) hjn, ho, h2⟩
  · obtain ⟨q, rfl⟩ : ∃ q, mm = q + 1 := ⟨mm - 1, by omega⟩
    have hq := hu q (by omega)
    have h63 := mkey_63 (D := u) (n := q + 1) (by omega) fun j hj => hu j (by omega)
    have hs : mkey u (q + 1) = mkey u q * 128 + (u q).toNat := rfl
    rw [if_neg (by rw [iI_lt (by omega) (by omega) (by omega) (by omega)]; omega), show ((q + 1 : Nat) : Int) - 1 = (q : Int) by omega, chk_in (by omega) (by omega) (by omega), nmM_e, iI_natc (by omega), l127 h63, lto32, show iI (7 : Int) = iI ((7 : Nat) : Int) from rfl, lShr_n (by omega) h63, iI_add, show mkey u (q + 1) % 128 = (u q).toNat by omega, show ((u q).toNat : Int) = u q by omega, show mkey u (q + 1) / 2 ^ 7 = mkey u q by rw [hs]; omega]
    refine hkk q _ _ _ (by omega) ⟨q, by omega, rfl, rfl, rfl, fun j h1 h3 => ?_, ho.set (by simp [KU]; omega), h2⟩
    by_cases e : j = q
    · subst e; rw [rd_at]
    · rw [rd_of e]; exact hj j (by omega) h3
def KFi : Nat → Nat → Bool := fun k j => (k == 161 && (j == 34 || j == 35)) || k == 180 || k == 181 || k == 182 || k == 183
/-- one more depth is told: known, or too many, or new -/
theorem M_finds (hn : n ≤ 9) (h3 : s.1 161 3 = iI (n : Int)) (hb : ∀ i, i < c → Bn n (Us n T bk D0 i)) (h : MT s n T bk D0 σ c) {k : Nat} {u : Dp} (hu : Bn n u) (hk : ∀ j, j < n → s.1 k j = iI (u j)) {x2 x3 : Int32} {L : Nat} (hL : L ≤ 3000) (hcL : c ≤ L) (hnew : (∀ i, i < c → mkey (Us n T bk D0 i) n ≠ mkey u n) → c < L → mkey (Us n T bk D0 c) n = mkey u n ∧ (c = 0 ∧ x2 = iI (-1) ∨ 1 ≤ c ∧ x2 = iI (par n T bk D0 c : Int) ∧ x3 = eWy ((mvs n T).getD (pm n T bk D0 c) (0, 0)))) : ((∃ i, i < c ∧ mkey (Us n T bk D0 i) n = mkey u n) ∧ fM_finds s k x2 x3 (iI (L : Int)) = some s) ∨ (∀ i, i < c → mkey (Us n T bk D0 i) n ≠ mkey u n) ∧ ((c = L ∧ fM_finds s k x2 x3 (iI (L : Int)) = some (wsI s 161 35 (iI 1))) ∨ (c < L ∧ ∃ t σ', fM_finds s k x2 x3 (iI (L : Int)) = some t ∧ MT t n T bk D0 σ' (c + 1) ∧ t.1 161 35 = s.1 161 35 ∧ Off KFi s t)) := by
  have h63 := mkey_63 hn hu
  obtain ⟨p, hp, e1, hcs⟩ := M_slotOf hn hb h h63
  obtain ⟨hc, h1, h2, h4, h5, h6, h7, h8⟩ := h
  have hsp := h7.1 p
  unfold fM_finds
  rw [M_packed hn h3 hk hu, Option.bind_some, e1, Option.bind_some, chk_in (by omega) (by omega) (by omega), iI_natc (by omega), h6 p hp]
  rcases hcs with ⟨i, hi, k1, k2⟩ | ⟨k1, k2, d, hd, hpd, k3⟩
  · left
    rw [if_neg (by rw [iI_lt (by omega) (by omega) (by omega) (by omega)]; omega)]
    exact ⟨⟨i, hi, k2⟩, rfl⟩
  · right
    refine ⟨k2, ?_⟩
    rw [if_pos (by rw [iI_lt (by omega) (by omega) (by omega) (by omega)]; omega), h1]
    by_cases c1 : c = L
    · left
      rw [if_pos (by rw [c1]), nmM_e]
      exact ⟨c1, rfl⟩
    · right
      obtain ⟨n1, n2⟩ := hnew k2 (by omega)
      refine ⟨by omega, ?_⟩
      rw [← n1] at hpd k3
      have hA := HT_add h7 hd (by rw [← hpd ()]; exact k1) k3
      rw [← hpd ()] at hA
      have J : ∀ (q : wM) (v0 : Int32), q.1 161 34 = iI (c : Int) → q.1 161 35 = s.1 161 35 → (∀ i, i < c → q.1 182 i = s.1 182 i) → (∀ i, i < c → q.1 180 i = s.1 180 i ∧ q.1 181 i = s.1 181 i) → q.1 180 c = x2 → q.1 181 c = x3 → q.1 183 = s.1 183 → (∀ i, i < c → q.2 179 i = s.2 179 i) → q.2 179 c = lNn (mkey u n) → v0 = iI (fr n T bk D0 c : Int) → Off KFi s q → ∃ t σ', fM_finds_J96 (iI (p : Int)) v0 (iI (c : Int)) q = some t ∧ MT t n T bk D0 σ' (c + 1) ∧ t.1 161 35 = s.1 161 35 ∧ Off KFi s t := by
        intro q v0 q1 q2 q3 q4 q5 q6 q7 q8 q9 q10 qo
        unfold fM_finds_J96
        rw [chk_in (by omega) (by omega) (by omega), nmM_e, iI_natc (by omega), chk_in (by omega) (by omega) (by omega), nmM_e, iI_natc (by omega), nmM_e, rd_ne (by decide), q1, rd_ne (by decide), rd_ne (by decide), q1, iI_add]
        refine ⟨_, fun z => if z = p then c + 1 else σ z, rfl, ⟨by omega, by rw [rd_at]; simp, fun i hi => ?_, fun i hi => ?_, fun i hi1 hi => ?_, fun z hz => ?_, hA, fun _ => ?_⟩, ?_, ?_⟩
        · rw [rd_2, rd_2, rd_2]
          by_cases e : i = c
          · subst e; rw [q9, n1]
          · rw [q8 i (by omega)]; exact h2 i (by omega)
        · rw [rd_ne (by decide), rd_ne (by decide)]
          by_cases e : i = c
          · subst e; rw [rd_at, q10]
          · rw [rd_of e, q3 i (by omega)]; exact h4 i (by omega)
        · rw [rd_ne (by decide), rd_ne (by decide), rd_ne (by decide)]
          rw [show (wsI (wsI (wsI q 182 c v0) 183 p (iI (c : Int))) 161 34 (iI ((c : Int) + 1))).1 181 i = q.1 181 i by rw [rd_ne (by decide), rd_ne (by decide), rd_ne (by decide)]]
          by_cases e : i = c
          · subst e
            rw [q5, q6]
            rcases n2 with ⟨z1, _⟩ | ⟨_, z2, z3⟩
            · omega
            · exact ⟨z2, z3⟩
          · rw [(q4 i (by omega)).1, (q4 i (by omega)).2]; exact h5 i hi1 (by omega)
        · rw [rd_ne (by decide)]
          dsimp only
          by_cases e : z = p
          · subst e; rw [rd_at, if_pos rfl]; exact iI_congr (by omega)
          · rw [rd_of e, rd_ne (by decide), q7, h6 z hz, if_neg e]
        · rw [rd_ne (by decide), rd_ne (by decide), rd_ne (by decide)]
          by_cases e : c = 0
          · subst e
            rw [q5]
            rcases n2 with ⟨_, z1⟩ | ⟨z1, _⟩
            · exact z1
            · omega
          · rw [(q4 0 (by omega)).1]; exact h8 (by omega)
        · rw [rd_of (by decide), rd_ne (by decide), rd_ne (by decide)]; exact q2
        · exact ((qo.set rfl).set rfl).set rfl
      rw [if_neg (by rw [iI_eq (by omega) (by omega) (by omega) (by omega)]; omega), chk_in (by omega) (by omega) (by omega), nmM_e, iI_natc (by omega), rd_L, h1, chk_in (by omega) (by omega) (by omega), nmM_e, iI_natc (by omega), rd_ne (by decide), rd_L, h1, chk_in (by omega) (by omega) (by omega), nmM_e, iI_natc (by omega)]
      have J' := fun v0 hv => J (wsI (wsI (wsL s 179 c (lNn (mkey u n))) 180 c x2) 181 c x3) v0 (by rw [rd_ne (by decide), rd_ne (by decide), rd_L]; exact h1) (by rw [rd_ne (by decide), rd_ne (by decide), rd_L]) (fun i hi => by rw [rd_ne (by decide), rd_ne (by decide), rd_L]) (fun i hi => ⟨by rw [rd_ne (by decide), rd_of (by omega), rd_L], by rw [rd_of (by omega), rd_ne (by decide), rd_L]⟩) (by rw [rd_ne (by decide), rd_at]) rd_at (by rw [rd_ne (by decide), rd_ne (by decide), rd_L]) (fun i hi => by rw [rd_2, rd_2, wsL_of (by omega)]) (by rw [rd_2, rd_2, wsL_atp]) hv ((((Off.refl s).setL).set rfl).set rfl)
      have hq34 : (wsI (wsI (wsL s 179 c (lNn (mkey u n))) 180 c x2) 181 c x3).1 161 34 = iI (c : Int) := by rw [rd_ne (by decide), rd_ne (by decide), rd_L]; exact h1
      rw [hq34]
      rcases n2 with ⟨z1, rfl⟩ | ⟨z1, rfl, _⟩
      · rw [if_neg (by decide)]
        exact J' _ (by rw [z1, fr_0]; rfl)
      · have hpl := par_lt (n := n) (T := T) (bk := bk) (D0 := D0) z1
        rw [if_pos (by rw [iI_le (by omega) (by omega) (by omega) (by omega)]; omega), chk_in (by omega) (by omega) (by omega), iI_natc (by omega), rd_ne (by decide), rd_ne (by decide), rd_L, h4 _ (by omega), iI_add]
        exact J' _ (by rw [fr_s z1]; simp)
end MU
