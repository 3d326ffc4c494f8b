section SZ
variable {s t : wM} {n : Nat} {T : Nat → Nat → Bool} {S : Nat → Nat → Int} {bk : Int} {D0 : Dp} {σ : Nat → Nat} {c : Nat}
theorem cG_end {h m : Nat} (hh : cG n T bk D0 h m ≤ h) (H M : Nat) : cG n T bk D0 H M ≤ cG n T bk D0 h m := by
  by_cases e : H < h
  · exact cG_mono (by omega)
  · have h0 : (bfs n T bk D0 h).length ≤ h := by rw [← cG_0]; exact Nat.le_trans (cG_mono (by omega)) hh
    have e1 := bfs_stop h0 (h := H) (by omega)
    have e2 : cG n T bk D0 H 0 = cG n T bk D0 h 0 := by rw [cG_0, cG_0, e1]
    have e3 : cG n T bk D0 h 0 ≤ cG n T bk D0 h m := cG_mono (by omega)
    rw [cG_idle (show cG n T bk D0 H 0 ≤ H by omega) (Nat.zero_le M), e2]; exact e3
theorem PT_end {h m : Nat} (hp : PT s n T bk D0 c h m) (hh : c ≤ h) (H M : Nat) : cG n T bk D0 H M ≤ c := by
  rcases hp.2.2.2.2 with e | ⟨_, e⟩
  · rw [e] at hh ⊢; exact cG_end hh H M
  · rw [e] at hh ⊢; exact cG_end hh H M
def N3 (s t : wM) : Prop := Off (fun k j => k == 23 && j == 3) s t ∧ t.2 = s.2
theorem N3.refl : N3 s s := ⟨Off.refl s, rfl⟩
theorem N3.trans {u : wM} (h : N3 s t) (h' : N3 t u) : N3 s u := ⟨h.1.trans h'.1, h'.2.trans h.2⟩
theorem N3.set {v : Int32} (h : N3 s t) : N3 s (wsI t 23 3 v) := ⟨h.1.set rfl, h.2⟩
theorem SW.n3 (h : SW s n T bk D0 σ c) (o : N3 s t) : SW t n T bk D0 σ c := h.of (o.1 _ _ rfl) (o.1 _ _ rfl) (o.1 _ _ rfl) (o.1.row fun j => rfl) (o.1.row fun j => rfl) o.2
/-- a way back to one found before -/
def cand (n : Nat) (T : Nat → Nat → Bool) (bk : Int) (D0 : Dp) (j q i : Nat) : Prop := i < j ∧ ∃ hq : q < (mvs n T).length, cc T bk (Us n T bk D0 j) (mvs n T)[q].1 (mvs n T)[q].2 = true ∧ wkey (Us n T bk D0 i) n = wkey (mv bk (Us n T bk D0 j) (mvs n T)[q].1 (mvs n T)[q].2) n
theorem Se_moveBack (hS : Cty n T S) (hbk : 1 ≤ bk ∧ bk ≤ 9) (h0 : Bd D0 0 99) {h m j : Nat} (hc : c ≤ cG n T bk D0 h m) (hw : SW s n T bk D0 σ c) (hj : 1 ≤ j) (hjc : j < c) : ∃ t q, ∃ hq : q < (mvs n T).length, fSe_moveBack s (iI (j : Int)) = some (iI (q : Int), t) ∧ N3 s t ∧ cc T bk (Us n T bk D0 j) (mvs n T)[q].1 (mvs n T)[q].2 = true ∧ mv bk (Us n T bk D0 j) (mvs n T)[q].1 (mvs n T)[q].2 = Us n T bk D0 (par n T bk D0 j) := by
  have hn := hS.1
  have hl := mvs_len hS
  have hc3 := hw.1
  have hvs : ∀ i, i < c → VS n D0 (Us n T bk D0 i) := fun i hi => (U_ok hS (by omega) h0 h m).1 i (by omega)
  unfold fSe_moveBack
  refine wh4_w (Q := fun y => ∃ t q, ∃ hq : q < (mvs n T).length, y = some (iI (q : Int), t) ∧ N3 s t ∧ cc T bk (Us n T bk D0 j) (mvs n T)[q].1 (mvs n T)[q].2 = true ∧ mv bk (Us n T bk D0 j) (mvs n T)[q].1 (mvs n T)[q].2 = Us n T bk D0 (par n T bk D0 j)) (fun mm x y z t => ∃ (p best : Nat), p ≤ (mvs n T).length ∧ best ≤ j ∧ y = iI (best : Int) ∧ z = iI (p : Int) ∧ N3 s t ∧ (best = j ∧ x = iI (-1) ∨ ∃ q : Nat, x = iI (q : Int) ∧ cand n T bk D0 j q best) ∧ (∀ q i, q < p → cand n T bk D0 j q i → best ≤ i) ∧ mm = 72 - p) ?_ 100000 72 _ _ _ _ (by omega) ⟨0, j, by omega, by omega, rfl, rfl, N3.refl, Or.inl ⟨rfl, rfl⟩, fun q i hq => absurd hq (by omega), rfl⟩
  rintro mm x y z t ⟨p, best, hp, hbest, rfl, rfl, ho, hx, hall, rfl⟩ k hk
  have hwt := hw.n3 ho
  have vj := hvs j hjc
  unfold fSe_moveBack_L7
  rw [hwt.2.2.1.1]
  by_cases c1 : p < (mvs n T).length
  · rw [if_neg (by rw [iI_le (by omega) (by omega) (by omega) (by omega)]; omega), chk_in (by omega) (by omega) (by omega), iI_natc (by omega), hwt.2.2.2.1 j hjc, Se_carried hS (by omega) hwt.2.2.1 vj c1, Option.bind_some]
    have skip : ∀ u, N3 s u → (∀ i, cand n T bk D0 j p i → best ≤ i) → ∃ t q, ∃ hq : q < (mvs n T).length, fSe_moveBack_J69 k (iI (j : Int)) x (iI (best : Int)) (iI (p : Int)) u = some (iI (q : Int), t) ∧ N3 s t ∧ cc T bk (Us n T bk D0 j) (mvs n T)[q].1 (mvs n T)[q].2 = true ∧ mv bk (Us n T bk D0 j) (mvs n T)[q].1 (mvs n T)[q].2 = Us n T bk D0 (par n T bk D0 j) := fun u hu hcu => by
      unfold fSe_moveBack_J69
      rw [iI_add]
      refine hk (72 - (p + 1)) _ _ _ _ (by omega) ⟨p + 1, best, by omega, hbest, rfl, by simp, hu, hx, fun q i hq hci => ?_, rfl⟩
      by_cases e : q = p
      · subst e; exact hcu i hci
      · exact hall q i (by omega) hci
    unfold fSe_moveBack_J49
    cases hcc : cc T bk (Us n T bk D0 j) (mvs n T)[p].1 (mvs n T)[p].2 with
    | false =>
      rw [if_pos (by simp [lg_m1']), if_pos rfl]
      refine skip t ho fun i hci => ?_
      obtain ⟨_, _, h3, _⟩ := hci
      rw [hcc] at h3; cases h3
    | true =>
      have hτv := (vj.mvd hS (by omega) hcc)
      have h63 := wkey_63 hn hτv.bn
      simp only [if_true]
      rw [if_neg (lg_m1 h63)]
      obtain ⟨v, ⟨i, hi, he, e3⟩ | ⟨hne, e3, _⟩⟩ := Se_indexOf hn (fun i hi => (hvs i hi).bn) hwt h63
      · rw [e3, Option.bind_some]
        dsimp only
        rw [if_neg (by rw [iI_eq (by omega) (by omega) (by omega) (by omega)]; omega)]
        have uniq : ∀ i', cand n T bk D0 j p i' → i' = i := fun i' hci => by
          obtain ⟨k1, _, _, k4⟩ := hci
          have hd := (U_ok hS (show 0 ≤ bk by omega) h0 h m).2
          rw [← he] at k4
          by_cases e1 : i' < i
          · exact absurd k4 (hd i' i e1 (by omega))
          · by_cases e2 : i < i'
            · exact absurd k4.symm (hd i i' e2 (by omega))
            · omega
        by_cases c2 : best ≤ i
        · rw [if_pos (by rw [iI_le (by omega) (by omega) (by omega) (by omega)]; omega)]
          exact skip _ ho.set fun i' hci => by rw [uniq i' hci]; exact c2
        · rw [if_neg (by rw [iI_le (by omega) (by omega) (by omega) (by omega)]; omega)]
          unfold fSe_moveBack_J69
          rw [iI_add]
          refine hk (72 - (p + 1)) _ _ _ _ (by omega) ⟨p + 1, i, by omega, by omega, rfl, by simp, ho.set, Or.inr ⟨p, rfl, by omega, c1, hcc, he⟩, fun q i' hq hci => ?_, rfl⟩
          by_cases e : q = p
          · subst e; rw [uniq i' hci]; exact Nat.le_refl _
          · have := hall q i' (by omega) hci; omega
      · rw [e3, Option.bind_some]
        dsimp only
        rw [if_pos rfl]
        refine skip _ ho.set fun i hci => ?_
        obtain ⟨h1, _, _, h4⟩ := hci
        exact absurd h4 (hne i (by omega))
  · rw [if_pos (by rw [iI_le (by omega) (by omega) (by omega) (by omega)]; omega)]
    obtain ⟨q0, hq0, hp0, t1, t2, _, _⟩ := par_turn hS hbk.1 h0 hj (show j < cG n T bk D0 h m by omega)
    have hle := hall q0 (par n T bk D0 j) (by omega) ⟨par_lt hj, hq0, t1, by rw [t2]⟩
    have hlt := par_lt (n := n) (T := T) (bk := bk) (D0 := D0) hj
    rcases hx with ⟨e, _⟩ | ⟨q, rfl, k1, hq, k3, k4⟩
    · omega
    · have := par_least hS hbk.1 h0 hj (show j < cG n T bk D0 h m by omega) hq k3 k1 k4
      have eb : best = par n T bk D0 j := by omega
      refine ⟨t, q, hq, rfl, ho, k3, ?_⟩
      rw [← eb]
      exact (VS_eq (hvs best (by omega)) (vj.mvd hS (by omega) k3) k4).symm
theorem Se_cameFrom (hS : Cty n T S) (hbk : 1 ≤ bk ∧ bk ≤ 9) (h0 : Bd D0 0 99) {h m j : Nat} (hc : c ≤ cG n T bk D0 h m) (hw : SW s n T bk D0 σ c) (hj : 1 ≤ j) (hjc : j < c) : ∃ t, fSe_cameFrom s (iI (j : Int)) = some (iI (par n T bk D0 j : Int), t) ∧ N3 s t := by
  have hn := hS.1
  have hl := mvs_len hS
  have hc3 := hw.1
  have hvs : ∀ i, i < c → VS n D0 (Us n T bk D0 i) := fun i hi => (U_ok hS (by omega) h0 h m).1 i (by omega)
  obtain ⟨t, q, hq, e, ho, k1, k2⟩ := Se_moveBack hS hbk h0 hc hw hj hjc
  have hlt := par_lt (n := n) (T := T) (bk := bk) (D0 := D0) hj
  have hwt := hw.n3 ho
  have vp := hvs (par n T bk D0 j) (by omega)
  unfold fSe_cameFrom fSe_cameFrom_J30
  rw [e, Option.bind_some]
  dsimp only
  rw [if_neg (by rw [iI_eq (by omega) (by omega) (by omega) (by omega)]; omega), chk_in (by omega) (by omega) (by omega), iI_natc (by omega), hwt.2.2.2.1 j hjc, Se_carried hS (by omega) hwt.2.2.1 (hvs j hjc) hq, Option.bind_some, if_pos k1, k2]
  obtain ⟨v, ⟨i, hi, he, e3⟩ | ⟨hne, e3, _⟩⟩ := Se_indexOf hn (fun i hi => (hvs i hi).bn) hwt (wkey_63 hn vp.bn)
  · rw [e3, Option.bind_some]
    refine ⟨wsI t 23 3 v, ?_, ho.set⟩
    have hd := (U_ok hS (show 0 ≤ bk by omega) h0 h m).2
    have : i = par n T bk D0 j := by
      by_cases e1 : i < par n T bk D0 j
      · exact absurd he (hd _ _ e1 (by omega))
      · by_cases e2 : par n T bk D0 j < i
        · exact absurd he.symm (hd _ _ e2 (by omega))
        · omega
    rw [this]
  · exact absurd rfl (hne _ (show par n T bk D0 j < c by omega))
theorem Se_stepsTo (hS : Cty n T S) (hbk : 1 ≤ bk ∧ bk ≤ 9) (h0 : Bd D0 0 99) {h m j : Nat} (hc : c ≤ cG n T bk D0 h m) (hw : SW s n T bk D0 σ c) (hjc : j < c) : ∃ t, fSe_stepsTo s (iI (j : Int)) = some (iI (fr n T bk D0 j : Int), t) ∧ N3 s t := by
  have hc3 := hw.1
  have hfj := fr_le (n := n) (T := T) (bk := bk) (D0 := D0) j
  unfold fSe_stepsTo
  refine wh3_w (Q := fun y => ∃ t, y = some (iI (fr n T bk D0 j : Int), t) ∧ N3 s t) (fun mm x y t => ∃ k i : Nat, x = iI (k : Int) ∧ y = iI (i : Int) ∧ i < c ∧ N3 s t ∧ k + fr n T bk D0 i = fr n T bk D0 j ∧ mm = i) ?_ 100000 j _ _ _ (by omega) ⟨0, j, rfl, rfl, hjc, N3.refl, by omega, rfl⟩
  rintro mm x y t ⟨k, i, rfl, rfl, hi, ho, hk, rfl⟩ kk hkk
  unfold fSe_stepsTo_L4 fSe_stepsTo_J27
  by_cases c1 : mm = 0
  · subst c1
    rw [if_pos (by rw [iI_le (by omega) (by omega) (by omega) (by omega)]; omega)]
    rw [fr_0] at hk
    exact ⟨t, by rw [← hk]; rfl, ho⟩
  · rw [if_neg (by rw [iI_le (by omega) (by omega) (by omega) (by omega)]; omega), if_neg (by rw [iI_le (by omega) (by omega) (by omega) (by omega)]; omega)]
    obtain ⟨u, e, hu⟩ := Se_cameFrom hS hbk h0 hc (hw.n3 ho) (show 1 ≤ mm by omega) hi
    have hlt := par_lt (n := n) (T := T) (bk := bk) (D0 := D0) (show 1 ≤ mm by omega)
    rw [e, Option.bind_some, iI_add]
    rw [fr_s (by omega)] at hk
    exact hkk (par n T bk D0 mm) _ _ _ hlt ⟨k + 1, _, by simp, rfl, by omega, ho.trans hu, by omega, rfl⟩
end SZ
