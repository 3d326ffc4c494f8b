/-! night: what is carried -/
def crr (T : Nat → Nat → Bool) (bk : Int) (a b : Nat) : Nat → (Nat → Int) → Nat × (Nat → Int)
  | 0, D => (0, D)
  | m + 1, D => if cc T bk D a b = true then ((crr T bk a b m (mv bk D a b)).1 + 1, (crr T bk a b m (mv bk D a b)).2) else (0, D)
def nrn (T : Nat → Nat → Bool) (bk : Int) (g : Nat → Ln) : Nat → Nat → (Nat → Int) → Nat × (Nat → Int) × Bool
  | 0, _, D => (0, D, false)
  | r + 1, i, D => if (crr T bk (g i).1.toNat (g i).2.1.toNat (g i).2.2.toNat D).1 < (g i).2.2.toNat then ((crr T bk (g i).1.toNat (g i).2.1.toNat (g i).2.2.toNat D).1, (crr T bk (g i).1.toNat (g i).2.1.toNat (g i).2.2.toNat D).2, true) else ((crr T bk (g i).1.toNat (g i).2.1.toNat (g i).2.2.toNat D).1 + (nrn T bk g r (i + 1) (crr T bk (g i).1.toNat (g i).2.1.toNat (g i).2.2.toNat D).2).1, (nrn T bk g r (i + 1) (crr T bk (g i).1.toNat (g i).2.1.toNat (g i).2.2.toNat D).2).2)
section NC
variable {s t : wM} {n : Nat} {T : Nat → Nat → Bool} {S : Nat → Nat → Int} {D SP : Nat → Int} {ap fi bk : Int} {G : Nat → Int32} {w : Int32} {pl : List PI} {kp : Nat → KI} {tx : List Nat} {se : List (Nat × Nat)} {a b k : Nat} {g : Nat → Ln}
theorem crr_le : ∀ m D, (crr T bk a b m D).1 ≤ m
  | 0, D => Nat.le_refl 0
  | m + 1, D => by
    have := crr_le m (mv bk D a b)
    unfold crr
    split
    · show _ + 1 ≤ m + 1; omega
    · exact Nat.zero_le _
theorem crr_cv : ∀ m D, CV n T S D SP ap fi bk → CV n T S (crr T bk a b m D).2 SP ap fi bk
  | 0, D, h => h
  | m + 1, D, h => by
    unfold crr
    split
    · exact crr_cv m _ (mv_cv h (by assumption))
    · exact h
theorem nrn_cv : ∀ r i D, CV n T S D SP ap fi bk → CV n T S (nrn T bk g r i D).2.1 SP ap fi bk
  | 0, _, D, h => h
  | r + 1, i, D, h => by
    unfold nrn
    split
    · exact crr_cv _ _ h
    · exact nrn_cv r (i + 1) _ (crr_cv _ _ h)
theorem nrn_le (hg : ∀ i, i < k → nOK (g i)) : ∀ r i D, i + r = k → (nrn T bk g r i D).1 ≤ 9 * r
  | 0, _, D, h => Nat.le_refl 0
  | r + 1, i, D, h => by
    have h1 := crr_le (T := T) (bk := bk) (a := (g i).1.toNat) (b := (g i).2.1.toNat) (g i).2.2.toNat D
    have h2 := (hg i (by omega)).2.2
    have h3 := nrn_le hg r (i + 1) (crr T bk (g i).1.toNat (g i).2.1.toNat (g i).2.2.toNat D).2 (by omega)
    unfold nrn
    split
    · show (crr T bk (g i).1.toNat (g i).2.1.toNat (g i).2.2.toNat D).1 ≤ 9 * (r + 1); omega
    · show (crr T bk (g i).1.toNat (g i).2.1.toNat (g i).2.2.toNat D).1 + (nrn T bk g r (i + 1) (crr T bk (g i).1.toNat (g i).2.1.toNat (g i).2.2.toNat D).2).1 ≤ 9 * (r + 1); omega
/-! the class -/
theorem w2s {ρ A B : Type} {f : A → B → (A → B → Option ρ) → Option ρ} (n : Nat) (a : A) (b : B) : wh2 f (n + 1) a b = f a b (wh2 f n) := rfl
theorem cc_1 (h : cc T bk D a b = true) : bI (cc T bk D a b) = iI 1 := by rw [h]; rfl
theorem cc_0 (h : ¬ cc T bk D a b = true) : bI (cc T bk D a b) = iI 0 := by rw [Bool.eq_false_iff.mpr h]; rfl
theorem W_bringL (ha : a < 9) (hb : b < 9) {tm : Nat} (ht : tm ≤ 9) : ∀ r N i D s, r < N → i + r = tm → CV n T S D SP ap fi bk → CW s n T S D SP ap fi bk → wh2 (fW_bringTimes_L3 (iI (a : Int)) (iI (b : Int)) (iI (tm : Int))) N (iI (i : Int)) s = some (iI ((i + (crr T bk a b r D).1 : Nat) : Int), wRo s 8 (fun j => iI ((crr T bk a b r D).2 j)))
  | r, 0, i, D, s, h, _, _, _ => by omega
  | 0, N + 1, i, D, s, _, hi, hv, hw => by
    rw [w2s]
    unfold fW_bringTimes_L3 fW_bringTimes_J36
    rw [if_pos (by rw [iI_le (by omega) (by omega) (by omega) (by omega)]; omega), wR_id (F := fun j => iI ((crr T bk a b 0 D).2 j)) hw.2.1]
    rfl
  | r + 1, N + 1, i, D, s, h, hi, hv, hw => by
    have ih := fun c => W_bringL ha hb ht r N (i + 1) (mv bk D a b) (wRo s 8 (fun j => iI (mv bk D a b j))) (by omega) (by omega) (mv_cv hv c) hw.R8
    rw [w2s]
    generalize wh2 (fW_bringTimes_L3 (iI (a : Int)) (iI (b : Int)) (iI (tm : Int))) N = k2 at ih ⊢
    unfold fW_bringTimes_L3 fW_bringTimes_J36
    rw [if_neg (by rw [iI_le (by omega) (by omega) (by omega) (by omega)]; omega), Land_canCarry hv.1 hw.1 hw.2.1 hv.2.1 hw.2.2.2.2.2.1 hv.2.2.2.2.2.2.2 ha hb, Option.bind_some]
    unfold crr
    by_cases c : cc T bk D a b = true
    · have ih := ih c
      rw [wR_wR, show ((i + 1 : Nat) : Int) = (i : Int) + 1 by omega] at ih
      rw [cc_1 c, if_neg (by decide), Land_bring hw.2.1 hw.2.2.2.2.2.1 ha hb, Option.bind_some, if_pos c, iI_add, ih, show i + 1 + (crr T bk a b r (mv bk D a b)).1 = i + ((crr T bk a b r (mv bk D a b)).1 + 1) by omega]
    · rw [cc_0 c, if_pos (rfl : iI 0 = iI 0), if_neg c, wR_id (F := fun j => iI (D j)) hw.2.1]
      rfl
theorem W_nightL (hg : ∀ i, i < k → nOK (g i)) (hk : k ≤ 15) : ∀ r N i D s m, r + 1 < N → i + r = k → m ≤ 9 * i → CV n T S D SP ap fi bk → CW s n T S D SP ap fi bk → LLs s k g → wh4 fW_night_L48 N (iI 0) (iI (m : Int)) (iI (i : Int)) s = fW_night_J132 (bI (nrn T bk g r i D).2.2) (iI ((m + (nrn T bk g r i D).1 : Nat) : Int)) (wRo s 8 (fun j => iI ((nrn T bk g r i D).2.1 j)))
  | r, 0, i, D, s, m, h, _, _, _, _, _ => by omega
  | 0, N + 1, i, D, s, m, _, hi, hm, hv, hw, hl => by
    rw [wh4_s]
    unfold fW_night_L48
    rw [hl.1, if_pos (by rw [iI_le (by omega) (by omega) (by omega) (by omega)]; omega), wR_id (F := fun j => iI ((nrn T bk g 0 i D).2.1 j)) hw.2.1]
    rfl
  | r + 1, N + 1, i, D, s, m, h, hi, hm, hv, hw, hl => by
    obtain ⟨l4, l5, l6⟩ := hl.2 i (by omega)
    obtain ⟨o1, o2, o3⟩ := hg i (by omega)
    obtain ⟨a, ha⟩ : ∃ a : Nat, (g i).1 = a := ⟨(g i).1.toNat, by omega⟩
    obtain ⟨b, hb⟩ : ∃ b : Nat, (g i).2.1 = b := ⟨(g i).2.1.toNat, by omega⟩
    obtain ⟨c, hc⟩ : ∃ c : Nat, (g i).2.2 = c := ⟨(g i).2.2.toNat, by omega⟩
    rw [ha] at l4 o1
    rw [hb] at l5 o2
    rw [hc] at l6 o3
    have eb : fW_bringTimes s (iI (a : Int)) (iI (b : Int)) (iI (c : Int)) = _ := W_bringL (T := T) (bk := bk) (a := a) (b := b) (tm := c) (by omega) (by omega) (by omega) c 100000 0 D s (by omega) (by omega) hv hw
    have hle := crr_le (T := T) (bk := bk) (a := a) (b := b) c D
    have cv' := crr_cv (a := a) (b := b) c D hv
    have ih := fun y m' (hr : r + 1 < N) (hm' : m' ≤ 9 * (i + 1)) cv hl' => W_nightL hg hk r N (i + 1) y (wRo s 8 (fun j => iI (y j))) m' hr (by omega) hm' cv hw.R8 hl'
    have stop : ∀ x3 x4 u, wh4 fW_night_L48 N (iI 1) x3 x4 u = fW_night_J132 (iI 1) x3 u := fun x3 x4 u => by
      obtain ⟨N2, rfl⟩ : ∃ N2, N = N2 + 1 := ⟨N - 1, by omega⟩
      rw [wh4_s]
      generalize wh4 fW_night_L48 N2 = k3
      unfold fW_night_L48
      rw [if_neg (show ¬ iI 1 = iI 0 by decide), ite_self]
    rw [wh4_s]
    generalize wh4 fW_night_L48 N = k2 at ih stop ⊢
    unfold fW_night_L48 fW_night_J125
    rw [hl.1, if_neg (by rw [iI_le (by omega) (by omega) (by omega) (by omega)]; omega), if_pos (rfl : iI 0 = iI 0), chk_in (by omega) (by omega) (by omega), iI_natc (by omega), l4, l5, l6, eb, Option.bind_some]
    dsimp only
    rw [wR_ne (show (6 : Nat) ≠ 8 by decide), l6, iI_add, iI_add, Nat.zero_add]
    unfold nrn
    rw [ha, hb, hc, Int.toNat_natCast, Int.toNat_natCast, Int.toNat_natCast]
    generalize crr T bk a b c D = y at hle cv' ⊢
    by_cases c1 : y.1 < c
    · rw [if_neg (by rw [iI_le (by omega) (by omega) (by omega) (by omega)]; omega), if_pos c1, stop, bI_t, show ((m + y.1 : Nat) : Int) = (m : Int) + (y.1 : Int) by omega]
    · have hl' : LLs (wRo s 8 (fun j => iI (y.2 j))) k g := ⟨by rw [wR_ne (by decide)]; exact hl.1, fun i hi => by rw [wR_ne (by decide), wR_ne (by decide), wR_ne (by decide)]; exact hl.2 i hi⟩
      have ih := ih y.2 (m + y.1) (by omega) (by omega) cv' hl'
      rw [wR_wR, show ((m + y.1 : Nat) : Int) = (m : Int) + (y.1 : Int) by omega, show ((i + 1 : Nat) : Int) = (i : Int) + 1 by omega] at ih
      rw [if_pos (by rw [iI_le (by omega) (by omega) (by omega) (by omega)]; omega), if_neg c1]
      dsimp only
      rw [← Nat.add_assoc]
      exact ih
theorem W_nightEnd {nt c : Nat} {x : PI} {v : Bool} (hc : c ≤ 200) (hp : PaW s nt pl) (hl : pl.length ≤ 20) (hx : SnW s (36 + 5 * nt) x) : ∃ t, fW_night_J132 (bI v) (iI (c : Int)) s = some (iI (c : Int), t) ∧ (∃ nt', PaW t nt' (if c = 0 then pl else psh pl x)) ∧ RW t [bI v] ∧ Off (fun k _ => k == 32 || k == 33 || k == 34) s t := by
  have fin : ∀ u, Off (fun k _ => k == 34) s u → ∃ t, fW_night_J143 (bI v) (iI (c : Int)) u = some (iI (c : Int), t) ∧ RW t [bI v] ∧ Off KN u t := fun u _ => by
    unfold fW_night_J143 fW_night_J156
    obtain ⟨t, e, r, o⟩ := Num_tell (s := u) (v := bI v)
    refine ⟨t, ?_, r, o⟩
    cases v
    · have e' : fNum_tell u (iI 0) = some t := e
      rw [if_pos bI_f, e', Option.bind_some]
    · have e' : fNum_tell u (iI 1) = some t := e
      rw [if_neg (by decide), e', Option.bind_some]
  unfold fW_night_J132
  by_cases c0 : c = 0
  · obtain ⟨t, e, r, o⟩ := fin s (Off.refl s)
    rw [if_pos (by rw [iI_le (by omega) (by omega) (by omega) (by omega)]; omega), if_pos c0]
    exact ⟨t, e, ⟨nt, hp.of fun k j hk => o k j (by simp only [KN, Bool.or_eq_false_iff, beq_eq_false_iff_ne]; omega)⟩, r, o.mono fun k j hk => by simp only [KN, Bool.or_eq_false_iff] at hk ⊢; exact hk.1⟩
  · obtain ⟨u, eu, ⟨nt', pu⟩, ou⟩ := W_keep hp hl hx
    obtain ⟨t, e, r, o⟩ := fin u ou
    rw [if_neg (by rw [iI_le (by omega) (by omega) (by omega) (by omega)]; omega), if_neg c0, eu, Option.bind_some]
    refine ⟨t, e, ⟨nt', pu.of fun k j hk => o k j (by simp only [KN, Bool.or_eq_false_iff, beq_eq_false_iff_ne]; omega)⟩, r, (ou.mono fun k j hk => ?_).trans (o.mono fun k j hk => ?_)⟩
    · simp only [Bool.or_eq_false_iff] at hk ⊢; exact hk.2
    · simp only [KN, Bool.or_eq_false_iff] at hk ⊢; exact hk.1
/-! the reference -/
theorem M_bringL {kk : Int32 → Int32 → Int32 → wM → Option (Int32 × wM)} {i : Nat} (hi : i < 16) (ha : a < 9) (hb : b < 9) {tm : Nat} (ht : tm ≤ 9) : ∀ (r N j : Nat) (D : Nat → Int) (s : wM) (m : Nat), r + 1 < N → j + r = tm → s.1 175 i = iI (a : Int) → s.1 176 i = iI (b : Int) → s.1 177 i = iI (tm : Int) → CV n T S D SP ap fi bk → CM s n T S D SP ap fi bk → wh4 (fM_night_L108 kk (iI (i : Int))) N (iI (m : Int)) (iI 1) (iI (j : Int)) s = kk (iI ((m + (crr T bk a b r D).1 : Nat) : Int)) (bI (decide ((crr T bk a b r D).1 = r))) (iI ((i : Int) + 1)) (wRo s 163 (fun j => iI ((crr T bk a b r D).2 j)))
  | r, 0, j, D, s, m, h, _, _, _, _, _, _ => by omega
  | 0, N + 1, j, D, s, m, _, hj, h5, h6, h7, hv, hw => by
    rw [wh4_s]
    unfold fM_night_L108 fM_night_J214
    rw [chk_in (by omega) (by omega) (by omega), iI_natc (by omega), h7, if_pos (by rw [iI_le (by omega) (by omega) (by omega) (by omega)]; omega), iI_add, wR_id (F := fun j => iI ((crr T bk a b 0 D).2 j)) hw.2.1, bI_d (show (crr T bk a b 0 D).1 = 0 from rfl)]
    rfl
  | r + 1, N + 1, j, D, s, m, h, hj, h5, h6, h7, hv, hw => by
    have hn := hv.1.1
    have ih := fun c => M_bringL (kk := kk) hi ha hb ht r N (j + 1) (mv bk D a b) (wRo s 163 (fun j => iI (mv bk D a b j))) (m + 1) (by omega) (by omega) (by rw [wR_ne (by decide)]; exact h5) (by rw [wR_ne (by decide)]; exact h6) (by rw [wR_ne (by decide)]; exact h7) (mv_cv hv c) hw.R163
    have stop : ∀ x5 x8, wh4 (fM_night_L108 kk (iI (i : Int))) N x5 (iI 0) x8 s = kk x5 (iI 0) (iI ((i : Int) + 1)) s := fun x5 x8 => by
      obtain ⟨N2, rfl⟩ : ∃ N2, N = N2 + 1 := ⟨N - 1, by omega⟩
      rw [wh4_s]
      generalize wh4 (fM_night_L108 kk (iI (i : Int))) N2 = k3
      unfold fM_night_L108 fM_night_J214
      rw [chk_in (by omega) (by omega) (by omega), if_pos (rfl : iI 0 = iI 0), ite_self, iI_add]
    have e1 := M_areTwo (y := (a : Int)) (z := (b : Int)) hn hw.1 (by omega) (by omega) (by omega) (by omega)
    have e2 := M_canCarry hw.1 hw.2.1 hv.2.1 hw.2.2.2.2.2.1 hv.2.2.2.2.2.2.2 ha hb
    rw [wh4_s]
    generalize wh4 (fM_night_L108 kk (iI (i : Int))) N = k2 at ih stop ⊢
    have step : fM_night_L108 kk (iI (i : Int)) (iI (m : Int)) (iI 1) (iI (j : Int)) s k2 = if cc T bk D a b = true then fM_night_J176 kk k2 (iI (m : Int)) (iI (i : Int)) (iI (j : Int)) (iI 1) s else fM_night_J175 kk k2 (iI (m : Int)) (iI (i : Int)) (iI (j : Int)) s := by
      unfold fM_night_L108
      rw [chk_in (by omega) (by omega) (by omega), iI_natc (by omega), h7, h5, h6, if_neg (by rw [iI_le (by omega) (by omega) (by omega) (by omega)]; omega), if_neg (by decide), e1, Option.bind_some, e2, Option.bind_some]
      by_cases c : cc T bk D a b = true
      · have hne := cc_ne hv.1 c
        rw [bI_d (by omega), if_neg (by decide), cc_1 c, if_neg (by decide), if_pos c]
      · rw [cc_0 c, if_pos (rfl : iI 0 = iI 0), ite_self, if_neg c]
    rw [step]
    unfold crr
    by_cases c : cc T bk D a b = true
    · have ih := ih c
      rw [wR_wR, show ((m + 1 : Nat) : Int) = (m : Int) + 1 by omega, show ((j + 1 : Nat) : Int) = (j : Int) + 1 by omega] at ih
      rw [if_pos c, if_pos c]
      unfold fM_night_J176 fM_night_J208
      rw [if_neg (by decide), chk_in (by omega) (by omega) (by omega), iI_natc (by omega), h5, h6, M_carries (by decide) hw.2.1 hw.2.2.2.2.2.1 ha hb, Option.bind_some, iI_add, iI_add, ih]
      dsimp only
      rw [show m + 1 + (crr T bk a b r (mv bk D a b)).1 = m + ((crr T bk a b r (mv bk D a b)).1 + 1) by omega]
      by_cases c2 : (crr T bk a b r (mv bk D a b)).1 = r
      · rw [bI_d c2, bI_d (by omega)]
      · rw [bI_n c2, bI_n (by omega)]
    · rw [if_neg c, if_neg c]
      unfold fM_night_J175 fM_night_J176 fM_night_J208
      rw [if_pos (rfl : iI 0 = iI 0), stop]
      dsimp only
      rw [wR_id (F := fun j => iI (D j)) hw.2.1, bI_n (by omega)]
      rfl
theorem NCo.row8 {F : Nat → Int32} (h : NCo s k g) : NCo (wRo s 163 F) k g := ⟨by rw [wR_ne (by decide)]; exact h.1, fun i hi => by rw [wR_ne (by decide), wR_ne (by decide), wR_ne (by decide)]; exact h.2 i hi⟩
theorem M_nightL (hg : ∀ i, i < k → nOK (g i)) (hk : k ≤ 15) : ∀ r N i D s m, r + 1 < N → i + r = k → m ≤ 9 * i → CV n T S D SP ap fi bk → CM s n T S D SP ap fi bk → NCo s k g → wh4 fM_night_L91 N (iI (m : Int)) (iI 1) (iI (i : Int)) s = fM_night_J220 (iI ((m + (nrn T bk g r i D).1 : Nat) : Int)) (bI (!(nrn T bk g r i D).2.2)) (wRo s 163 (fun j => iI ((nrn T bk g r i D).2.1 j)))
  | r, 0, i, D, s, m, h, _, _, _, _, _ => by omega
  | 0, N + 1, i, D, s, m, _, hi, hm, hv, hw, hl => by
    rw [wh4_s]
    unfold fM_night_L91
    rw [hl.1, if_pos (by rw [iI_le (by omega) (by omega) (by omega) (by omega)]; omega), wR_id (F := fun j => iI ((nrn T bk g 0 i D).2.1 j)) hw.2.1]
    rfl
  | r + 1, N + 1, i, D, s, m, h, hi, hm, hv, hw, hl => by
    obtain ⟨l4, l5, l6⟩ := hl.2 i (by omega)
    obtain ⟨o1, o2, o3⟩ := hg i (by omega)
    obtain ⟨a, ha⟩ : ∃ a : Nat, (g i).1 = a := ⟨(g i).1.toNat, by omega⟩
    obtain ⟨b, hb⟩ : ∃ b : Nat, (g i).2.1 = b := ⟨(g i).2.1.toNat, by omega⟩
    obtain ⟨c, hc⟩ : ∃ c : Nat, (g i).2.2 = c := ⟨(g i).2.2.toNat, by omega⟩
    rw [ha] at l4 o1
    rw [hb] at l5 o2
    rw [hc] at l6 o3
    have hle := crr_le (T := T) (bk := bk) (a := a) (b := b) c D
    have cv' := crr_cv (a := a) (b := b) c D hv
    obtain ⟨N2, rfl⟩ : ∃ N2, N = N2 + 1 := ⟨N - 1, by omega⟩
    have eb : wh4 (fM_night_L108 (wh4 fM_night_L91 (N2 + 1)) (iI (i : Int))) 100000 (iI (m : Int)) (iI 1) (iI 0) s = _ := M_bringL (T := T) (bk := bk) (a := a) (b := b) (tm := c) (i := i) (by omega) (by omega) (by omega) (by omega) c 100000 0 D s m (by omega) (by omega) l4 l5 l6 hv hw
    rw [wh4_s]
    unfold nrn
    rw [ha, hb, hc, Int.toNat_natCast, Int.toNat_natCast, Int.toNat_natCast]
    generalize crr T bk a b c D = y at hle cv' eb ⊢
    have step : fM_night_L91 (iI (m : Int)) (iI 1) (iI (i : Int)) s (wh4 fM_night_L91 (N2 + 1)) = wh4 (fM_night_L108 (wh4 fM_night_L91 (N2 + 1)) (iI (i : Int))) 100000 (iI (m : Int)) (iI 1) (iI 0) s := by
      generalize wh4 fM_night_L91 (N2 + 1) = k2
      unfold fM_night_L91
      rw [hl.1, if_neg (by rw [iI_le (by omega) (by omega) (by omega) (by omega)]; omega), if_neg (by decide)]
    rw [step, eb]
    by_cases c1 : y.1 < c
    · rw [bI_n (by omega), wh4_s, if_pos c1]
      generalize wh4 fM_night_L91 N2 = k2
      unfold fM_night_L91
      rw [if_pos rfl, ite_self]
      rfl
    · have ih := M_nightL hg hk r (N2 + 1) (i + 1) y.2 (wRo s 163 (fun j => iI (y.2 j))) (m + y.1) (by omega) (by omega) (by omega) cv' hw.R163 hl.row8
      rw [wR_wR, show ((i + 1 : Nat) : Int) = (i : Int) + 1 by omega] at ih
      rw [bI_d (by omega), if_neg c1]
      dsimp only
      rw [← Nat.add_assoc]
      exact ih
theorem M_nightEnd {c : Nat} {x : PI} {v : Bool} (hc : c ≤ 200) (hp : PaM s pl) (hl : pl.length ≤ 20) (hx : SnM s pl.length x) : ∃ t, fM_night_J220 (iI (c : Int)) (bI (!v)) s = some (iI (c : Int), t) ∧ PaM t (if c = 0 then pl else psh pl x) ∧ RM t [bI v] ∧ Off (fun k j => k == 162 || k == 174 || k == 161 && (j == 1 || j == 20)) s t := by
  have fin : ∀ u, ∃ t, fM_night_J229 (iI (c : Int)) (bI (!v)) u = some (iI (c : Int), t) ∧ RM t [bI v] ∧ Off KMn u t := fun u => by
    unfold fM_night_J229 fM_night_J245
    obtain ⟨t, e, r, o⟩ := M_tell1 (t := u) (v := bI v)
    refine ⟨t, ?_, r, o⟩
    have f1 : fM_flag (wsI u 161 1 (iI 0)) (iI 1) = some (iI 1) := rfl
    have f0 : fM_flag (wsI u 161 1 (iI 0)) (iI 0) = some (iI 0) := rfl
    rw [nmM_e]
    cases v
    · have e' : fM_enters (wsI u 161 1 (iI 0)) (iI 0) = some t := e
      rw [if_neg (by decide), f0, Option.bind_some, e', Option.bind_some]
    · have e' : fM_enters (wsI u 161 1 (iI 0)) (iI 1) = some t := e
      rw [if_pos (show bI (!true) = iI 0 from rfl), f1, Option.bind_some, e', Option.bind_some]
  unfold fM_night_J220
  by_cases c0 : c = 0
  · obtain ⟨t, e, r, o⟩ := fin s
    rw [if_pos (by rw [iI_le (by omega) (by omega) (by omega) (by omega)]; omega), if_pos c0]
    refine ⟨t, e, hp.of (o 161 20 rfl) (o.row fun j => rfl), r, o.mono fun k j hk => ?_⟩
    simp only [KMn, Bool.or_eq_false_iff, Bool.and_eq_false_iff, beq_eq_false_iff_ne] at hk ⊢; omega
  · obtain ⟨u, eu, pu, ou⟩ := M_adds hp hl hx
    obtain ⟨t, e, r, o⟩ := fin u
    rw [if_neg (by rw [iI_le (by omega) (by omega) (by omega) (by omega)]; omega), if_neg c0, eu, Option.bind_some]
    refine ⟨t, e, pu.of (o 161 20 rfl) (o.row fun j => rfl), r, (ou.mono fun k j hk => ?_).trans (o.mono fun k j hk => ?_)⟩
    · simp only [Bool.or_eq_false_iff, Bool.and_eq_false_iff, beq_eq_false_iff_ne] at hk ⊢; omega
    · simp only [KMn, Bool.or_eq_false_iff, Bool.and_eq_false_iff, beq_eq_false_iff_ne] at hk ⊢; omega
end NC
