section SG
variable {s t u : wM} {n : Nat} {T : Nat → Nat → Bool} {S S' : Nat → Nat → Int} {D D' SP SP' : Nat → Int} {ap ap' fi bk : Int} {se : List (Nat × Nat)}
def K164 : Nat → Nat → Bool := fun k j => KMq k j || k == 164
theorem MA.q {t : wM} (h : MA s t n T S SP ap D) : Off KMq s t := h.2.2.2.2.1.mono fun k j hk => by
  simp only [KMq, KT, Bool.or_eq_false_iff, Bool.and_eq_false_iff, decide_eq_false_iff_not, beq_eq_false_iff_ne] at hk ⊢; omega
theorem CM.setSP {f : Nat} {v : Int} (h : CM u n T S D SP ap fi bk) : CM (wsI u 164 f (iI v)) n T S D (uI SP f v) ap fi bk := by
  obtain ⟨h1, h2, h3, h4, h5, h6, h7⟩ := h
  refine ⟨h1.of (by rw [rd_ne (by decide)]) (rd_ne (by decide)) (rd_ne (by decide)), h2.of (rd_ne (by decide)), ?_, ?_, ?_, ?_, fun j hj => ?_⟩
  · rw [wsI_R h3]; exact wR_Rw
  · rw [rd_ne (by decide)]; exact h4
  · rw [rd_ne (by decide)]; exact h5
  · rw [rd_ne (by decide)]; exact h6
  · rw [rd_ne (by decide), rd_ne (by decide)]; exact h7 j hj
theorem CV.setSP {f : Nat} {v : Int} (h : CV n T S D SP ap fi bk) (hf : f < 9) (hv : 0 ≤ v ∧ v ≤ 9) : CV n T S D (uI SP f v) ap fi bk := ⟨h.1, h.2.1, h.2.2.1, uI_bd h.2.2.2.1 hv, uI_Z9 h.2.2.2.2.1 hf, h.2.2.2.2.2⟩
theorem SeM.of' (h : SeM s se) (o : Off K164 s t) : SeM t se := ⟨by rw [o 161 43 rfl]; exact h.1, fun i hi => by rw [o 191 i rfl, o 192 i rfl]; exact h.2 i hi⟩
def spB (n : Nat) (T : Nat → Nat → Bool) (S : Nat → Nat → Int) (SP : Nat → Int) (ap : Int) (se : List (Nat × Nat)) (D : Nat → Int) (f : Nat) : Nat → Bool := fun v => hol n T S (uI SP f (v : Int)) ap se D
theorem W_springs (hv : CV n T S D SP ap fi bk) (hw : CW s n T S D SP ap fi bk) (hse : SeV se) (hs : SeW s se) {f : Int} (h1 : -2147483648 ≤ f) (h2 : f ≤ 2147483647) : ∃ s', fW_springs s (iI f) = some (iI (if 0 ≤ f ∧ f < n then ((bt (spB n T S SP ap se D f.toNat) 10 : Nat) : Int) else -1), s') ∧ WQ s s' none := by
  have hn := hv.1.1
  have hap : 0 ≤ ap ∧ ap ≤ 9 := by have := hv.2.2.2.2.2.1; omega
  unfold fW_springs
  rw [Land_has hn hw.1 h1 h2, Option.bind_some]
  simp only [bI_0, decide_eq_false_iff_not]
  by_cases c1 : 0 ≤ f ∧ f < n
  · obtain ⟨a, rfl⟩ : ∃ g : Nat, f = g := ⟨f.toNat, by omega⟩
    obtain ⟨t, e, hA, _⟩ := W_look hv hw
    rw [if_neg (by simpa using c1), if_pos c1, e, Option.bind_some]
    simp only [Int.toNat_natCast]
    refine wh3_w (Q := fun x => ∃ s', x = some (iI ((bt (spB n T S SP ap se D a) 10 : Nat) : Int), s') ∧ WQ s s' none) (fun m x y u => ∃ i : Nat, i ≤ 10 ∧ m = 10 - i ∧ x = iI ((bt (spB n T S SP ap se D a) i : Nat) : Int) ∧ y = iI (i : Int) ∧ ∃ D' v, WBd s u n T S (uI SP a v) ap D') ?_ 100000 10 _ _ _ (by omega) ⟨0, by omega, rfl, rfl, rfl, D, SP a, by rw [uI_id]; exact hA.b⟩
    rintro m x y u ⟨i, g1, rfl, rfl, rfl, D', v, hu⟩ c hc
    unfold fW_springs_L28 fW_springs_J77
    by_cases hi : i < 10
    · rw [if_neg (by rw [iI_lt (by omega) (by omega) (by omega) (by omega)]; omega)]
      obtain ⟨t1, e1, hA1, h8, _⟩ := W_rewind hu hw.2.1 hv.2.1 hv.2.2.1
      rw [e1, Option.bind_some, chk_in (by omega) (by omega) (by omega), iI_natc (by omega)]
      simp only [nmM]
      have hA2 := W_setSP (f := a) (v := (i : Int)) hA1 h8
      rw [uI_uI] at hA2
      have hvi := hv.setSP (f := a) (v := (i : Int)) (by omega) (by omega)
      obtain ⟨t3, D3, e3, hA3⟩ := Si_hold hv.1 hvi.2.2.2.1 hap hA2 hse hs
      rw [e3, Option.bind_some, shl1 (by omega)]
      simp only [bI_0, iI_add]
      have hk := hc (10 - (i + 1)) (iI ((bt (spB n T S SP ap se D a) (i + 1) : Nat) : Int)) (iI ((i : Int) + 1)) t3 (by omega) ⟨i + 1, by omega, rfl, rfl, by simp, D3, _, hA3.b⟩
      rw [← bt_or (by omega)] at hk
      cases hh : hol n T S (uI SP a (i : Int)) ap se D
      · rw [if_pos rfl]; rw [if_neg (by show ¬ hol n T S (uI SP a (i : Int)) ap se D = true; rw [hh]; decide)] at hk; exact hk
      · rw [if_neg (by decide)]; rw [if_pos (by show hol n T S (uI SP a (i : Int)) ap se D = true; rw [hh])] at hk; exact hk
    · have : i = 10 := by omega
      subst this
      rw [if_pos (by decide)]
      have hvi : Z9 (uI SP a v) := uI_Z9 hv.2.2.2.2.1 (by omega)
      exact ⟨u, rfl, hu.wq hvi⟩
  · rw [if_pos c1, if_neg c1]
    exact ⟨s, rfl, WQ.refl hw.2.2.2.2.2.2⟩
theorem M_springs (hv : CV n T S D SP ap fi bk) (hm : CM s n T S D SP ap fi bk) (hse : SeV se) (hs : SeM s se) {f : Int} (h1 : -2147483648 ≤ f) (h2 : f ≤ 2147483647) : ∃ s', fM_springs s (iI f) = some (iI (if 0 ≤ f ∧ f < n then ((bt (spB n T S SP ap se D f.toNat) 10 : Nat) : Int) else -1), s') ∧ MQn s s' none := by
  have hn := hv.1.1
  have hap : 0 ≤ ap ∧ ap ≤ 9 := by have := hv.2.2.2.2.2.1; omega
  have hm1 := hm.thr (v := iI 0)
  have hz := hm.2.2.2.2.2.2
  unfold fM_springs
  simp only [nmM]
  rw [M_isFarm hn hm1.1 h1 h2, Option.bind_some]
  simp only [bI_0, decide_eq_false_iff_not]
  by_cases c1 : 0 ≤ f ∧ f < n
  · obtain ⟨a, rfl⟩ : ∃ g : Nat, f = g := ⟨f.toNat, by omega⟩
    rw [if_neg (by simpa using c1), if_pos c1, chk_in (by omega) (by omega) (by omega), iI_natc (by omega), show (wsI s 161 0 (iI 0)).1 164 = _ from hm1.2.2.1]
    simp only [Int.toNat_natCast]
    refine wh3_w (Q := fun x => ∃ s', x = some (iI ((bt (spB n T S SP ap se D a) 10 : Nat) : Int), s') ∧ MQn s s' none) (fun m x y u => ∃ i : Nat, i ≤ 10 ∧ m = 10 - i ∧ x = iI ((bt (spB n T S SP ap se D a) i : Nat) : Int) ∧ y = iI (i : Int) ∧ ∃ v, CM u n T S D (uI SP a v) ap fi bk ∧ Off K164 s u) ?_ 100000 10 _ _ _ (by omega) ⟨0, by omega, rfl, rfl, rfl, SP a, by rw [uI_id]; exact hm1, (Off.refl s).set rfl⟩
    rintro m x y u ⟨i, g1, rfl, rfl, rfl, v, hu, ho⟩ c hc
    unfold fM_springs_L27 fM_springs_J62
    by_cases hi : i < 10
    · rw [if_neg (by rw [iI_lt (by omega) (by omega) (by omega) (by omega)]; omega), chk_in (by omega) (by omega) (by omega), iI_natc (by omega)]
      simp only [nmM]
      have hu1 := hu.setSP (f := a) (v := (i : Int))
      rw [uI_uI] at hu1
      have hvi := hv.setSP (f := a) (v := (i : Int)) (by omega) (by omega)
      have ho1 : Off K164 s (wsI u 164 a (iI (i : Int))) := ho.set rfl
      obtain ⟨t1, e1, hA1⟩ := M_start hvi hu1
      obtain ⟨t3, D3, e3, hA3⟩ := M_isSo hv.1 hvi.2.2.2.1 hap hA1 hse (hs.of' ho1)
      rw [e1, Option.bind_some, e3, Option.bind_some, shl1 (by omega)]
      simp only [bI_0, iI_add]
      have hk := hc (10 - (i + 1)) (iI ((bt (spB n T S SP ap se D a) (i + 1) : Nat) : Int)) (iI ((i : Int) + 1)) t3 (by omega) ⟨i + 1, by omega, rfl, rfl, by simp, _, hu1.ma hA3, ho1.trans (hA3.q.mono fun k j hk => by simp only [K164, Bool.or_eq_false_iff] at hk; exact hk.1)⟩
      rw [← bt_or (by omega)] at hk
      cases hh : hol n T S (uI SP a (i : Int)) ap se D
      · rw [if_pos rfl]; rw [if_neg (by show ¬ hol n T S (uI SP a (i : Int)) ap se D = true; rw [hh]; decide)] at hk; exact hk
      · rw [if_neg (by decide)]; rw [if_pos (by show hol n T S (uI SP a (i : Int)) ap se D = true; rw [hh])] at hk; exact hk
    · have : i = 10 := by omega
      subst this
      rw [if_pos (by decide), chk_in (by omega) (by omega) (by omega), iI_natc (by omega)]
      simp only [nmM]
      have hu1 := hu.setSP (f := a) (v := SP a)
      rw [uI_uI, uI_id] at hu1
      refine ⟨_, rfl, fun k j hk => ?_, hu1.2.2.2.2.2.2⟩
      by_cases e : k = 164
      · subst e; rw [show (wsI u 164 a (iI (SP a))).1 164 = _ from hu1.2.2.1, show s.1 164 = _ from hm.2.2.1]
      · rw [rd_ne e]; exact ho k j (by simp [K164, hk, e])
  · rw [if_pos c1, if_neg c1]
    exact ⟨_, rfl, MQn.thr hz⟩
/-! boon -/
def bs (v : Nat → Nat) : Nat → Int × Nat
  | 0 => (-1, 0)
  | i + 1 => if (bs v i).2 < v i then ((i : Int), v i) else bs v i
theorem bs_ok (v : Nat → Nat) (hv : ∀ i, 1 ≤ v i ∧ v i ≤ 101) : ∀ i, (i = 0 ∧ (bs v i).1 = -1 ∧ (bs v i).2 = 0) ∨ (0 < i ∧ 0 ≤ (bs v i).1 ∧ (bs v i).1 < i ∧ 1 ≤ (bs v i).2 ∧ (bs v i).2 ≤ 101)
  | 0 => Or.inl ⟨rfl, rfl, rfl⟩
  | i + 1 => by
    right
    have h1 := hv i
    unfold bs
    rcases bs_ok v hv i with h | h
    · rw [if_pos (by omega)]; simp only; omega
    · split
      · simp only; omega
      · omega
def bv (n : Nat) (T : Nat → Nat → Bool) (S : Nat → Nat → Int) (SP : Nat → Int) (ap : Int) (D : Nat → Int) : Nat → Nat := fun f => lastV n T S (uI SP f (min 9 (SP f + 1))) ap D + 1
theorem bv_ok (n : Nat) (T : Nat → Nat → Bool) (S : Nat → Nat → Int) (SP : Nat → Int) (ap : Int) (D : Nat → Int) (f : Nat) : 1 ≤ bv n T S SP ap D f ∧ bv n T S SP ap D f ≤ 101 := by
  have : lastV n T S (uI SP f (min 9 (SP f + 1))) ap D ≤ 100 := ff_le _ _
  unfold bv; omega
def tld (v : Nat) : Int := if v ≤ 100 then (v : Int) else -2
theorem W_told {v : Nat} (h : v ≤ 101) : fW_weeksTold s (iI (v : Int)) = some (iI (tld v)) := by
  unfold fW_weeksTold fW_weeksTold_J12 tld
  by_cases h1 : v ≤ 100
  · rw [if_pos (by rw [iI_le (by omega) (by omega) (by omega) (by omega)]; omega), if_pos h1]
  · rw [if_neg (by rw [iI_le (by omega) (by omega) (by omega) (by omega)]; omega), if_neg h1]
theorem W_boon (hv : CV n T S D SP ap fi bk) (hw : CW s n T S D SP ap fi bk) : ∃ s', fW_boon s = some (iI (if n = 0 then -2 else (bs (bv n T S SP ap D) n).1), s') ∧ WQ s s' (if n = 0 then none else some [iI (tld (bs (bv n T S SP ap D) n).2), iI (tld (lastV n T S SP ap D + 1))]) := by
  have hn := hv.1.1
  have hap : 0 ≤ ap ∧ ap ≤ 9 := by have := hv.2.2.2.2.2.1; omega
  unfold fW_boon
  rw [hw.1.1]
  by_cases c0 : n = 0
  · rw [if_pos (by rw [c0]; rfl), if_pos c0, if_pos c0]
    exact ⟨s, rfl, WQ.refl hw.2.2.2.2.2.2⟩
  · rw [if_neg (by rw [iI_eq (by omega) (by omega) (by omega) (by omega)]; omega), if_neg c0, if_neg c0]
    obtain ⟨t, e, hA, _⟩ := W_look hv hw
    obtain ⟨t', D', e2, hA'⟩ := Ah_lasting hv.1 hv.2.2.2.1 hap hA
    rw [e, Option.bind_some, e2, Option.bind_some]
    dsimp only
    have hlv : lastV n T S SP ap D ≤ 100 := ff_le _ _
    refine wh4_w (Q := fun x => ∃ s', x = some (iI (bs (bv n T S SP ap D) n).1, s') ∧ WQ s s' (some [iI (tld (bs (bv n T S SP ap D) n).2), iI (tld (lastV n T S SP ap D + 1))])) (fun m x y z u => ∃ i : Nat, i ≤ n ∧ m = n - i ∧ x = iI (bs (bv n T S SP ap D) i).1 ∧ y = iI ((bs (bv n T S SP ap D) i).2 : Int) ∧ z = iI (i : Int) ∧ ∃ D', WBd s u n T S SP ap D') ?_ 100000 n _ _ _ _ (by omega) ⟨0, by omega, rfl, rfl, rfl, rfl, D', hA'.b⟩
    rintro m x y z u ⟨i, g1, rfl, rfl, rfl, rfl, D1, hu⟩ c hc
    unfold fW_boon_L39 fW_boon_J129 fW_boon_J135
    have hbs := bs_ok _ (bv_ok n T S SP ap D) i
    rw [hu.2.1 7 4 rfl, hw.1.1]
    by_cases hi : i < n
    · have b1 := hv.2.2.2.1 i
      rw [if_neg (by rw [iI_le (by omega) (by omega) (by omega) (by omega)]; omega)]
      obtain ⟨t1, e1, hA1, h8, _⟩ := W_rewind hu hw.2.1 hv.2.1 hv.2.2.1
      rw [e1, Option.bind_some, chk_in (by omega) (by omega) (by omega), iI_natc (by omega), hA1.2.2.1.row (k := 9) (fun j => rfl), show s.1 9 = _ from hw.2.2.1, iI_add, iMin_i (by omega) (by omega) (by omega) (by omega)]
      simp only [nmM]
      have hA2 := W_setSP (f := i) (v := min 9 (SP i + 1)) hA1 h8
      have hvi := hv.setSP (f := i) (v := min 9 (SP i + 1)) (by omega) (by omega)
      obtain ⟨t3, D3, e3, hA3⟩ := Ah_lasting hv.1 hvi.2.2.2.1 hap hA2
      rw [e3, Option.bind_some]
      dsimp only
      rw [hA3.2.2.1.row (k := 9) (fun j => rfl), show s.1 9 = _ from hw.2.2.1]
      have hvb := bv_ok n T S SP ap D i
      rw [show ((lastV n T S (uI SP i (min 9 (SP i + 1))) ap D : Int) + 1) = ((bv n T S SP ap D i : Nat) : Int) by unfold bv; omega]
      generalize hq : wsI t3 15 i (iI (SP i)) = t4
      have hA4 : ∃ D', WBd s t4 n T S SP ap D' := ⟨D3, by
        have := hA3.b.setSP (f := i) (v := SP i)
        rw [uI_uI, uI_id, hq] at this; exact this⟩
      have hk := hc (n - (i + 1)) _ _ _ t4 (by omega) ⟨i + 1, by omega, rfl, rfl, rfl, rfl, hA4⟩
      rw [iI_add]
      by_cases hx : (bs (bv n T S SP ap D) i).2 < bv n T S SP ap D i
      · simp only [bs, if_pos hx] at hk
        by_cases h0 : (bs (bv n T S SP ap D) i).1 = -1
        · rw [if_pos (by rw [h0])]; exact hk
        · rw [if_neg (by rw [iI_eq (by omega) (by omega) (by omega) (by omega)]; exact h0), if_neg (by rw [iI_le (by omega) (by omega) (by omega) (by omega)]; omega)]; exact hk
      · simp only [bs, if_neg hx] at hk
        rw [if_neg (by rw [iI_eq (by omega) (by omega) (by omega) (by omega)]; omega), if_pos (by rw [iI_le (by omega) (by omega) (by omega) (by omega)]; omega)]; exact hk
    · have : i = n := by omega
      subst this
      rw [if_pos (by rw [iI_le (by omega) (by omega) (by omega) (by omega)]; omega), W_told (by omega), Option.bind_some]
      obtain ⟨u1, u2, k1, k2, k3, k4, k5⟩ := W_tell2 (t := u) (v := iI (tld (bs (bv i T S SP ap D) i).2)) (w := iI (tld (lastV i T S SP ap D + 1)))
      rw [k1, Option.bind_some, show ((lastV i T S SP ap D : Int) + 1) = ((lastV i T S SP ap D + 1 : Nat) : Int) by omega, W_told (by omega), Option.bind_some, k2, Option.bind_some]
      exact ⟨u2, rfl, (hu.wq hv.2.2.2.2.1).row k4 k3 (by simp)⟩
end SG
