section BO
variable {s t u : wM} {n : Nat} {T : Nat → Nat → Bool} {S S' : Nat → Nat → Int} {D D' SP SP' : Nat → Int} {ap ap' fi bk : Int} {se : List (Nat × Nat)}
theorem CM.kq (h : CM s n T S D SP ap fi bk) (o : Off KMr s t) (z : ZM t) : CM t n T S D SP ap fi bk := by
  have z0 := h.2.2.2.2.2.2
  refine h.of fun k j hk => ?_
  by_cases h9 : (k = 184 ∨ k = 187) ∧ 9 ≤ j
  · obtain ⟨rfl | rfl, h9⟩ := h9
    · rw [(z j h9).1, (z0 j h9).1]
    · rw [(z j h9).2, (z0 j h9).2]
  · exact o.atM (by omega)
theorem CM.kn (h : CM s n T S D SP ap fi bk) (o : Off KMn s t) : CM t n T S D SP ap fi bk := h.of fun k j hk => o k j (by simp only [KMn, Bool.or_eq_false_iff, Bool.and_eq_false_iff, beq_eq_false_iff_ne]; omega)
theorem tld_s {v : Nat} (h : v ≤ 100) : (if v < 100 then (v : Int) + 1 else -2) = tld (v + 1) := by
  unfold tld
  by_cases h1 : v < 100
  · rw [if_pos h1, if_pos (by omega)]; omega
  · rw [if_neg h1, if_neg (by omega)]
theorem M_asMany {v : Nat} (h : v ≤ 101) (h1 : 1 ≤ v) : fM_asMany s (iI (tld v)) = some (iI (v : Int)) := by
  unfold fM_asMany fM_asMany_J10 tld
  by_cases h1 : v ≤ 100
  · rw [if_pos h1, if_pos (by rw [iI_le (by omega) (by omega) (by omega) (by omega)]; omega)]
  · rw [if_neg h1, if_neg (by decide)]
    rw [show v = 101 by omega]; rfl
theorem M_boon (hv : CV n T S D SP ap fi bk) (hm : CM s n T S D SP ap fi bk) : ∃ s', fM_boon s = some (iI (if n = 0 then -2 else (bs (bv n T S SP ap D) n).1), s') ∧ MQn s s' (if n = 0 then none else some [iI (tld (bs (bv n T S SP ap D) n).2), iI (tld (lastV n T S SP ap D + 1))]) := by
  have hn := hv.1.1
  have hm1 := hm.thr (v := iI 0)
  have hz := hm.2.2.2.2.2.2
  unfold fM_boon
  simp only [nmM]
  rw [hm1.1.1]
  by_cases c0 : n = 0
  · rw [if_pos (by rw [c0]; rfl), if_pos c0, if_pos c0]
    exact ⟨_, rfl, MQn.thr hz⟩
  · rw [if_neg (by rw [iI_eq (by omega) (by omega) (by omega) (by omega)]; omega), if_neg c0, if_neg c0]
    have hlv : lastV n T S SP ap D ≤ 100 := ff_le _ _
    refine wh4_w (Q := fun x => ∃ s', x = some (iI (bs (bv n T S SP ap D) n).1, s') ∧ MQn s s' (some [iI (tld (bs (bv n T S SP ap D) n).2), iI (tld (lastV n T S SP ap D + 1))])) (fun m x y z u => ∃ i : Nat, i ≤ n ∧ m = n - i ∧ x = iI (if i = 0 then 0 else (bs (bv n T S SP ap D) i).1) ∧ y = iI ((bs (bv n T S SP ap D) i).2 : Int) ∧ z = iI (i : Int) ∧ CM u n T S D SP ap fi bk ∧ Off K164 s u) ?_ 100000 n _ _ _ _ (by omega) ⟨0, by omega, rfl, rfl, rfl, rfl, hm1, (Off.refl s).set rfl⟩
    rintro m x y z u ⟨i, g1, rfl, rfl, rfl, rfl, hu, ho⟩ c hc
    unfold fM_boon_L21 fM_boon_J80
    have hbs := bs_ok _ (bv_ok n T S SP ap D) i
    rw [hu.1.1]
    by_cases hi : i < n
    · have b1 := hv.2.2.2.1 i
      rw [if_neg (by rw [iI_le (by omega) (by omega) (by omega) (by omega)]; omega), chk_in (by omega) (by omega) (by omega), iI_natc (by omega), show u.1 164 = _ from hu.2.2.1, iI_add, iMin_i (by omega) (by omega) (by omega) (by omega)]
      have hu1 := hu.setSP (f := i) (v := min 9 (SP i + 1))
      have hvi := hv.setSP (f := i) (v := min 9 (SP i + 1)) (by omega) (by omega)
      obtain ⟨t3, D3, e3, hA3⟩ := M_lastsNow hvi hu1
      simp only [nmM]
      rw [e3, Option.bind_some]
      dsimp only
      have hvb := bv_ok n T S SP ap D i
      rw [tld_s (show lastV n T S (uI SP i (min 9 (SP i + 1))) ap D ≤ 100 from ff_le _ _), show lastV n T S (uI SP i (min 9 (SP i + 1))) ap D + 1 = bv n T S SP ap D i from rfl, M_asMany hvb.2 hvb.1, Option.bind_some]
      have hu3 := (hu1.ma hA3).setSP (f := i) (v := SP i)
      rw [uI_uI, uI_id] at hu3
      have ho3 : Off K164 s (wsI t3 164 i (iI (SP i))) := ((ho.set rfl).trans (hA3.q.mono fun k j hk => by simp only [K164, Bool.or_eq_false_iff] at hk; exact hk.1)).set rfl
      have hk := hc (n - (i + 1)) _ _ _ (wsI t3 164 i (iI (SP i))) (by omega) ⟨i + 1, by omega, rfl, rfl, rfl, rfl, hu3, ho3⟩
      rw [iMax_i (by omega) (by omega) (by omega) (by omega), iI_add]
      rw [if_neg (by omega : ¬ i + 1 = 0)] at hk
      by_cases hx : (bs (bv n T S SP ap D) i).2 < bv n T S SP ap D i
      · simp only [bs, if_pos hx] at hk
        rw [if_neg (by rw [iI_le (by omega) (by omega) (by omega) (by omega)]; omega), show max ((bs (bv n T S SP ap D) i).2 : Int) ((bv n T S SP ap D i : Nat) : Int) = ((bv n T S SP ap D i : Nat) : Int) by omega]; exact hk
      · simp only [bs, if_neg hx] at hk
        rw [if_pos (by rw [iI_le (by omega) (by omega) (by omega) (by omega)]; omega), show max ((bs (bv n T S SP ap D) i).2 : Int) ((bv n T S SP ap D i : Nat) : Int) = ((bs (bv n T S SP ap D) i).2 : Int) by omega, if_neg (show ¬ i = 0 by omega)]; exact hk
    · have : i = n := by omega
      subst this
      rw [if_pos (by rw [iI_le (by omega) (by omega) (by omega) (by omega)]; omega)]
      simp only [nmM]
      have e1 : (if iI ((bs (bv i T S SP ap D) i).2 : Int) ≤ iI 100 then fM_boon_J112 (iI (if i = 0 then 0 else (bs (bv i T S SP ap D) i).1)) (iI ((bs (bv i T S SP ap D) i).2 : Int)) (wsI u 161 1 (iI 0)) else fM_boon_J112 (iI (if i = 0 then 0 else (bs (bv i T S SP ap D) i).1)) (iI (-2)) (wsI u 161 1 (iI 0))) = fM_boon_J112 (iI (bs (bv i T S SP ap D) i).1) (iI (tld (bs (bv i T S SP ap D) i).2)) (wsI u 161 1 (iI 0)) := by
        unfold tld
        rw [if_neg c0]
        by_cases h : (bs (bv i T S SP ap D) i).2 ≤ 100
        · rw [if_pos (by rw [iI_le (by omega) (by omega) (by omega) (by omega)]; omega), if_pos h]
        · rw [if_neg (by rw [iI_le (by omega) (by omega) (by omega) (by omega)]; omega), if_neg h]
      rw [e1]
      unfold fM_boon_J112
      obtain ⟨u1, k1, k2, k3⟩ := M_tell1 (t := u) (v := iI (tld (bs (bv i T S SP ap D) i).2))
      rw [k1, Option.bind_some]
      have hu1 := hu.kn k3
      obtain ⟨t3, D3, e3, hA3⟩ := M_lastsNow hv hu1
      rw [e3, Option.bind_some]
      dsimp only
      rw [tld_s hlv]
      have r3 : RM t3 [iI (tld (bs (bv i T S SP ap D) i).2)] := k2.of (hA3.2.2.2.2.1 161 1 rfl) (hA3.2.2.2.2.1.row fun j => rfl)
      obtain ⟨u2, e4, r4, o4⟩ := M_enters (v := iI (tld (lastV i T S SP ap D + 1))) r3 (by simp)
      rw [e4, Option.bind_some]
      refine ⟨u2, rfl, fun k j hk => ?_, fun j hj => ?_, r4⟩
      · have hkn : KMn k j = false := by simp only [KMr, Bool.or_eq_false_iff] at hk; simp only [KMn, Bool.or_eq_false_iff]; exact ⟨hk.1.2, hk.2⟩
        have hkq : KMq k j = false := by simp only [KMr, Bool.or_eq_false_iff] at hk; exact hk.1.1
        rw [o4 k j hkn, hA3.q k j hkq, k3 k j hkn]
        by_cases e : k = 164
        · subst e; rw [show u.1 164 = _ from hu.2.2.1, show s.1 164 = _ from hm.2.2.1]
        · exact ho k j (by simp [K164, hkq, e])
      · rw [o4 184 j rfl, o4 187 j rfl]; exact (hA3.mq hu1.2.2.2.2.2.2).2 j hj
end BO
theorem op36 : op_36 wInv := fun s hI => by
  obtain ⟨n, T, S, D, SP, ap, fi, bk, G, w, pl, kp, tx, se, l, hv, hw, hm, _⟩ := id hI
  obtain ⟨s1, e1, q1⟩ := W_boon hv.1 hw.1
  obtain ⟨s2, e2, q2⟩ := M_boon hv.1 (hm.1.byW q1.off.1)
  exact ⟨_, s1, s2, e1, e2, wInv_q hI q1 q2⟩
theorem op39 : op_39 wInv := fun s a1 hI => by
  obtain ⟨n, T, S, D, SP, ap, fi, bk, G, w, pl, kp, tx, se, l, hv, hw, hm, _⟩ := id hI
  obtain ⟨x, x1, x2, rfl⟩ := exI a1
  obtain ⟨s1, e1, q1⟩ := W_springs hv.1 hw.1 hv.2.2.2.2 hw.2.2.2.2.2 x1 x2
  have hm1 := hm.byW q1.off.1
  obtain ⟨s2, e2, q2⟩ := M_springs hv.1 hm1.1 hv.2.2.2.2 hm1.2.2.2.2.2 x1 x2
  exact ⟨_, s1, s2, e1, e2, wInv_q hI q1 q2⟩
