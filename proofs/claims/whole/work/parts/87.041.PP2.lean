section RT
variable {s t : wM} {n : Nat} {T : Nat → Nat → Bool} {S : Nat → Nat → Int} {D D' SP : Nat → Int} {ap fi bk : Int} {k : Nat} {G : Nat → Int32} {w : Int32} {pl pl' : List PI} {kp : Nat → KI} {tx : List Nat} {se : List (Nat × Nat)} {x : PI}
def rsR (n : Nat) (T : Nat → Nat → Bool) (ap bk : Int) (D : Nat → Int) (i : Nat) : List Int32 := [bI (rsF n T ap bk D i).2.1, iI (ep n T ap (rsF n T ap bk D i).1)]
def KRs : Nat → Nat → Bool := fun k _ => k == 8 || (decide (13 ≤ k) && decide (k ≤ 22)) || (decide (32 ≤ k) && decide (k ≤ 140))
theorem KRs_f {a j : Nat} (h : ¬ (a = 8 ∨ (13 ≤ a ∧ a ≤ 22) ∨ (32 ≤ a ∧ a ≤ 140))) : KRs a j = false := by
  simp only [KRs, Bool.or_eq_false_iff, Bool.and_eq_false_iff, decide_eq_false_iff_not, beq_eq_false_iff_ne]; omega
theorem W_restsEnd {i : Nat} {PL : List PI} {b : Bool} {x4 : Int32} (hv : CV n T S D SP ap fi bk) (hw : HW s n T S D SP ap fi bk G w PL kp tx se) : ∃ t, fW_rests_J84 (bI b) x4 s = some (x4, t) ∧ HW t n T S D SP ap fi bk G w PL kp tx se ∧ RW t [bI b, iI (ep n T ap D)] ∧ Off KRs s t := by
  have hap : 0 ≤ ap ∧ ap ≤ 9 := by have := hv.2.2.2.2.2.1; omega
  obtain ⟨t, e, hA, _⟩ := W_look hv hw.1
  have q := hA.wq hv.2.2.2.2.1
  have ht := hw.q q.off.1 q.off.2
  unfold fW_rests_J84
  rw [e, Option.bind_some]
  have J : (if bI b = iI 0 then fW_rests_J108 x4 (iI 0) t else fW_rests_J108 x4 (iI 1) t) = fW_rests_J108 x4 (bI b) t := by cases b <;> rfl
  rw [J]
  unfold fW_rests_J108
  obtain ⟨u1, u2, k1, k2, k3, k4, k5⟩ := W_tell2 (t := t) (v := bI b) (w := iI (ep n T ap D))
  have hA1 : AH u1 n T S SP ap D := hA.1.of (k5.mono fun k j hk => by simp only [KN, Bool.or_eq_false_iff, Bool.and_eq_false_iff, beq_eq_false_iff_ne, bne_eq_false_iff_eq] at hk ⊢; omega)
  rw [k1, Option.bind_some, Ah_evenPairs hv.1 hA1 hv.2.1 hap, Option.bind_some, k2, Option.bind_some]
  refine ⟨u2, rfl, ht.of fun k j hk => k4 k j (by simp only [KN, Bool.or_eq_false_iff, beq_eq_false_iff_ne]; unfold cW at hk; omega), k3, (hA.2.2.1.mono fun k j hk => ?_).trans (k4.mono fun k j hk => ?_)⟩
  · simp only [KRs, KA, Bool.or_eq_false_iff] at hk ⊢; exact hk.1.2
  · simp only [KRs, KN, Bool.or_eq_false_iff, Bool.and_eq_false_iff, decide_eq_false_iff_not, beq_eq_false_iff_ne] at hk ⊢; omega
theorem W_restsL (hv : CV n T S D SP ap fi bk) {q nt : Nat} (hq : q ≤ 40) (hpl : pl.length ≤ 20) (hw : HW s n T S D SP ap fi bk G w pl kp tx se) (hp : PaW s nt pl) (hx : SnW s (36 + 5 * nt) x) : ∃ t, wh4 (fW_rests_L30 (iI (q : Int))) 100000 (iI 0) (iI 0) (iI 0) s = some (iI (rsE n T ap bk D q : Int), t) ∧ HW t n T S (rsF n T ap bk D (rsE n T ap bk D q)).1 SP ap fi bk G w (if (rsF n T ap bk D (rsE n T ap bk D q)).2.2 = 0 then pl else psh pl x) kp tx se ∧ RW t (rsR n T ap bk D (rsE n T ap bk D q)) ∧ Off KRs s t := by
  have hn := hv.1.1
  have e0 : s = wRo s 8 (fun j => iI ((rsF n T ap bk D 0).1 j)) := (wR_id hw.1.2.1).symm
  refine wh4_w (Q := fun y => ∃ t, y = some (iI (rsE n T ap bk D q : Int), t) ∧ HW t n T S (rsF n T ap bk D (rsE n T ap bk D q)).1 SP ap fi bk G w (if (rsF n T ap bk D (rsE n T ap bk D q)).2.2 = 0 then pl else psh pl x) kp tx se ∧ RW t (rsR n T ap bk D (rsE n T ap bk D q)) ∧ Off KRs s t) (fun m y z v u => ∃ i : Nat, i ≤ q ∧ m = q - i ∧ y = bI (rsF n T ap bk D i).2.1 ∧ z = bI (decide (0 < (rsF n T ap bk D i).2.2)) ∧ v = iI (i : Int) ∧ u = wRo s 8 (fun j => iI ((rsF n T ap bk D i).1 j)) ∧ ∀ j, j < i → (rsF n T ap bk D j).2.1 = false) ?_ 100000 q _ _ _ s (by omega) ⟨0, by omega, rfl, rfl, rfl, rfl, e0, fun j hj => by omega⟩
  rintro m y z v u ⟨i, h1, rfl, rfl, rfl, rfl, rfl, hf⟩ c hc
  have hvi := rsF_cv hv i
  have hwi := hw.R8 (D' := (rsF n T ap bk D i).1)
  have hle := rsF_le (T := T) (ap := ap) (bk := bk) (D := D) hn i
  have J : i = rsE n T ap bk D q → ∃ t, fW_rests_J73 (bI (rsF n T ap bk D i).2.1) (bI (decide (0 < (rsF n T ap bk D i).2.2))) (iI (i : Int)) (wRo s 8 (fun j => iI ((rsF n T ap bk D i).1 j))) = some (iI (rsE n T ap bk D q : Int), t) ∧ HW t n T S (rsF n T ap bk D (rsE n T ap bk D q)).1 SP ap fi bk G w (if (rsF n T ap bk D (rsE n T ap bk D q)).2.2 = 0 then pl else psh pl x) kp tx se ∧ RW t (rsR n T ap bk D (rsE n T ap bk D q)) ∧ Off KRs s t := fun hE => by
    rw [← hE]
    unfold fW_rests_J73
    simp only [bI_0, decide_eq_false_iff_not]
    have oR : Off KRs s (wRo s 8 (fun j => iI ((rsF n T ap bk D i).1 j))) := wR_off (Off.refl s) fun j => rfl
    by_cases h0 : (rsF n T ap bk D i).2.2 = 0
    · rw [if_pos (by omega), if_pos h0]
      obtain ⟨t, e, ht, r, o⟩ := W_restsEnd (i := i) (b := (rsF n T ap bk D i).2.1) (x4 := iI (i : Int)) hvi hwi
      exact ⟨t, e, ht, r, oR.trans o⟩
    · rw [if_neg (by omega), if_neg h0]
      have hp' : PaW (wRo s 8 (fun j => iI ((rsF n T ap bk D i).1 j))) nt pl := hp.of fun k j hk => by rw [wR_ne (by omega)]
      have hx' : SnW (wRo s 8 (fun j => iI ((rsF n T ap bk D i).1 j))) (36 + 5 * nt) x := hx.of fun j => ⟨by rw [wR_ne (by omega)], by rw [wR_ne (by omega)], by rw [wR_ne (by omega)]⟩
      obtain ⟨t1, e1, p1, o1⟩ := W_keep hp' hpl hx'
      have o1' : Off K34 (wRo s 8 (fun j => iI ((rsF n T ap bk D i).1 j))) t1 := o1.mono fun k j hk => by simp only [K34, Bool.and_eq_false_iff, decide_eq_false_iff_not, beq_eq_false_iff_ne] at hk ⊢; omega
      rw [e1, Option.bind_some]
      obtain ⟨t, e, ht, r, o⟩ := W_restsEnd (i := i) (b := (rsF n T ap bk D i).2.1) (x4 := iI (i : Int)) hvi (hwi.toPa p1 o1')
      exact ⟨t, e, ht, r, (oR.trans (o1'.mono fun k j hk => by simp only [KRs, K34, Bool.or_eq_false_iff, Bool.and_eq_false_iff, decide_eq_false_iff_not, beq_eq_false_iff_ne] at hk ⊢; omega)).trans o⟩
  unfold fW_rests_L30
  by_cases hi : i < q
  · rw [if_neg (by rw [iI_le (by omega) (by omega) (by omega) (by omega)]; omega)]
    by_cases hr : (rsF n T ap bk D i).2.1 = true
    · rw [if_neg (by rw [hr]; decide)]
      exact J (ff_eq h1 (fun _ => hr) hf).symm
    · have hr' : (rsF n T ap bk D i).2.1 = false := by simpa using hr
      rw [if_pos (by rw [hr']; rfl), W_round hvi hwi.1, Option.bind_some, wR_wR]
      dsimp only
      unfold fW_rests_J52 fW_rests_J61 fW_rests_J66
      have hk := hc (q - (i + 1)) (bI (rsF n T ap bk D (i + 1)).2.1) (bI (decide (0 < (rsF n T ap bk D (i + 1)).2.2))) (iI ((i : Int) + 1)) _ (by omega) ⟨i + 1, by omega, rfl, rfl, rfl, by simp, rfl, fun j hj => by
        by_cases e : j = i
        · subst e; exact hr'
        · exact hf j (by omega)⟩
      have e1 : (rsF n T ap bk D (i + 1)).2.1 = decide ((rdF n T ap bk (rsF n T ap bk D i).1 n).2 = 0) := rfl
      have e2 : (rsF n T ap bk D (i + 1)).2.2 = (rsF n T ap bk D i).2.2 + (rdF n T ap bk (rsF n T ap bk D i).1 n).2 := rfl
      have e3 : (rsF n T ap bk D (i + 1)).1 = (rdF n T ap bk (rsF n T ap bk D i).1 n).1 := rfl
      rw [e1, e2, e3] at hk
      simp only [bI_0, decide_eq_false_iff_not, iI_add]
      by_cases d0 : (rdF n T ap bk (rsF n T ap bk D i).1 n).2 = 0
      · rw [bI_d d0] at hk
        rw [if_pos (by omega), if_neg (show ¬ iI 1 = iI 0 by decide)]
        by_cases d1 : (rsF n T ap bk D i).2.2 = 0
        · rw [bI_n (by omega)] at hk
          rw [if_pos (by omega)]; exact hk
        · rw [bI_d (by omega)] at hk
          rw [if_neg (by omega)]; exact hk
      · rw [bI_n d0, bI_d (by omega)] at hk
        rw [if_neg (by omega), if_pos trivial]
        split <;> exact hk
  · have : i = q := by omega
    rw [if_pos (by rw [iI_le (by omega) (by omega) (by omega) (by omega)]; omega)]
    exact J (ff_eq h1 (fun h => by omega) hf).symm
def KMs : Nat → Nat → Bool := fun k j => k == 163 || k == 174 || k == 162 || k == 161 && (j == 37 || j == 20 || j == 1)
theorem KMs_f {a j : Nat} (h : ¬ (a = 163 ∨ a = 174 ∨ a = 162 ∨ a = 161 ∧ (j = 37 ∨ j = 20 ∨ j = 1))) : KMs a j = false := by
  simp only [KMs, Bool.or_eq_false_iff, Bool.and_eq_false_iff, beq_eq_false_iff_ne]; omega
theorem M_restsL (hv : CV n T S D SP ap fi bk) {q : Nat} (hq : q ≤ 40) (hpl : pl.length ≤ 20) (hm : HM s n T S D SP ap fi bk G w pl kp tx se) (hx : SnM s pl.length x) : ∃ t, wh4 (fM_rests_L30 (iI (q : Int))) 100000 (iI 0) (iI 0) (iI 0) s = some (iI (rsE n T ap bk D q : Int), t) ∧ HM t n T S (rsF n T ap bk D (rsE n T ap bk D q)).1 SP ap fi bk G w (if (rsF n T ap bk D (rsE n T ap bk D q)).2.2 = 0 then pl else psh pl x) kp tx se ∧ RM t (rsR n T ap bk D (rsE n T ap bk D q)) ∧ Off KMs s t := by
  have hn := hv.1.1
  have hap : 0 ≤ ap ∧ ap ≤ 9 := by have := hv.2.2.2.2.2.1; omega
  refine wh4_w (Q := fun y => ∃ t, y = some (iI (rsE n T ap bk D q : Int), t) ∧ HM t n T S (rsF n T ap bk D (rsE n T ap bk D q)).1 SP ap fi bk G w (if (rsF n T ap bk D (rsE n T ap bk D q)).2.2 = 0 then pl else psh pl x) kp tx se ∧ RM t (rsR n T ap bk D (rsE n T ap bk D q)) ∧ Off KMs s t) (fun m y z v u => ∃ i : Nat, i ≤ q ∧ m = q - i ∧ y = iI (i : Int) ∧ z = iI ((rsF n T ap bk D i).2.2 : Int) ∧ v = bI (rsF n T ap bk D i).2.1 ∧ HM u n T S (rsF n T ap bk D i).1 SP ap fi bk G w pl kp tx se ∧ Off K37 s u ∧ ∀ j, j < i → (rsF n T ap bk D j).2.1 = false) ?_ 100000 q _ _ _ s (by omega) ⟨0, by omega, rfl, rfl, rfl, rfl, hm, Off.refl s, fun j hj => by omega⟩
  rintro m y z v u ⟨i, h1, rfl, rfl, rfl, rfl, hu, ho, hf⟩ c hc
  have hvi := rsF_cv hv i
  have hle := rsF_le (T := T) (ap := ap) (bk := bk) (D := D) hn i
  have J : i = rsE n T ap bk D q → ∃ t, fM_rests_J98 (iI (i : Int)) (iI ((rsF n T ap bk D i).2.2 : Int)) (bI (rsF n T ap bk D i).2.1) u = some (iI (rsE n T ap bk D q : Int), t) ∧ HM t n T S (rsF n T ap bk D (rsE n T ap bk D q)).1 SP ap fi bk G w (if (rsF n T ap bk D (rsE n T ap bk D q)).2.2 = 0 then pl else psh pl x) kp tx se ∧ RM t (rsR n T ap bk D (rsE n T ap bk D q)) ∧ Off KMs s t := fun hE => by
    rw [← hE]
    have E : ∀ PL u, HM u n T S (rsF n T ap bk D i).1 SP ap fi bk G w PL kp tx se → Off KMs s u → ∃ t, fM_rests_J106 (iI (i : Int)) (bI (rsF n T ap bk D i).2.1) u = some (iI (i : Int), t) ∧ HM t n T S (rsF n T ap bk D i).1 SP ap fi bk G w PL kp tx se ∧ RM t (rsR n T ap bk D i) ∧ Off KMs s t := fun PL u hu ho => by
      unfold fM_rests_J106
      simp only [nmM]
      rw [M_flag, Option.bind_some]
      obtain ⟨u1, u2, k1, k2, k3, k4, k5⟩ := M_tell2 (t := u) (v := bI (rsF n T ap bk D i).2.1) (w := iI (ep n T ap (rsF n T ap bk D i).1))
      have hu1 : HM u1 n T S (rsF n T ap bk D i).1 SP ap fi bk G w PL kp tx se := hu.of fun k j hk => k5 k j (by
        simp only [KMn, Bool.or_eq_false_iff, Bool.and_eq_false_iff, beq_eq_false_iff_ne]; unfold cM at hk; omega)
      rw [k1, Option.bind_some, M_evenPairs hv.1 hu1.1.1 hu1.1.2.1 hvi.2.1 hu1.1.2.2.2.1 hap, Option.bind_some, k2, Option.bind_some]
      refine ⟨u2, rfl, hu.of fun k j hk => k4 k j (by
        simp only [KMn, Bool.or_eq_false_iff, Bool.and_eq_false_iff, beq_eq_false_iff_ne]; unfold cM at hk; omega), k3, ho.trans (k4.mono fun k j hk => ?_)⟩
      simp only [KMs, KMn, Bool.or_eq_false_iff, Bool.and_eq_false_iff, beq_eq_false_iff_ne] at hk ⊢; omega
    have ho' : Off KMs s u := ho.mono fun k j hk => by simp only [KMs, K37, Bool.or_eq_false_iff, Bool.and_eq_false_iff, beq_eq_false_iff_ne] at hk ⊢; omega
    unfold fM_rests_J98
    by_cases h0 : (rsF n T ap bk D i).2.2 = 0
    · rw [if_pos (by rw [iI_le (by omega) (by omega) (by omega) (by omega)]; omega), if_pos h0]
      exact E pl u hu ho'
    · obtain ⟨u4, f4, hu4, p4⟩ := M_add hu hpl (hx.of (ho.row fun j => rfl))
      rw [if_neg (by rw [iI_le (by omega) (by omega) (by omega) (by omega)]; omega), if_neg h0, f4, Option.bind_some]
      exact E _ u4 hu4 (ho'.trans (p4.mono fun k j hk => by simp only [KMs, K174, Bool.or_eq_false_iff, Bool.and_eq_false_iff, beq_eq_false_iff_ne] at hk ⊢; omega))
  unfold fM_rests_L30
  by_cases hi : i < q
  · rw [if_neg (by rw [iI_le (by omega) (by omega) (by omega) (by omega)]; omega)]
    by_cases hr : (rsF n T ap bk D i).2.1 = true
    · rw [if_neg (by rw [hr]; decide)]
      exact J (ff_eq h1 (fun _ => hr) hf).symm
    · have hr' : (rsF n T ap bk D i).2.1 = false := by simpa using hr
      rw [if_pos (by rw [hr']; rfl)]
      obtain ⟨u', e', hu', ho'⟩ := M_round (k30 := c) (x1 := iI (q : Int)) (x2 := iI (i : Int)) (tot := (rsF n T ap bk D i).2.2) hvi hu
      rw [e', iI_add]
      exact hc (q - (i + 1)) _ _ _ _ (by omega) ⟨i + 1, by omega, rfl, by simp, rfl, rfl, hu', ho.trans ho', fun j hj => by
        by_cases e : j = i
        · subst e; exact hr'
        · exact hf j (by omega)⟩
  · have : i = q := by omega
    rw [if_pos (by rw [iI_le (by omega) (by omega) (by omega) (by omega)]; omega)]
    exact J (ff_eq h1 (fun h => by omega) hf).symm
end RT
theorem op18 : op_18 wInv := fun s a1 hI => by
  obtain ⟨n, T, S, D, SP, ap, fi, bk, G, w, pl, kp, tx, se, l, hv, hw, hm, r1, r2, hl⟩ := id hI
  obtain ⟨x, x1, x2, rfl⟩ := exI a1
  have hn := hv.1.1.1
  have mE : ∀ u, fM_rests u (iI x) = if ¬ (0 ≤ x ∧ x ≤ 40) then some (iI (-1), wsI u 161 0 (iI 0)) else (fM_putsBy (wsI u 161 0 (iI 0))).bind fun q_6 => wh4 (fM_rests_L30 (iI x)) 100000 (iI (0)) (iI (0)) (iI (0)) q_6 := fun u => by
    unfold fM_rests
    simp only [nmM]
    rw [M_in, Option.bind_some, iL x1 x2]
    simp only [bI_0, decide_eq_false_iff_not, show (0 : Int64).toInt = 0 from rfl, show (40 : Int64).toInt = 40 from rfl]
  unfold fW_rests
  rw [W_isWithin x1 x2 (by omega) (by omega) (by omega) (by omega), Option.bind_some]
  simp only [bI_0, decide_eq_false_iff_not]
  by_cases c1 : 0 ≤ x ∧ x ≤ 40
  · obtain ⟨q, rfl⟩ : ∃ q : Nat, x = q := ⟨x.toNat, by omega⟩
    obtain ⟨nt, hp⟩ := hw.2.2.1
    obtain ⟨t1, e1, p1, n1, o1⟩ := W_note hw hp hv.2.1.1
    have o1' : Off K34 s t1 := o1.mono fun k j hk => by simp only [K34, Bool.and_eq_false_iff, decide_eq_false_iff_not] at hk ⊢; omega
    have hw1 := hw.toPa ⟨nt, p1⟩ o1'
    obtain ⟨t3, e3, hw3, r3, o3⟩ := W_restsL hv.1 (q := q) (by omega) hv.2.1.1 hw1 p1 n1
    rw [if_neg (by simpa using c1), e1, Option.bind_some, e3]
    have lo : Lo s t3 := fun k hk => by rw [o3.row fun j => KRs_f (by omega), o1'.row fun j => K34_f (by omega)]
    have hm1 := hm.lo lo
    obtain ⟨u1, f1, hu1, q1, pp1⟩ := M_put (hm1.thr (v := iI 0)) hv.2.1.1
    obtain ⟨u3, f3, hu3, rr3, p3⟩ := M_restsL hv.1 (q := q) (by omega) hv.2.1.1 hu1 q1
    refine ⟨_, t3, u3, rfl, ?_, wInv_mk ⟨rsF_cv hv.1 _, ?_, hv.2.2⟩ hw3 (fun k hk => ?_) hu3 r3 rr3 (by simp [rsR])⟩
    · rw [mE, if_neg (by simpa using c1), f1, Option.bind_some, f3]
    · split
      · exact hv.2.1
      · exact psh_ok hv.2.1 ⟨hv.1.2.1, hw.2.1.2.2⟩
    · rw [p3.row (k := k) fun j => KMs_f (by omega), pp1.row (k := k) fun j => by simp; omega, rd_ne (by omega)]
  · rw [if_pos c1]
    refine ⟨iI (-1), s, wsI s 161 0 (iI 0), rfl, ?_, wInv_thr hI⟩
    rw [mE, if_pos c1]
