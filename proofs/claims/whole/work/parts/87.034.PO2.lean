section PW
variable {s : wM} {n : Nat} {T : Nat → Nat → Bool} {S : Nat → Nat → Int} {D SP : Nat → Int} {ap fi bk : Int} {rain : Int} {bits : Nat} {k : Nat} {G : Nat → Int32} {w : Int32} {pl : List PI} {kp : Nat → KI} {tx : List Nat} {se : List (Nat × Nat)}
theorem Gn_z {G : Nat → Int32} (h : ∀ j, n ≤ j → G j = iI 0) : ∀ j, n ≤ j → Gn n T ap D fi G j = iI 0 := fun j hj => by unfold Gn; rw [if_neg (by omega)]; exact h j hj
def KLw : Nat → Nat → Bool := fun k j => (decide (13 ≤ k) && decide (k ≤ 22)) || k == 8 || k == 10 || k == 7 && j == 5
theorem KLw_f {a j : Nat} (h : ¬ ((13 ≤ a ∧ a ≤ 22) ∨ a = 8 ∨ a = 10 ∨ a = 7 ∧ j = 5)) : KLw a j = false := by
  simp only [KLw, Bool.or_eq_false_iff, Bool.and_eq_false_iff, decide_eq_false_iff_not, beq_eq_false_iff_ne]; omega
theorem W_lwp (hv : CV n T S D SP ap fi bk) (hw : HW s n T S D SP ap fi bk G w pl kp tx se) (hr : -9 ≤ rain ∧ rain ≤ 9) (hb : bits < 512) : ∃ t, fW_letWeekPass s (iI rain) (iI (bits : Int)) = some (iI (ep n T ap (wk n T S SP D rain bits)), t) ∧ HW t n T S (wk n T S SP D rain bits) SP ap fi bk (Gn n T ap (wk n T S SP D rain bits) fi G) (w + iI 1) pl kp tx se ∧ t.1 13 7 = iI (lst n T S SP D rain bits) ∧ Off KLw s t := by
  have hn := hv.1.1
  have hap : 0 ≤ ap ∧ ap ≤ 9 := by have := hv.2.2.2.2.2.1; omega
  have bS := hv.2.2.2.1
  obtain ⟨t0, e0, hA0, h80⟩ := W_look hv hw.1
  obtain ⟨t1, e1, hA1, hl1, _⟩ := W_week hv.1 bS hA0 hr hb
  have hl1 := hl1 h80
  unfold fW_letWeekPass
  rw [e0, Option.bind_some, e1, Option.bind_some, chkC9, z0, n9]
  simp only [nmM]
  have hZ' := wk_Z9 (T := T) (S := S) (SP := SP) (rain := rain) (bits := bits) hn hv.2.2.1
  have r8 : Rw (wCpy t1 14 8 0 0 9) 8 (wk n T S SP D rain bits) := cpy_Rw hA1.1.2.2.2.2.1 hZ' fun j hj => by
    rw [hA1.2.2.1 8 j rfl, show s.1 8 = _ from hw.1.2.1]; show iI (D j) = _; rw [hv.2.2.1 j hj]
  have o6 : Off KLw s (wCpy t1 14 8 0 0 9) := Off.cpy (hA1.2.2.1.mono fun k j hk => by
    simp only [KLw, KA, Bool.or_eq_false_iff] at hk ⊢; exact hk.1.1.1) fun j => rfl
  have hA6 : AH (wCpy t1 14 8 0 0 9) n T S SP ap (wk n T S SP D rain bits) := hA1.1.of (Off.cpy (Off.refl t1) fun j => rfl)
  have l6 : (wCpy t1 14 8 0 0 9).1 13 7 = iI (lst n T S SP D rain bits) := by rw [rd_cne (by decide)]; exact hl1
  have g6 : (wCpy t1 14 8 0 0 9).1 10 = G := by rw [rd_cne (by decide), hA1.2.2.1.row (k := 10) fun j => rfl]; exact hw.2.1.1
  have w6 : (wCpy t1 14 8 0 0 9).1 7 5 = w := by rw [rd_cne (by decide), hA1.2.2.1 7 5 rfl]; exact hw.2.1.2.1
  generalize wCpy t1 14 8 0 0 9 = s6 at r8 o6 hA6 l6 g6 w6 ⊢
  have f6 : s6.1 11 1 = iI fi := by rw [o6 11 1 rfl]; exact hw.1.2.2.2.2.1
  have bD' := wk_bd (n := n) (T := T) (S := S) (SP := SP) (rain := rain) (bits := bits) hv.2.1
  rw [z1, f6, Ah_payInto hv.1 hA6 bD' hap (Or.inl rfl), Option.bind_some, g6, wR_ne (show (7 : Nat) ≠ 10 by decide), w6]
  have hA9 : AH (wsI (wRo s6 10 (Gn n T ap (wk n T S SP D rain bits) fi G)) 7 5 (w + iI 1)) n T S SP ap (wk n T S SP D rain bits) := hA6.of (Off.set (wR_off (Off.refl s6) fun j => rfl) rfl)
  have o9 : Off KLw s (wsI (wRo s6 10 (Gn n T ap (wk n T S SP D rain bits) fi G)) 7 5 (w + iI 1)) := Off.set (wR_off o6 fun j => rfl) rfl
  rw [Ah_evenPairs hv.1 hA9 bD' hap, Option.bind_some]
  refine ⟨_, rfl, hw.cw ?_ ⟨?_, rd_at, Gn_z hw.2.1.2.2⟩ (fun k hk => o9.row fun j => KLw_f (by omega)), ?_, o9⟩
  · refine ⟨hw.1.1.of (o9 7 4 rfl) (o9.row fun j => rfl), ?_, hw.1.2.2.1.of (o9.row fun j => rfl), ?_, ?_, ?_, fun j hj => ?_⟩
    · refine r8.of ?_; rw [rd_ne (by decide), wR_ne (by decide)]
    · rw [o9 11 0 rfl]; exact hw.1.2.2.2.1
    · rw [o9 11 1 rfl]; exact hw.1.2.2.2.2.1
    · rw [o9 11 2 rfl]; exact hw.1.2.2.2.2.2.1
    · rw [show (wsI (wRo s6 10 (Gn n T ap (wk n T S SP D rain bits) fi G)) 7 5 (w + iI 1)).1 14 = _ from hA9.2.2.2.2.1, show (wsI (wRo s6 10 (Gn n T ap (wk n T S SP D rain bits) fi G)) 7 5 (w + iI 1)).1 15 = _ from hA9.2.2.2.2.2]
      show iI (wk n T S SP D rain bits j) = iI 0 ∧ iI (SP j) = iI 0
      rw [hZ' j hj, hv.2.2.2.2.1 j hj]; exact ⟨rfl, rfl⟩
  · rw [rd_ne (by decide), wRo_at]
  · rw [rd_ne (by decide), wR_ne (by decide)]; exact l6
def KMw : Nat → Nat → Bool := fun k j => k == 163 || k == 167 || k == 178 || k == 161 && (j == 10 || j == 27)
theorem KMw_f {a j : Nat} (h : ¬ (a = 163 ∨ a = 167 ∨ a = 178 ∨ a = 161 ∧ (j = 10 ∨ j = 27))) : KMw a j = false := by
  simp only [KMw, Bool.or_eq_false_iff, Bool.and_eq_false_iff, beq_eq_false_iff_ne]; omega
theorem M_wp (hv : CV n T S D SP ap fi bk) (hm : HM s n T S D SP ap fi bk G w pl kp tx se) (hr : -9 ≤ rain ∧ rain ≤ 9) (hb : bits < 512) : ∃ t, fM_weekPays s (iI rain) (iI (bits : Int)) = some (iI (fi * ep2 n T ap (wk n T S SP D rain bits)), t) ∧ HM t n T S (wk n T S SP D rain bits) SP ap fi bk (Gn n T ap (wk n T S SP D rain bits) fi G) (w + iI 1) pl kp tx se ∧ t.1 161 27 = iI (lst n T S SP D rain bits) ∧ Off KMw s t := by
  have hn := hv.1.1
  have hap : 0 ≤ ap ∧ ap ≤ 9 := by have := hv.2.2.2.2.2.1; omega
  have hfi := hv.2.2.2.2.2.2.1
  obtain ⟨t1, e1, r1, l1, o1⟩ := M_weekGoes hv.1 hm.1.1 hm.1.2.1 hv.2.1 hm.1.2.2.1 hv.2.2.2.1 hr hb (k := 163) (by decide) (by decide) (by decide) (by decide) (by decide)
  have bD' := wk_bd (n := n) (T := T) (S := S) (SP := SP) (rain := rain) (bits := bits) hv.2.1
  generalize hD' : wk n T S SP D rain bits = D' at *
  unfold fM_weekPays
  rw [e1, Option.bind_some]
  simp only [nmM]
  have w1 : t1.1 161 10 = w := by rw [o1 161 10 rfl]; exact hm.2.1.2
  rw [w1]
  have o2 : Off KMw s (wsI t1 161 10 (w + iI 1)) := (o1.mono fun k j hk => by simp only [KG, KMw, Bool.or_eq_false_iff, Bool.and_eq_false_iff, beq_eq_false_iff_ne] at hk ⊢; omega).set rfl
  have l2 : (wsI t1 161 10 (w + iI 1)).1 161 27 = iI (lst n T S SP D rain bits) := by rw [rd_of (by decide)]; exact l1
  have d2 : Rw (wsI t1 161 10 (w + iI 1)) 163 D' := r1.of (rd_ne (by decide))
  have ww2 : (wsI t1 161 10 (w + iI 1)).1 161 10 = w + iI 1 := rd_at
  have g2 : (wsI t1 161 10 (w + iI 1)).1 167 = G := by rw [rd_ne (by decide), o1.row (k := 167) fun j => rfl]; exact hm.2.1.1
  generalize wsI t1 161 10 (w + iI 1) = s2 at o2 l2 d2 ww2 g2 ⊢
  have hL2 : LM s2 n T S := hm.1.1.of (o2 161 3 rfl) (o2.row fun j => rfl) (o2.row fun j => rfl)
  have a2 : s2.1 168 0 = iI ap := by rw [o2 168 0 rfl]; exact hm.1.2.2.2.1
  have f2 : s2.1 168 1 = iI fi := by rw [o2 168 1 rfl]; exact hm.1.2.2.2.2.1
  refine ⟨wRo s2 167 (Gn n T ap D' fi G), ?_, ?_, ?_, wR_off o2 fun j => rfl⟩
  · have e0 : s2 = wRo s2 167 (fun j => if j < 0 then Gn n T ap D' fi G j else G j) := (wR_id (by rw [g2]; funext j; simp)).symm
    have e9 : wRo s2 167 (Gn n T ap D' fi G) = wRo s2 167 (fun j => if j < n then Gn n T ap D' fi G j else G j) := by
      congr 1; funext j
      by_cases h : j < n
      · rw [if_pos h]
      · rw [if_neg h]; unfold Gn; rw [if_neg h]
    have e8 : fi * ep2 n T ap D' = sm (fun a => fi * (cnt (ev T ap D' a) n : Int)) n := by
      unfold ep2
      generalize n = m1
      have : ∀ m, fi * sm (fun a => (cnt (ev T ap D' a) m1 : Int)) m = sm (fun a => fi * (cnt (ev T ap D' a) m1 : Int)) m := fun m => by
        induction m with
        | zero => simp [sm]
        | succ m ih => simp only [sm, Int.mul_add, ih]
      exact this m1
    rw [e8, e9]
    conv => lhs; arg 5; rw [e0]
    have := for3a (f := fM_weekPays_L25) (fun i => iI (sm (fun a => fi * (cnt (ev T ap D' a) n : Int)) i)) (fun i => wRo s2 167 (fun j => if j < i then Gn n T ap D' fi G j else G j)) (i0 := 0) (n := n) (r := some (iI (sm (fun a => fi * (cnt (ev T ap D' a) n : Int)) n), wRo s2 167 (fun j => if j < n then Gn n T ap D' fi G j else G j))) (Nat.zero_le _) (by omega) (fun i _ hi c => ?_) (fun c => ?_)
    · exact this
    · have hL3 : ∀ F, LM (wRo s2 167 F) n T S := fun F => hL2.of (by rw [wR_ne (by decide)]) (wR_ne (by decide)) (wR_ne (by decide))
      have d3 : ∀ F, Rw (wRo s2 167 F) 163 D' := fun F => d2.ne (by decide)
      unfold fM_weekPays_L25
      rw [(hL3 _).1, if_neg (by rw [iI_le (by omega) (by omega) (by omega) (by omega)]; omega), M_evenWith hv.1 (hL3 _) (d3 _) bD' (by rw [wR_ne (by decide)]; exact a2) hap (by omega), Option.bind_some, bitc_bt hn, Option.bind_some, chk_in (by omega) (by omega) (by omega), iI_natc (by omega), wRo_at, wR_ne (by decide), z1, f2, iI_mul, if_neg (show ¬ i < i by omega)]
      simp only [nmM, nmI, iI_add]
      rw [wsI_Rr]
      congr 2
      funext x
      by_cases h1 : x = i
      · subst h1; rw [if_pos rfl, if_pos (by omega)]; unfold Gn; rw [if_pos hi]
      · rw [if_neg h1]
        by_cases h2 : x < i
        · rw [if_pos h2, if_pos (by omega)]
        · rw [if_neg h2, if_neg (by omega)]
    · unfold fM_weekPays_L25
      rw [wR_ne (by decide), hL2.1, if_pos (by rw [iI_le (by omega) (by omega) (by omega) (by omega)]; omega)]
  · have o9 : Off KMw s (wRo s2 167 (Gn n T ap D' fi G)) := wR_off o2 fun j => rfl
    refine hm.cm2 ⟨hm.1.1.of (o9 161 3 rfl) (o9.row fun j => rfl) (o9.row fun j => rfl), d2.ne (by decide), hm.1.2.2.1.of (o9.row fun j => rfl), ?_, ?_, ?_, fun j hj => ?_⟩ ⟨wRo_at, by rw [wR_ne (by decide)]; exact ww2⟩ (fun k j hk => o9 k j (KMw_f (by omega)))
    · rw [o9 168 0 rfl]; exact hm.1.2.2.2.1
    · rw [o9 168 1 rfl]; exact hm.1.2.2.2.2.1
    · rw [o9 168 2 rfl]; exact hm.1.2.2.2.2.2.1
    · rw [o9 184 j rfl, o9 187 j rfl]; exact hm.1.2.2.2.2.2.2 j hj
  · rw [wR_ne (by decide)]; exact l2
end PW
