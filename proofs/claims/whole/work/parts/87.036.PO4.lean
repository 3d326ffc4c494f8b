def wsG (n : Nat) (T : Nat → Nat → Bool) (S : Nat → Nat → Int) (SP : Nat → Int) (ap fi : Int) (D : Nat → Int) (G : Nat → Int32) : Nat → Nat → Int32
  | 0 => G
  | i + 1 => Gn n T ap (it n T S SP D (i + 1)) fi (wsG n T S SP ap fi D G i)
def wW (w : Int32) : Nat → Int32
  | 0 => w
  | i + 1 => wW w i + iI 1
section PV2
variable {s t : wM} {n : Nat} {T : Nat → Nat → Bool} {S : Nat → Nat → Int} {D D' SP : Nat → Int} {ap fi bk : Int} {rain : Int} {bits : Nat} {k : Nat} {G : Nat → Int32} {w : Int32} {pl pl' : List PI} {kp : Nat → KI} {tx : List Nat} {se : List (Nat × Nat)}
theorem CV.it (hv : CV n T S D SP ap fi bk) : ∀ i, CV n T S (it n T S SP D i) SP ap fi bk
  | 0 => hv
  | i + 1 => by
    have h := CV.it hv i
    exact ⟨h.1, wk_bd h.2.1, wk_Z9 h.1.1 h.2.2.1, h.2.2.2⟩
theorem wsG_z {G : Nat → Int32} (h : ∀ j, n ≤ j → G j = iI 0) : ∀ i j, n ≤ j → wsG n T S SP ap fi D G i j = iI 0
  | 0, j, hj => h j hj
  | i + 1, j, hj => Gn_z (wsG_z h i) j hj
def wsP (n : Nat) (T : Nat → Nat → Bool) (S : Nat → Nat → Int) (SP : Nat → Int) (ap fi : Int) (D : Nat → Int) (i : Nat) : Int := sm (fun j => fi * ep2 n T ap (it n T S SP D (j + 1))) i
def wsL' (n : Nat) (T : Nat → Nat → Bool) (S : Nat → Nat → Int) (SP : Nat → Int) (ap : Int) (D : Nat → Int) (i : Nat) : Nat := cnt (fun j => decide (ep n T ap (it n T S SP D (j + 1)) = 0)) i
def KWw : Nat → Nat → Bool := fun k j => KLw k j || k == 32 || k == 33
theorem KWw_f {a j : Nat} (h : ¬ ((13 ≤ a ∧ a ≤ 22) ∨ a = 8 ∨ a = 10 ∨ a = 7 ∧ j = 5 ∨ a = 32 ∨ a = 33)) : KWw a j = false := by
  simp only [KWw, Bool.or_eq_false_iff, beq_eq_false_iff_ne]; exact ⟨⟨KLw_f (by omega), by omega⟩, by omega⟩
theorem W_weeksL (hv : CV n T S D SP ap fi bk) {q : Nat} (hq : q ≤ 50) (hw : HW s n T S D SP ap fi bk G w pl kp tx se) : ∃ t, fW_weeks_J34 (iI (q : Int)) s = some (iI (wsP n T S SP ap fi D q), t) ∧ HW t n T S (it n T S SP D q) SP ap fi bk (wsG n T S SP ap fi D G q) (wW w q) pl kp tx se ∧ RW t [iI ((wsL' n T S SP ap D q : Nat) : Int)] ∧ Off KWw s t := by
  unfold fW_weeks_J34
  refine wh4_w (Q := fun x => ∃ t, x = some (iI (wsP n T S SP ap fi D q), t) ∧ HW t n T S (it n T S SP D q) SP ap fi bk (wsG n T S SP ap fi D G q) (wW w q) pl kp tx se ∧ RW t [iI ((wsL' n T S SP ap D q : Nat) : Int)] ∧ Off KWw s t) (fun m x y z u => ∃ i : Nat, i ≤ q ∧ m = q - i ∧ x = iI (wsP n T S SP ap fi D i) ∧ y = iI ((wsL' n T S SP ap D i : Nat) : Int) ∧ z = iI (i : Int) ∧ HW u n T S (it n T S SP D i) SP ap fi bk (wsG n T S SP ap fi D G i) (wW w i) pl kp tx se ∧ Off KWw s u) ?_ 100000 q _ _ _ _ (by omega) ⟨0, by omega, rfl, rfl, rfl, rfl, hw, Off.refl s⟩
  rintro m x y z u ⟨i, h1, rfl, rfl, rfl, rfl, hu, ho⟩ c hc
  unfold fW_weeks_L41 fW_weeks_J83
  by_cases hi : i < q
  · rw [if_neg (by rw [iI_le (by omega) (by omega) (by omega) (by omega)]; omega)]
    obtain ⟨t3, e3, hw3, l3, o3⟩ := W_lwp (hv.it i) hu (rain := 0) (bits := 0) (by omega) (by omega)
    rw [show iI (0 : Int) = iI ((0 : Nat) : Int) from rfl] at e3 ⊢
    rw [e3, Option.bind_some]
    have hb := ep_nn hv.1 ap (it n T S SP D (i + 1))
    have hb' : 0 ≤ ep n T ap (wk n T S SP (it n T S SP D i) 0 0) ∧ ep n T ap (wk n T S SP (it n T S SP D i) 0 0) ≤ 40 := hb
    dsimp only
    rw [z1, hw3.1.2.2.2.2.1, iI_mul, iI_mul, iI_add]
    simp only [nmI, iI_add, show iI ((0 : Nat) : Int) = iI 0 from rfl, iI_eq (a := ep n T ap (wk n T S SP (it n T S SP D i) 0 0)) (b := 0) (by omega) (by omega) (by omega) (by omega)]
    have hk := hc (q - (i + 1)) (iI (wsP n T S SP ap fi D (i + 1))) (iI ((wsL' n T S SP ap D (i + 1) : Nat) : Int)) (iI ((i : Int) + 1)) t3 (by omega) ⟨i + 1, by omega, rfl, rfl, rfl, by simp, hw3, ho.trans (o3.mono fun k j hk => by simp only [KWw, Bool.or_eq_false_iff] at hk; exact hk.1.1)⟩
    rw [show wsP n T S SP ap fi D (i + 1) = wsP n T S SP ap fi D i + 2 * ep n T ap (wk n T S SP (it n T S SP D i) 0 0) * fi by
      show wsP n T S SP ap fi D i + fi * ep2 n T ap (it n T S SP D (i + 1)) = _
      rw [ep2_ep hv.1, Int.mul_comm]; rfl, show wsL' n T S SP ap D (i + 1) = wsL' n T S SP ap D i + (if decide (ep n T ap (wk n T S SP (it n T S SP D i) 0 0) = 0) then 1 else 0) from rfl] at hk
    by_cases h0 : ep n T ap (wk n T S SP (it n T S SP D i) 0 0) = 0
    · rw [if_pos h0]
      rw [if_pos (by simpa using h0)] at hk
      exact hk
    · rw [if_neg h0]
      rw [if_neg (by simpa using h0)] at hk
      simpa using hk
  · have : i = q := by omega
    subst this
    rw [if_pos (by rw [iI_le (by omega) (by omega) (by omega) (by omega)]; omega)]
    obtain ⟨u', e, r, o⟩ := Num_tell (s := u) (v := iI ((wsL' n T S SP ap D i : Nat) : Int))
    rw [e, Option.bind_some]
    refine ⟨u', rfl, hu.of fun k j hk => o k j (by simp only [KN, Bool.or_eq_false_iff, beq_eq_false_iff_ne]; unfold cW at hk; omega), r, ho.trans (o.mono fun k j hk => ?_)⟩
    simp only [KWw, KN, Bool.or_eq_false_iff] at hk ⊢; exact ⟨hk.1.2, hk.2⟩
def KMk : Nat → Nat → Bool := fun k j => KMw k j || k == 174 || k == 162 || k == 161 && (j == 20 || j == 1)
theorem KMk_f {a j : Nat} (h : ¬ (a = 163 ∨ a = 167 ∨ a = 178 ∨ a = 174 ∨ a = 162 ∨ a = 161 ∧ (j = 10 ∨ j = 27 ∨ j = 20 ∨ j = 1))) : KMk a j = false := by
  simp only [KMk, KMw, Bool.or_eq_false_iff, Bool.and_eq_false_iff, beq_eq_false_iff_ne]; omega
theorem M_weeksL (hv : CV n T S D SP ap fi bk) {q : Nat} {x0 : PI} (hq : q ≤ 50) (hpl : pl.length ≤ 20) (hm : HM s n T S D SP ap fi bk G w pl kp tx se) (hx : SnM s pl.length x0) : ∃ t, wh4 (fM_weeks_L30 (iI (q : Int))) 100000 (iI 0) (iI 0) (iI 0) s = some (iI (wsP n T S SP ap fi D q), t) ∧ HM t n T S (it n T S SP D q) SP ap fi bk (wsG n T S SP ap fi D G q) (wW w q) (if q = 0 then pl else psh pl x0) kp tx se ∧ RM t [iI ((wsL' n T S SP ap D q : Nat) : Int)] ∧ Off KMk s t := by
  have hap : 0 ≤ ap ∧ ap ≤ 9 := by have := hv.2.2.2.2.2.1; omega
  refine wh4_w (Q := fun x => ∃ t, x = some (iI (wsP n T S SP ap fi D q), t) ∧ HM t n T S (it n T S SP D q) SP ap fi bk (wsG n T S SP ap fi D G q) (wW w q) (if q = 0 then pl else psh pl x0) kp tx se ∧ RM t [iI ((wsL' n T S SP ap D q : Nat) : Int)] ∧ Off KMk s t) (fun m x y z u => ∃ i : Nat, i ≤ q ∧ m = q - i ∧ x = iI (wsP n T S SP ap fi D i) ∧ y = iI ((wsL' n T S SP ap D i : Nat) : Int) ∧ z = iI (i : Int) ∧ HM u n T S (it n T S SP D i) SP ap fi bk (wsG n T S SP ap fi D G i) (wW w i) pl kp tx se ∧ SnM u pl.length x0 ∧ Off KMk s u) ?_ 100000 q _ _ _ _ (by omega) ⟨0, by omega, rfl, rfl, rfl, rfl, hm, hx, Off.refl s⟩
  rintro m x y z u ⟨i, h1, rfl, rfl, rfl, rfl, hu, hsn, ho⟩ c hc
  unfold fM_weeks_L30 fM_weeks_J62 fM_weeks_J81
  by_cases hi : i < q
  · rw [if_neg (by rw [iI_le (by omega) (by omega) (by omega) (by omega)]; omega)]
    obtain ⟨t3, e3, hw3, l3, o3⟩ := M_wp (hv.it i) hu (rain := 0) (bits := 0) (by omega) (by omega)
    rw [show iI (0 : Int) = iI ((0 : Nat) : Int) from rfl] at e3 ⊢
    rw [e3, Option.bind_some]
    have hb := ep_nn hv.1 ap (it n T S SP D (i + 1))
    have hb' : 0 ≤ ep n T ap (wk n T S SP (it n T S SP D i) 0 0) ∧ ep n T ap (wk n T S SP (it n T S SP D i) 0 0) ≤ 40 := hb
    dsimp only
    rw [M_evenPairs hv.1 hw3.1.1 hw3.1.2.1 (hv.it (i + 1)).2.1 hw3.1.2.2.2.1 hap, Option.bind_some, iI_add]
    simp only [iI_add, show iI ((0 : Nat) : Int) = iI 0 from rfl, iI_eq (a := ep n T ap (wk n T S SP (it n T S SP D i) 0 0)) (b := 0) (by omega) (by omega) (by omega) (by omega)]
    have hk := hc (q - (i + 1)) (iI (wsP n T S SP ap fi D (i + 1))) (iI ((wsL' n T S SP ap D (i + 1) : Nat) : Int)) (iI ((i : Int) + 1)) t3 (by omega) ⟨i + 1, by omega, rfl, rfl, rfl, by simp, hw3, hsn.of (o3.row fun j => rfl), ho.trans (o3.mono fun k j hk => by simp only [KMk, Bool.or_eq_false_iff] at hk; exact hk.1.1.1)⟩
    rw [show wsP n T S SP ap fi D (i + 1) = wsP n T S SP ap fi D i + fi * ep2 n T ap (wk n T S SP (it n T S SP D i) 0 0) from rfl, show wsL' n T S SP ap D (i + 1) = wsL' n T S SP ap D i + (if decide (ep n T ap (wk n T S SP (it n T S SP D i) 0 0) = 0) then 1 else 0) from rfl] at hk
    by_cases h0 : ep n T ap (wk n T S SP (it n T S SP D i) 0 0) = 0
    · rw [if_pos h0, show iI 1 = bI true from rfl, M_flag, Option.bind_some, bI_t, iI_add]
      rw [if_pos (by simpa using h0)] at hk
      exact hk
    · rw [if_neg h0, ← bI_f, M_flag, Option.bind_some, bI_f, iI_add]
      rw [if_neg (by simpa using h0)] at hk
      simpa using hk
  · have : i = q := by omega
    subst this
    rw [if_pos (by rw [iI_le (by omega) (by omega) (by omega) (by omega)]; omega)]
    have fin : ∀ u PL, HM u n T S (it n T S SP D i) SP ap fi bk (wsG n T S SP ap fi D G i) (wW w i) PL kp tx se → Off KMk s u → ∃ t, (nmM (wsI u 161 1 (iI 0)) fun s_1 => (fM_enters s_1 (iI ((wsL' n T S SP ap D i : Nat) : Int))).bind fun q_3 => some (iI (wsP n T S SP ap fi D i), q_3)) = some (iI (wsP n T S SP ap fi D i), t) ∧ HM t n T S (it n T S SP D i) SP ap fi bk (wsG n T S SP ap fi D G i) (wW w i) PL kp tx se ∧ RM t [iI ((wsL' n T S SP ap D i : Nat) : Int)] ∧ Off KMk s t := fun u PL hu ho => by
      obtain ⟨u', e, r, o⟩ := M_tell1 (t := u) (v := iI ((wsL' n T S SP ap D i : Nat) : Int))
      simp only [nmM]
      rw [e, Option.bind_some]
      refine ⟨u', rfl, hu.of fun k j hk => o k j (by simp only [KMn, Bool.or_eq_false_iff, Bool.and_eq_false_iff, beq_eq_false_iff_ne]; unfold cM at hk; omega), r, ho.trans (o.mono fun k j hk => ?_)⟩
      simp only [KMk, KMn, Bool.or_eq_false_iff, Bool.and_eq_false_iff, beq_eq_false_iff_ne] at hk ⊢; omega
    by_cases h0 : i = 0
    · rw [if_pos (by rw [iI_le (by omega) (by omega) (by omega) (by omega)]; omega), if_pos h0]
      exact fin u pl hu ho
    · obtain ⟨u4, f4, hu4, p4⟩ := M_add hu hpl hsn
      rw [if_neg (by rw [iI_le (by omega) (by omega) (by omega) (by omega)]; omega), if_neg h0, f4, Option.bind_some]
      exact fin u4 _ hu4 (ho.trans (p4.mono fun k j hk => by simp only [KMk, KMw, K174, Bool.or_eq_false_iff, Bool.and_eq_false_iff, beq_eq_false_iff_ne] at hk ⊢; omega))
end PV2
theorem op12 : op_12 wInv := fun s a1 hI => by
  obtain ⟨n, T, S, D, SP, ap, fi, bk, G, w, pl, kp, tx, se, l, hv, hw, hm, r1, r2, hl⟩ := id hI
  obtain ⟨x, x1, x2, rfl⟩ := exI a1
  have hn := hv.1.1.1
  have mE : ∀ u, fM_weeks u (iI x) = if ¬ (0 ≤ x ∧ x ≤ 50) then some (iI (-1), wsI u 161 0 (iI 0)) else (fM_putsBy (wsI u 161 0 (iI 0))).bind fun q_6 => wh4 (fM_weeks_L30 (iI x)) 100000 (iI (0)) (iI (0)) (iI (0)) q_6 := fun u => by
    unfold fM_weeks
    simp only [nmM]
    rw [M_in, Option.bind_some, iL x1 x2]
    simp only [bI_0, decide_eq_false_iff_not, show (0 : Int64).toInt = 0 from rfl, show (50 : Int64).toInt = 50 from rfl]
  unfold fW_weeks
  rw [W_isWithin x1 x2 (by omega) (by omega) (by omega) (by omega), Option.bind_some]
  simp only [bI_0, decide_eq_false_iff_not]
  by_cases c1 : 0 ≤ x ∧ x ≤ 50
  · obtain ⟨q, rfl⟩ : ∃ q : Nat, x = q := ⟨x.toNat, by omega⟩
    have wS : ∃ t1 t2, fPa_note s = some t1 ∧ (if iI (q : Int) ≤ iI 0 then fW_weeks_J34 (iI (q : Int)) t1 else (fPa_keepNoted t1).bind fun q_8 => fW_weeks_J34 (iI (q : Int)) q_8) = fW_weeks_J34 (iI (q : Int)) t2 ∧ HW t2 n T S D SP ap fi bk G w (if q = 0 then pl else psh pl (D, G, w)) kp tx se ∧ Off K34 s t2 := by
      obtain ⟨nt, hp⟩ := hw.2.2.1
      obtain ⟨t1, e1, p1, n1, o1⟩ := W_note hw hp hv.2.1.1
      have o1' : Off K34 s t1 := o1.mono fun k j hk => by simp only [K34, Bool.and_eq_false_iff, decide_eq_false_iff_not] at hk ⊢; omega
      by_cases h0 : q = 0
      · refine ⟨t1, t1, e1, ?_, ?_, o1'⟩
        · rw [if_pos (by rw [iI_le (by omega) (by omega) (by omega) (by omega)]; omega)]
        · rw [if_pos h0]; exact hw.toPa ⟨nt, p1⟩ o1'
      · obtain ⟨t, e2, p2, o2⟩ := W_keep p1 hv.2.1.1 n1
        have o2' : Off K34 s t := o1'.trans (o2.mono fun k j hk => by simp only [K34, Bool.and_eq_false_iff, decide_eq_false_iff_not, beq_eq_false_iff_ne] at hk ⊢; omega)
        refine ⟨t1, t, e1, ?_, ?_, o2'⟩
        · rw [if_neg (by rw [iI_le (by omega) (by omega) (by omega) (by omega)]; omega), e2, Option.bind_some]
        · rw [if_neg h0]; exact hw.toPa p2 o2'
    obtain ⟨t1, t2, e1, e2, hw2, o2⟩ := wS
    obtain ⟨t3, e3, hw3, r3, o3⟩ := W_weeksL hv.1 (q := q) (by omega) hw2
    rw [if_neg (by simpa using c1), e1, Option.bind_some, e2, e3]
    have lo : Lo s t3 := fun k hk => by rw [o3.row fun j => KWw_f (by omega), o2.row fun j => K34_f (by omega)]
    have hm1 := hm.lo lo
    obtain ⟨u1, f1, hu1, q1, p1⟩ := M_put (hm1.thr (v := iI 0)) hv.2.1.1
    obtain ⟨u3, f3, hu3, rr3, p3⟩ := M_weeksL hv.1 (q := q) (by omega) hv.2.1.1 hu1 q1
    refine ⟨_, t3, u3, rfl, ?_, wInv_mk ⟨hv.1.it q, ?_, hv.2.2⟩ hw3 (fun k hk => ?_) hu3 r3 rr3 (by simp)⟩
    · rw [mE, if_neg (by simpa using c1), f1, Option.bind_some, f3]
    · split
      · exact hv.2.1
      · exact psh_ok hv.2.1 ⟨hv.1.2.1, hw.2.1.2.2⟩
    · rw [p3.row (k := k) fun j => KMk_f (by omega), p1.row (k := k) fun j => by simp; omega, rd_ne (by omega)]
  · rw [if_pos c1]
    refine ⟨iI (-1), s, wsI s 161 0 (iI 0), rfl, ?_, wInv_thr hI⟩
    rw [mE, if_pos c1]
