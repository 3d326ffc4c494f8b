section PV
variable {s t : wM} {n : Nat} {T : Nat → Nat → Bool} {S : Nat → Nat → Int} {D D' SP : Nat → Int} {ap fi bk : Int} {rain : Int} {bits : Nat} {k : Nat} {G : Nat → Int32} {w : Int32} {pl pl' : List PI} {kp : Nat → KI} {tx : List Nat} {se : List (Nat × Nat)}
def K34 : Nat → Nat → Bool := fun k _ => decide (34 ≤ k) && decide (k ≤ 140)
def K174 : Nat → Nat → Bool := fun a j => a == 174 || a == 161 && j == 20
theorem K34_f {a j : Nat} (h : ¬ (34 ≤ a ∧ a ≤ 140)) : K34 a j = false := by simp only [K34, Bool.and_eq_false_iff, decide_eq_false_iff_not]; omega
theorem K174_f {a j : Nat} (h : ¬ (a = 174 ∨ a = 161 ∧ j = 20)) : K174 a j = false := by simp only [K174, Bool.or_eq_false_iff, Bool.and_eq_false_iff, beq_eq_false_iff_ne]; omega
theorem HW.toPa (h : HW s n T S D SP ap fi bk G w pl kp tx se) (p : ∃ nt, PaW t nt pl') (o : Off K34 s t) : HW t n T S D SP ap fi bk G w pl' kp tx se :=
  ⟨h.1.of fun k j hk => o k j (K34_f (by omega)), h.2.1.of (o.row fun j => rfl) (o 7 5 rfl), p, fun i hi => KpW.of hi _ (h.2.2.2.1 i hi) fun k j hk => o k j (K34_f (by omega)), h.2.2.2.2.1.of (o 1 1 rfl) (o.row fun j => rfl), h.2.2.2.2.2.of (o 142 0 rfl) (o.row fun j => rfl) (o.row fun j => rfl)⟩
theorem HM.toPa (h : HM s n T S D SP ap fi bk G w pl kp tx se) (p : PaM t pl') (o : Off K174 s t) : HM t n T S D SP ap fi bk G w pl' kp tx se :=
  ⟨h.1.of fun k j hk => o k j (K174_f (by omega)), h.2.1.of (o.row fun j => rfl) (o 161 10 rfl), p, fun i hi => KpM.of _ (h.2.2.2.1 i hi) (o.row fun j => rfl) (o.row fun j => rfl), h.2.2.2.2.1.of (o 161 12 rfl) (o.row fun j => rfl), h.2.2.2.2.2.of (o 161 43 rfl) (o.row fun j => rfl) (o.row fun j => rfl)⟩
theorem W_save (hw : HW s n T S D SP ap fi bk G w pl kp tx se) (hl : pl.length ≤ 20) : ∃ t1 t, fPa_note s = some t1 ∧ fPa_keepNoted t1 = some t ∧ HW t n T S D SP ap fi bk G w (psh pl (D, G, w)) kp tx se ∧ Off K34 s t := by
  obtain ⟨nt, hp⟩ := hw.2.2.1
  obtain ⟨t1, e1, p1, n1, o1⟩ := W_note hw hp hl
  obtain ⟨t, e2, p2, o2⟩ := W_keep p1 hl n1
  have o : Off K34 s t := (o1.mono fun k j hk => by simp only [K34, Bool.and_eq_false_iff, decide_eq_false_iff_not] at hk ⊢; omega).trans (o2.mono fun k j hk => by simp only [K34, Bool.and_eq_false_iff, decide_eq_false_iff_not, beq_eq_false_iff_ne] at hk ⊢; omega)
  exact ⟨t1, t, e1, e2, hw.toPa p2 o, o⟩
theorem M_put (hm : HM s n T S D SP ap fi bk G w pl kp tx se) (hl : pl.length ≤ 20) : ∃ t, fM_putsBy s = some t ∧ HM t n T S D SP ap fi bk G w pl kp tx se ∧ SnM t pl.length (D, G, w) ∧ Off (fun a _ => a == 174) s t := by
  obtain ⟨t, e, p, q, o⟩ := M_putsBy hm hl
  exact ⟨t, e, hm.toPa p (o.mono fun k j hk => by simp only [K174, Bool.or_eq_false_iff] at hk; exact hk.1), q, o⟩
theorem M_add {x : PI} (hm : HM s n T S D SP ap fi bk G w pl kp tx se) (hl : pl.length ≤ 20) (hx : SnM s pl.length x) : ∃ t, fM_adds s = some t ∧ HM t n T S D SP ap fi bk G w (psh pl x) kp tx se ∧ Off K174 s t := by
  obtain ⟨t, e, p, o⟩ := M_adds hm.2.2.1 hl hx
  exact ⟨t, e, hm.toPa p o, o⟩
theorem CW.R8 (h : CW s n T S D SP ap fi bk) : CW (wRo s 8 (fun j => iI (D' j))) n T S D' SP ap fi bk := by
  obtain ⟨h1, h2, h3, h4, h5, h6, h7⟩ := h
  refine ⟨h1.of (by rw [wR_ne (by decide)]) (wR_ne (by decide)), wR_Rw, h3.ne (by decide), ?_, ?_, ?_, fun j hj => ?_⟩
  · rw [wR_ne (by decide)]; exact h4
  · rw [wR_ne (by decide)]; exact h5
  · rw [wR_ne (by decide)]; exact h6
  · rw [wR_ne (by decide), wR_ne (by decide)]; exact h7 j hj
theorem CM.R163 (h : CM s n T S D SP ap fi bk) : CM (wRo s 163 (fun j => iI (D' j))) n T S D' SP ap fi bk := by
  obtain ⟨h1, h2, h3, h4, h5, h6, h7⟩ := h
  refine ⟨h1.of (by rw [wR_ne (by decide)]) (wR_ne (by decide)) (wR_ne (by decide)), wR_Rw, h3.ne (by decide), ?_, ?_, ?_, fun j hj => ?_⟩
  · rw [wR_ne (by decide)]; exact h4
  · rw [wR_ne (by decide)]; exact h5
  · rw [wR_ne (by decide)]; exact h6
  · rw [wR_ne (by decide), wR_ne (by decide)]; exact h7 j hj
theorem HW.R8 (h : HW s n T S D SP ap fi bk G w pl kp tx se) : HW (wRo s 8 (fun j => iI (D' j))) n T S D' SP ap fi bk G w pl kp tx se :=
  h.cw h.1.R8 (h.2.1.of (wR_ne (by decide)) (by rw [wR_ne (by decide)])) (fun k hk => wR_ne (by omega))
theorem HM.R163 (h : HM s n T S D SP ap fi bk G w pl kp tx se) : HM (wRo s 163 (fun j => iI (D' j))) n T S D' SP ap fi bk G w pl kp tx se :=
  h.cm2 h.1.R163 (h.2.1.of (wR_ne (by decide)) (by rw [wR_ne (by decide)])) (fun k j hk => by rw [wR_ne (by omega)])
theorem mv_Z9 {b : Int} {x y : Nat} (h : Z9 D) (hx : x < 9) (hy : y < 9) : Z9 (mv b D x y) := uI_Z9 (uI_Z9 h hx) hy
theorem mv_cv {a b : Nat} (hv : CV n T S D SP ap fi bk) (hc : cc T bk D a b = true) : CV n T S (mv bk D a b) SP ap fi bk := by
  have hn := hv.1.1
  have h := cc_ne hv.1 hc
  have hbk := hv.2.2.2.2.2.2.2
  exact ⟨hv.1, mv_bd h.1 hv.2.1 h.2.2.2.1 h.2.2.2.2 (by omega), mv_Z9 hv.2.2.1 (by omega) (by omega), hv.2.2.2⟩
end PV
theorem op9 : op_9 wInv := fun s a1 a2 hI => by
  obtain ⟨n, T, S, D, SP, ap, fi, bk, G, w, pl, kp, tx, se, l, hv, hw, hm, r1, r2, hl⟩ := id hI
  obtain ⟨x, x1, x2, rfl⟩ := exI a1
  obtain ⟨y, y1, y2, rfl⟩ := exI a2
  have hn := hv.1.1.1
  have hbk := hv.1.2.2.2.2.2.2.2
  have hm0 := hm.1.thr (v := iI 0)
  unfold fW_carry
  rw [Land_hasTwo hn hw.1.1 y1 y2 x1 x2, Option.bind_some]
  simp only [bI_0, decide_eq_false_iff_not]
  by_cases c : 0 ≤ x ∧ x < n ∧ 0 ≤ y ∧ y < n ∧ x ≠ y
  · obtain ⟨b, rfl⟩ : ∃ q : Nat, y = q := ⟨y.toNat, by omega⟩
    obtain ⟨a, rfl⟩ : ∃ g : Nat, x = g := ⟨x.toNat, by omega⟩
    have mE : ∀ u, HM u n T S D SP ap fi bk G w pl kp tx se → fM_carry u (iI (a : Int)) (iI (b : Int)) = if T a b = false then some (iI (-2), wsI u 161 0 (iI 0)) else if cc T bk D a b = false then some (iI (-3), wsI u 161 0 (iI 0)) else (fM_putsBy (wsI u 161 0 (iI 0))).bind fun q => (fM_carries q 163 (iI (a : Int)) (iI (b : Int))).bind fun q => (fM_adds q).bind fun q => some (q.1 163 a, q) := fun u hu => by
      have hm1 := hu.1.thr (v := iI 0)
      unfold fM_carry
      simp only [nmM]
      rw [M_areTwo hn hm1.1 y1 y2 x1 x2, Option.bind_some]
      simp only [bI_0, decide_eq_false_iff_not]
      rw [if_neg (by simpa using c), chk_in (by omega) (by omega) (by omega), iI_natc (by omega), M_tb hm1.1 (by omega) (by omega), Option.bind_some, M_canCarry hm1.1 hm1.2.1 hv.1.2.1 hm1.2.2.2.2.2.1 hbk (by omega) (by omega), Option.bind_some]
      simp only [bI_0]
    rw [if_neg (by simpa using c), Land_between hw.1.1 (by omega) (by omega), Option.bind_some, Land_canCarry hv.1.1 hw.1.1 hw.1.2.1 hv.1.2.1 hw.1.2.2.2.2.2.1 hbk (by omega) (by omega), Option.bind_some]
    simp only [between_n hv.1.1, bI_0]
    by_cases hT : T a b = true
    · rw [if_neg (by rw [hT]; decide)]
      by_cases hc : cc T bk D a b = true
      · rw [if_neg (by rw [hc]; decide)]
        obtain ⟨t1, t, e1, e2, hw2, o2⟩ := W_save hw hv.2.1.1
        rw [e1, Option.bind_some, e2, Option.bind_some, Land_bring hw2.1.2.1 hw2.1.2.2.2.2.2.1 (by omega) (by omega), Option.bind_some, chk_in (by omega) (by omega) (by omega), iI_natc (by omega), wRo_at]
        have lo : Lo s (wRo t 8 (fun j => iI (mv bk D a b j))) := fun k hk => by rw [wR_ne (by omega), o2.row fun j => K34_f (by omega)]
        have hm1 := hm.lo lo
        have hm2 := hm1.thr (v := iI 0)
        obtain ⟨u1, f1, hu1, q1, p1⟩ := M_put hm2 hv.2.1.1
        have q2 : SnM (wRo u1 163 (fun j => iI (mv bk D a b j))) pl.length (D, G, w) := q1.of (wR_ne (by decide))
        obtain ⟨u2, f2, hu2, p2⟩ := M_add (hu1.R163 (D' := mv bk D a b)) hv.2.1.1 q2
        refine ⟨_, _, u2, rfl, ?_, wInv_mk (s1 := wRo t 8 (fun j => iI (mv bk D a b j))) ⟨mv_cv hv.1 hc, psh_ok hv.2.1 ⟨hv.1.2.1, hw.2.1.2.2⟩, hv.2.2⟩ hw2.R8 (fun k hk => ?_) hu2 (r1.of ?_ ?_) ((r2.lo lo).of ?_ ?_) hl⟩
        · rw [mE _ hm1, if_neg (by rw [hT]; decide), if_neg (by rw [hc]; decide), f1, Option.bind_some, M_carries (by decide) hu1.1.2.1 hu1.1.2.2.2.2.2.1 (by omega) (by omega), Option.bind_some, f2, Option.bind_some, show u2.1 163 = _ from hu2.1.2.1]
        · rw [p2.row (k := k) fun j => K174_f (by omega), wR_ne (by omega), p1.row (k := k) fun j => by simp; omega, rd_ne (by omega)]
        · rw [wR_ne (by decide), o2 32 1 rfl]
        · rw [wR_ne (by decide), o2.row fun j => rfl]
        · rw [p2 161 1 rfl, wR_ne (by decide), p1 161 1 rfl, rd_of (by decide)]
        · rw [p2.row (k := 162) fun j => rfl, wR_ne (by decide), p1.row (k := 162) fun j => rfl, rd_ne (by decide)]
      · have hc' : cc T bk D a b = false := by simpa using hc
        rw [if_pos hc']
        refine ⟨iI (-3), s, wsI s 161 0 (iI 0), rfl, ?_, wInv_thr hI⟩
        rw [mE s hm, if_neg (by rw [hT]; decide), if_pos hc']
    · have hT' : T a b = false := by simpa using hT
      rw [if_pos hT']
      refine ⟨iI (-2), s, wsI s 161 0 (iI 0), rfl, ?_, wInv_thr hI⟩
      rw [mE s hm, if_pos hT']
  · rw [if_pos c]
    refine ⟨iI (-1), s, wsI s 161 0 (iI 0), rfl, ?_, wInv_thr hI⟩
    unfold fM_carry
    simp only [nmM]
    rw [M_areTwo hn hm0.1 y1 y2 x1 x2, Option.bind_some]
    simp only [bI_0, decide_eq_false_iff_not]
    rw [if_pos c]
theorem op11 : op_11 wInv := fun s a1 a2 hI => by
  obtain ⟨n, T, S, D, SP, ap, fi, bk, G, w, pl, kp, tx, se, l, hv, hw, hm, r1, r2, hl⟩ := id hI
  obtain ⟨x, x1, x2, rfl⟩ := exI a1
  obtain ⟨y, y1, y2, rfl⟩ := exI a2
  have hn := hv.1.1.1
  have hfi := hv.1.2.2.2.2.2.2.1
  have hap : 0 ≤ ap ∧ ap ≤ 9 := by have := hv.1.2.2.2.2.2.1; omega
  have hp2 : 2 ^ n ≤ 2 ^ 9 := Nat.pow_le_pow_right (by omega) hn
  have mE : ∀ u, HM u n T S D SP ap fi bk G w pl kp tx se → fM_week u (iI x) (iI y) = if ¬ (-9 ≤ x ∧ x ≤ 9) then some (iI (-1), wsI u 161 0 (iI 0)) else if ¬ (0 ≤ y ∧ y < ((2 ^ n : Nat) : Int)) then some (iI (-1), wsI u 161 0 (iI 0)) else (fM_putsBy (wsI u 161 0 (iI 0))).bind fun q_9 => (fM_weekPays q_9 (iI x) (iI y)).bind fun q_11 => (fM_adds q_11.2).bind fun q_13 => (fM_enters (wsI q_13 161 1 (iI (0))) q_11.1).bind fun q_16 => (fM_enters q_16 (q_16.1 161 27)).bind fun q_18 => (fM_evenPairs q_18 163).bind fun q_20 => some (q_20, q_18) := fun u hu => by
    have hm1 := hu.1.thr (v := iI 0)
    unfold fM_week fM_week_J27
    simp only [nmM]
    rw [M_in, Option.bind_some, M_areBits hn hm1.1 y1 y2, Option.bind_some, iL x1 x2]
    simp only [bI_0, decide_eq_false_iff_not, show (-9 : Int64).toInt = -9 from rfl, show (9 : Int64).toInt = 9 from rfl]
  unfold fW_week fW_week_J22
  rw [W_isWithin x1 x2 (by omega) (by omega) (by omega) (by omega), Option.bind_some, Land_hasAll hw.1.1 hn y1 y2, Option.bind_some]
  simp only [bI_0, decide_eq_false_iff_not]
  by_cases c1 : -9 ≤ x ∧ x ≤ 9
  · by_cases c2 : 0 ≤ y ∧ y < ((2 ^ n : Nat) : Int)
    · obtain ⟨b, rfl⟩ : ∃ q : Nat, y = q := ⟨y.toNat, by omega⟩
      have hb : b < 512 := by omega
      obtain ⟨t1, t, e1, e2, hw2, o2⟩ := W_save hw hv.2.1.1
      obtain ⟨t3, e3, hw3, l3, o3⟩ := W_lwp hv.1 hw2 c1 hb
      rw [if_neg (by simpa using c1), if_neg (by simpa using c2), e1, Option.bind_some, e2, Option.bind_some, e3, Option.bind_some]
      have hb' := ep_nn hv.1.1 ap (wk n T S SP D x b)
      dsimp only
      rw [z1, hw3.1.2.2.2.2.1, iI_mul, iI_mul]
      obtain ⟨t4, t5, e4, e5, r5, o5, o4⟩ := W_tell2 (t := t3) (v := iI (2 * ep n T ap (wk n T S SP D x b) * fi)) (w := iI (lst n T S SP D x b))
      rw [e4, Option.bind_some, o4 13 7 rfl, l3, e5, Option.bind_some]
      have lo : Lo s t5 := fun k hk => by rw [o5.row fun j => by simp only [KN, Bool.or_eq_false_iff, beq_eq_false_iff_ne]; omega, o3.row fun j => KLw_f (by omega), o2.row fun j => K34_f (by omega)]
      have hm1 := hm.lo lo
      have hm2 := hm1.thr (v := iI 0)
      obtain ⟨u1, f1, hu1, q1, p1⟩ := M_put hm2 hv.2.1.1
      obtain ⟨u3, f3, hu3, l3', p3⟩ := M_wp hv.1 hu1 c1 hb
      have q2 : SnM u3 pl.length (D, G, w) := q1.of (p3.row fun j => rfl)
      obtain ⟨u4, f4, hu4, p4⟩ := M_add hu3 hv.2.1.1 q2
      obtain ⟨u5, u6, f5, f6, r6, p6, p5⟩ := M_tell2 (t := u4) (v := iI (fi * ep2 n T ap (wk n T S SP D x b))) (w := iI (lst n T S SP D x b))
      have hu6 : HM u6 n T S (wk n T S SP D x b) SP ap fi bk (Gn n T ap (wk n T S SP D x b) fi G) (w + iI 1) (psh pl (D, G, w)) kp tx se := hu4.of fun k j hk => p6 k j (by
        simp only [KMn, Bool.or_eq_false_iff, Bool.and_eq_false_iff, beq_eq_false_iff_ne]; unfold cM at hk; omega)
      refine ⟨_, t5, u6, rfl, ?_, wInv_mk (s1 := t5) ⟨⟨hv.1.1, wk_bd hv.1.2.1, wk_Z9 hn hv.1.2.2.1, hv.1.2.2.2⟩, psh_ok hv.2.1 ⟨hv.1.2.1, hw.2.1.2.2⟩, hv.2.2⟩ (hw3.of fun k j hk => o5 k j (by simp only [KN, Bool.or_eq_false_iff, beq_eq_false_iff_ne]; unfold cW at hk; omega)) (fun k hk => ?_) hu6 r5 ?_ (by simp)⟩
      · rw [mE _ hm1, if_neg (by simpa using c1), if_neg (by simpa using c2), f1, Option.bind_some, f3, Option.bind_some]
        dsimp only
        rw [f4, Option.bind_some, f5, Option.bind_some, p5 161 27 rfl, p4 161 27 rfl, l3', f6, Option.bind_some, M_evenPairs hv.1.1 hu6.1.1 hu6.1.2.1 (wk_bd hv.1.2.1) hu6.1.2.2.2.1 hap, Option.bind_some]
      · rw [p6.row (k := k) fun j => by simp only [KMn, Bool.or_eq_false_iff, Bool.and_eq_false_iff, beq_eq_false_iff_ne]; omega, p4.row (k := k) fun j => K174_f (by omega), p3.row (k := k) fun j => KMw_f (by omega), p1.row (k := k) fun j => by simp; omega, rd_ne (by omega)]
      · rw [show iI (2 * ep n T ap (wk n T S SP D x b) * fi) = iI (fi * ep2 n T ap (wk n T S SP D x b)) by rw [ep2_ep hv.1.1]; congr 1; rw [Int.mul_comm]]; exact r6
    · rw [if_neg (by simpa using c1), if_pos c2]
      refine ⟨iI (-1), s, wsI s 161 0 (iI 0), rfl, ?_, wInv_thr hI⟩
      rw [mE s hm, if_neg (by simpa using c1), if_pos c2]
  · rw [if_pos c1]
    refine ⟨iI (-1), s, wsI s 161 0 (iI 0), rfl, ?_, wInv_thr hI⟩
    rw [mE s hm, if_pos c1]
