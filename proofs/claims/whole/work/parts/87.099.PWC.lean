theorem rdA_nok {tx : List Nat} : (rdA tx 40 (nlN (cT tx) (min 40 tx.length)) 9).1 = none → (∀ i, i < (rdA tx 40 (nlN (cT tx) (min 40 tx.length)) 9).2.1 → nOK ((rdA tx 40 (nlN (cT tx) (min 40 tx.length)) 9).2.2 i)) ∧ (rdA tx 40 (nlN (cT tx) (min 40 tx.length)) 9).2.1 ≤ 15 := by
  unfold rdA
  by_cases c0 : tx.length = 0
  · rw [if_pos c0]
    exact fun _ => ⟨fun i hi => absurd hi (Nat.not_lt_zero i), Nat.zero_le _⟩
  · rw [if_neg c0]
    exact fun h => rdLn_nok (c := cT tx) (L := min 40 tx.length) (by omega) (min 40 tx.length + 1) 0 0 g0 (fun i hi => absurd hi (Nat.not_lt_zero i)) (by omega) (by omega) h
theorem op10 : op_10 wInv := fun s hI => by
  obtain ⟨n, T, S, D, SP, ap, fi, bk, G, w, pl, kp, tx, se, l, hv, hw, hm, r1, r2, hl⟩ := id hI
  have hx := hv.2.2.2.1
  have hx1 := hx.1
  have hl20 := hv.2.1.1
  obtain ⟨t1, e1, o1, ll1⟩ := W_readNight hx hw.2.2.2.2.1
  have hM := fun u hu => M_nrdA (s := u) (n := n) (T := T) (S := S) (D := D) (SP := SP) (ap := ap) (fi := fi) (bk := bk) (G := G) (w := w) (pl := pl) (kp := kp) (se := se) hu hx
  have hgd := rdA_nok (tx := tx)
  generalize rdA tx 40 (nlN (cT tx) (min 40 tx.length)) 9 = R at e1 ll1 hM hgd
  obtain ⟨v, hv0⟩ : ∃ v : Int, v = rsv (min 40 tx.length) 40 tx.length R.1 := ⟨_, rfl⟩
  rw [← hv0] at e1
  have hb : -1 ≤ v ∧ v ≤ 80 ∧ (v = -1 → R.1 = none) := by
    obtain ⟨_, q, b, _, _, pq, _, _, hr, _⟩ := hM s hm
    have hq := pq.2.1
    rw [hv0, hr]
    by_cases c : b = true ∧ q = min 40 tx.length
    · rw [if_pos c]
      simp only [rsv]
      split
      · exact ⟨by omega, by omega, fun _ => trivial⟩
      · exact ⟨by omega, by omega, fun _ => trivial⟩
    · rw [if_neg c]
      simp only [rsv]
      exact ⟨by omega, by omega, fun h => by omega⟩
  have mF : ∀ u, HM u n T S D SP ap fi bk G w pl kp tx se → ∃ t, Off KnO u t ∧ t.1 161 12 = iI 0 ∧ (v ≠ -1 → fM_night u = some (iI (-1 - v), t)) ∧ (v = -1 → NCo t R.2.1 R.2.2 ∧ fM_night u = (fM_putsBy t).bind fun q_6 => wh4 fM_night_L91 100000 (iI 0) (iI 1) (iI 0) q_6) := fun u hu => by
    obtain ⟨t, q, b, N', e, pq, t12, ot, hr, hk⟩ := hM u hu
    have hf : fM_faultOf t (iI (tx.length : Int)) (iI 40) (bI b) = _ := M_faultOf (M := 40) (sz := tx.length) (b := b) pq (by omega) hx1 rfl
    rw [← hr, ← hv0] at hf
    generalize wh3 (fM_night_L29 (iI (tx.length : Int))) N' = kk at e
    unfold fM_night_L29 at e
    rw [if_pos rfl, hf, Option.bind_some] at e
    refine ⟨t, ot, t12, fun h => ?_, fun h => ?_⟩
    · rw [e, if_neg (by rw [iI_le (by omega) (by omega) (by omega) (by omega)]; omega)]
    · rw [e, if_pos (by rw [iI_le (by omega) (by omega) (by omega) (by omega)]; omega)]
      have c : b = true ∧ q = min 40 tx.length := Decidable.byContradiction fun c => by
        have h2 := hb.2.2 h
        rw [hr, if_neg c] at h2
        cases h2
      exact ⟨hk c, rfl⟩
  have lo1 : Lo s (wsI t1 1 1 (iI 0)) := fun k hk => by rw [rd_ne (by omega), o1.row fun j => KRd_f (by omega)]
  have oW : ∀ k j, ¬ (k = 1 ∨ (3 ≤ k ∧ k ≤ 6)) → (wsI t1 1 1 (iI 0)).1 k j = s.1 k j := fun k j hk => by rw [rd_ne (by omega), o1 k j (KRd_f (by omega))]
  have eC := Tx_cut0 (s := t1) hx1 (by rw [o1 1 1 rfl]; exact hw.2.2.2.2.1.1)
  have s11 : (wsI t1 1 1 (iI 0)).1 1 1 = iI 0 := rd_at
  have sll : R.1 = none → LLs (wsI t1 1 1 (iI 0)) R.2.1 R.2.2 := fun h => ⟨by rw [rd_ne (by decide)]; exact (ll1 h).1, fun i hi => by rw [rd_ne (by decide), rd_ne (by decide), rd_ne (by decide)]; exact (ll1 h).2 i hi⟩
  unfold fW_night
  rw [e1, Option.bind_some, eC, Option.bind_some]
  dsimp only
  generalize wsI t1 1 1 (iI 0) = s1 at lo1 oW s11 sll ⊢
  obtain ⟨nt, hp⟩ := hw.2.2.1
  have hp1 : PaW s1 nt pl := hp.of fun k j hk => oW k j (by omega)
  have hw1 : HW s1 n T S D SP ap fi bk G w pl kp [] se := hw.cty (hw.1.of fun k j hk => oW k j (by omega)) (Nat.le_refl n) ⟨nt, hp1⟩ s11 (fun k j hk => oW k j (by omega))
  by_cases hv1 : v = -1
  · have hR := hb.2.2 hv1
    obtain ⟨g1, g2⟩ := hgd hR
    have ll := sll hR
    obtain ⟨s2, e2, p2, n2, o2⟩ := W_note hw1 hp1 hl20
    have o2' : ∀ k j, ¬ (36 ≤ k ∧ k ≤ 140) → s2.1 k j = s1.1 k j := fun k j hk => o2 k j (by simp only [Bool.and_eq_false_iff, decide_eq_false_iff_not]; omega)
    have ll2 : LLs s2 R.2.1 R.2.2 := ⟨by rw [o2' 3 3 (by omega)]; exact ll.1, fun i hi => by
      rw [o2' 4 i (by omega), o2' 5 i (by omega), o2' 6 i (by omega)]; exact ll.2 i hi⟩
    have cw2 : CW s2 n T S D SP ap fi bk := hw1.1.of fun k j hk => o2' k j (by omega)
    have e3 := W_nightL (g := R.2.2) (k := R.2.1) g1 g2 R.2.1 100000 0 D s2 0 (by omega) (by omega) (by omega) hv.1 cw2 ll2
    have zle := nrn_le (T := T) (bk := bk) g1 R.2.1 0 D (by omega)
    have zcv := nrn_cv (g := R.2.2) R.2.1 0 D hv.1
    have eM := fun (u : wM) (h1 : CM u n T S D SP ap fi bk) (h2 : NCo u R.2.1 R.2.2) => M_nightL (g := R.2.2) (k := R.2.1) g1 g2 R.2.1 100000 0 D u 0 (by omega) (by omega) (by omega) hv.1 h1 h2
    generalize nrn T bk R.2.2 R.2.1 0 D = z at e3 zle zcv eM
    rw [Nat.zero_add] at e3
    have e3' : wh4 fW_night_L48 100000 (iI 0) (iI 0) (iI 0) s2 = fW_night_J132 (bI z.2.2) (iI (z.1 : Int)) (wRo s2 8 (fun j => iI (z.2.1 j))) := e3
    obtain ⟨s3, e4, p4, r4, o4⟩ := W_nightEnd (s := wRo s2 8 (fun j => iI (z.2.1 j))) (nt := nt) (c := z.1) (v := z.2.2) (x := (D, G, w)) (by omega) (p2.of fun k j hk => by rw [wR_ne (by omega)]) hl20 (n2.of fun j => ⟨by rw [wR_ne (by omega)], by rw [wR_ne (by omega)], by rw [wR_ne (by omega)]⟩)
    have o4' : ∀ k j, ¬ (k = 32 ∨ k = 33 ∨ k = 34 ∨ k = 8) → s3.1 k j = s2.1 k j := fun k j hk => by
      rw [o4 k j (by simp only [Bool.or_eq_false_iff, beq_eq_false_iff_ne]; omega), wR_ne (by omega)]
    have cw3 : CW s3 n T S z.2.1 SP ap fi bk := cw2.R8.of fun k j hk => o4 k j (by simp only [Bool.or_eq_false_iff, beq_eq_false_iff_ne]; omega)
    have lo3 : Lo s s3 := fun k hk => funext fun j => by rw [o4' k j (by omega), o2' k j (by omega)]; exact congrFun (lo1 k hk) j
    have hm3 := hm.lo lo3
    obtain ⟨t4, q4, t12, _, f4⟩ := mF s3 hm3
    obtain ⟨w4, e5⟩ := f4 hv1
    have dn : ∀ k j, ¬ ((k = 161 ∧ (j = 0 ∨ j = 12 ∨ j = 13 ∨ j = 14 ∨ j = 15 ∨ j = 25)) ∨ k = 172 ∨ k = 173 ∨ (175 ≤ k ∧ k ≤ 177)) → t4.1 k j = s3.1 k j := fun k j hk => q4 k j (KnO_f hk)
    have hm4 : HM t4 n T S D SP ap fi bk G w pl kp [] se := hm3.cty (hm3.1.of fun k j hk => dn k j (by omega)) (funext fun j => dn 167 j (by omega)) (hm3.2.2.1.of (dn 161 20 (by omega)) (funext fun j => dn 174 j (by omega))) t12 (fun k j hk => dn k j (by omega))
    obtain ⟨t5, f5, p5, n5, q5⟩ := M_putsBy hm4 hl20
    have q5' : ∀ k j, k ≠ 174 → t5.1 k j = t4.1 k j := fun k j hk => q5 k j (by simp only [beq_eq_false_iff_ne]; omega)
    have cm5 : CM t5 n T S D SP ap fi bk := hm4.1.of fun k j hk => q5' k j (by omega)
    have nc5 : NCo t5 R.2.1 R.2.2 := ⟨by rw [q5' 161 25 (by decide)]; exact w4.1, fun i hi => by rw [q5' 175 i (by decide), q5' 176 i (by decide), q5' 177 i (by decide)]; exact w4.2 i hi⟩
    have e6 := eM t5 cm5 nc5
    rw [Nat.zero_add] at e6
    have e6' : wh4 fM_night_L91 100000 (iI 0) (iI 1) (iI 0) t5 = fM_night_J220 (iI (z.1 : Int)) (bI (!z.2.2)) (wRo t5 163 (fun j => iI (z.2.1 j))) := e6
    obtain ⟨t6, e7, p7, r7, o7⟩ := M_nightEnd (s := wRo t5 163 (fun j => iI (z.2.1 j))) (c := z.1) (v := z.2.2) (x := (D, G, w)) (by omega) (p5.of (by rw [wR_ne (by decide)]) (wR_ne (by decide))) hl20 (n5.of (wR_ne (by decide)))
    have o7' : ∀ k j, ¬ (k = 162 ∨ k = 174 ∨ (k = 161 ∧ (j = 1 ∨ j = 20))) → t6.1 k j = (wRo t5 163 (fun j => iI (z.2.1 j))).1 k j := fun k j hk => o7 k j (by simp only [Bool.or_eq_false_iff, Bool.and_eq_false_iff, beq_eq_false_iff_ne]; omega)
    have dn6 : ∀ k j, ¬ ((k = 161 ∧ (j = 0 ∨ j = 1 ∨ j = 12 ∨ j = 13 ∨ j = 14 ∨ j = 15 ∨ j = 20 ∨ j = 25)) ∨ k = 162 ∨ k = 163 ∨ k = 172 ∨ k = 173 ∨ k = 174 ∨ (175 ≤ k ∧ k ≤ 177)) → t6.1 k j = s3.1 k j := fun k j hk => by rw [o7' k j (by omega), wR_ne (by omega), q5' k j (by omega), dn k j (by omega)]
    have cm6 : CM t6 n T S z.2.1 SP ap fi bk := cm5.R163.of fun k j hk => o7' k j (by omega)
    rw [if_pos (by rw [hv1]), e2, Option.bind_some, e3', e4]
    refine ⟨iI (z.1 : Int), s3, t6, rfl, by rw [e5, f5, Option.bind_some, e6', e7], ?_⟩
    have hw3 := hw1.cty cw3 (Nat.le_refl n) p4 (by rw [o4' 1 1 (by omega), o2' 1 1 (by omega)]; exact s11) (fun k j hk => by rw [o4' k j (by omega), o2' k j (by omega)])
    have hm6 := hm3.cty cm6 (funext fun j => dn6 167 j (by omega)) p7 (by rw [o7' 161 12 (by omega), wR_ne (by decide), q5' 161 12 (by decide)]; exact t12) (fun k j hk => dn6 k j (by omega))
    refine wInv_mk (s1 := s3) ⟨zcv, ?_, hv.2.2.1, ⟨Nat.zero_le _, fun x hx => by cases hx⟩, hv.2.2.2.2⟩ hw3 (fun k hk => funext fun j => dn6 k j (by omega)) hm6 r4 r7 (by simp)
    split
    · exact hv.2.1
    · exact psh_ok hv.2.1 ⟨hv.1.2.1, hw.2.1.2.2⟩
  · rw [if_neg (by rw [iI_eq (by omega) (by omega) (by omega) (by omega)]; omega), iI_sub]
    have hm1 := hm.lo lo1
    obtain ⟨t4, o4, t12, f4, _⟩ := mF _ hm1
    have dn : ∀ k j, ¬ ((k = 161 ∧ (j = 0 ∨ j = 12 ∨ j = 13 ∨ j = 14 ∨ j = 15 ∨ j = 25)) ∨ k = 172 ∨ k = 173 ∨ (175 ≤ k ∧ k ≤ 177)) → t4.1 k j = s1.1 k j := fun k j hk => o4 k j (KnO_f hk)
    refine ⟨_, _, t4, rfl, f4 hv1, ?_⟩
    have hm4 : HM t4 n T S D SP ap fi bk G w pl kp [] se := hm1.cty (hm1.1.of fun k j hk => dn k j (by omega)) (funext fun j => dn 167 j (by omega)) (hm1.2.2.1.of (dn 161 20 (by omega)) (funext fun j => dn 174 j (by omega))) t12 (fun k j hk => dn k j (by omega))
    exact wInv_mk (s1 := s1) ⟨hv.1, hv.2.1, hv.2.2.1, ⟨Nat.zero_le _, fun x hx => by cases hx⟩, hv.2.2.2.2⟩ hw1 (fun k hk => funext fun j => dn k j (by omega)) hm4 (r1.of (oW 32 1 (by omega)) (funext fun j => oW 33 j (by omega))) ((r2.lo lo1).of (dn 161 1 (by omega)) (funext fun j => dn 162 j (by omega))) hl
