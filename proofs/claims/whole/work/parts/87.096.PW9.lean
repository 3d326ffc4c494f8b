theorem op2 : op_2 wInv := fun s hI => by
  obtain ⟨n, T, S, D, SP, ap, fi, bk, G, w, pl, kp, tx, se, l, hv, hw, hm, r1, r2, hl⟩ := id hI
  have hn := hv.1.1.1
  have hx := hv.2.2.2.1
  have hx1 := hx.1
  have hL : LV (n, T, S, D, SP) := ⟨hv.1.1, hv.1.2.1, hv.1.2.2.1, hv.1.2.2.2.1, hv.1.2.2.2.2.1⟩
  obtain ⟨t1, e1, o1, ll1⟩ := W_readCounty hx hw.2.2.2.2.1 hn
  have hM := fun u hu => M_rdA (s := u) (T := T) (S := S) (D := D) (SP := SP) (ap := ap) (fi := fi) (bk := bk) (G := G) (w := w) (pl := pl) (kp := kp) (se := se) hv.1 hu hx
  have hgd := rdA_good hL hx
  dsimp only at hgd
  generalize rdA tx 76 (clN (cT tx) (min 76 tx.length)) n = R at e1 ll1 hM hgd
  obtain ⟨v, hv0⟩ : ∃ v : Int, v = rsv (min 76 tx.length) 76 tx.length R.1 := ⟨_, rfl⟩
  rw [← hv0] at e1
  have hb : -1 ≤ v ∧ v ≤ 80 ∧ (v = -1 → R.1 = none) := by
    obtain ⟨_, q, b, k', _, _, pq, _, _, hr, _⟩ := hM s hm
    have hq := pq.2.1
    rw [hv0, hr]
    by_cases c : b = true ∧ q = min 76 tx.length
    · rw [if_pos c]
      simp only [rsv]
      split
      · exact ⟨by omega, by omega, fun _ => trivial⟩
      · exact ⟨by omega, by omega, fun _ => trivial⟩
    · rw [if_neg c]
      simp only [rsv]
      exact ⟨by omega, by omega, fun h => by omega⟩
  have mF : ∀ u, HM u n T S D SP ap fi bk G w pl kp tx se → ∃ t, Off KcO u t ∧ t.1 161 12 = iI 0 ∧ (v ≠ -1 → fM_county u = some (iI (-1 - v), t)) ∧ (v = -1 → WCo t n (apN (n, T, S, D, SP) R.2.2 R.2.1) ∧ fM_county u = wh2 (fM_county_L186 (iI (tx.length : Int)) (iI (R.2.1 : Int))) 100000 (iI 0) t) := fun u hu => by
    obtain ⟨t, q, b, k', N', e, pq, t12, ot, hr, hk⟩ := hM u hu
    have hf : fM_faultOf t (iI (tx.length : Int)) (iI 76) (bI b) = _ := M_faultOf (M := 76) (sz := tx.length) (b := b) pq (by omega) hx1 rfl
    rw [← hr, ← hv0] at hf
    generalize wh4 (fM_county_L89 (iI (tx.length : Int))) N' = kk at e
    unfold fM_county_L89 at e
    rw [if_pos rfl, hf, Option.bind_some] at e
    refine ⟨t, ot, t12, fun h => ?_, fun h => ?_⟩
    · rw [e, if_neg (by rw [iI_le (by omega) (by omega) (by omega) (by omega)]; omega)]
    · rw [e, if_pos (by rw [iI_le (by omega) (by omega) (by omega) (by omega)]; omega)]
      have c : b = true ∧ q = min 76 tx.length := Decidable.byContradiction fun c => by
        have h2 := hb.2.2 h
        rw [hr, if_neg c] at h2
        cases h2
      obtain ⟨k1, k2⟩ := hk c
      rw [k1]
      exact ⟨k2, rfl⟩
  have lo1 : Lo s (wsI t1 1 1 (iI 0)) := fun k hk => by rw [rd_ne (by omega), o1.row fun j => KRd_f (by omega)]
  have oW : ∀ k j, ¬ (k = 1 ∨ (3 ≤ k ∧ k ≤ 6)) → (wsI t1 1 1 (iI 0)).1 k j = s.1 k j := fun k j hk => by rw [rd_ne (by omega), o1 k j (KRd_f (by omega))]
  have eC := Tx_cut0 (s := t1) hx1 (by rw [o1 1 1 rfl]; exact hw.2.2.2.2.1.1)
  unfold fW_county
  rw [hw.1.1.1, e1, Option.bind_some, eC, Option.bind_some]
  dsimp only
  obtain ⟨nt, hp⟩ := hw.2.2.1
  by_cases hv1 : v = -1
  · have hR := hb.2.2 hv1
    obtain ⟨g1, g2, g3⟩ := hgd hR
    have ll := ll1 hR
    generalize hs1 : wsI t1 1 1 (iI 0) = s1 at lo1 oW
    have e33 : s1.1 3 3 = iI (R.2.1 : Int) := by rw [← hs1, rd_ne (by decide)]; exact ll.1
    have q1 : ∃ s2, (if s1.1 3 3 ≤ iI 0 then fW_county_J54 s1 else (fPa_clear s1).bind fun q_8 => fW_county_J54 q_8) = fW_county_J54 s2 ∧ (∃ nt, PaW s2 nt (if tx.length = 0 then pl else [])) ∧ Off (fun k j => k == 34 && j == 0) s1 s2 := by
      by_cases c0 : tx.length = 0
      · refine ⟨s1, ?_, ⟨nt, ?_⟩, Off.refl s1⟩
        · rw [e33, if_pos (by rw [iI_le (by omega) (by omega) (by omega) (by omega)]; omega)]
        · rw [if_pos c0]; exact hp.of fun k j hk => oW k j (by omega)
      · refine ⟨wsI s1 34 0 (iI 0), ?_, ⟨nt, ?_⟩, (Off.refl s1).set rfl⟩
        · have : R.2.1 ≠ 0 := fun h => c0 (g3.mpr h)
          unfold fPa_clear
          rw [e33, if_neg (by rw [iI_le (by omega) (by omega) (by omega) (by omega)]; omega), nmM_e, Option.bind_some]
        · rw [if_neg c0]
          exact ⟨hp.1, rd_at, by rw [rd_of (by decide), oW 34 2 (by omega)]; exact hp.2.2.1, fun i hi => absurd hi (Nat.not_lt_zero i)⟩
    obtain ⟨s2, e2, p2, o2⟩ := q1
    have o2' : ∀ k j, ¬ (k = 34 ∧ j = 0) → s2.1 k j = s1.1 k j := fun k j hk => o2 k j (by simp only [Bool.and_eq_false_iff, beq_eq_false_iff_ne]; omega)
    have ll2 : LLs s2 R.2.1 R.2.2 := ⟨by rw [o2' 3 3 (by omega)]; exact e33, fun i hi => by
      rw [o2' 4 i (by omega), o2' 5 i (by omega), o2' 6 i (by omega), ← hs1, rd_ne (by decide), rd_ne (by decide), rd_ne (by decide)]; exact ll.2 i hi⟩
    have cw2 : CWl s2 (n, T, S, D, SP) ap fi bk := hw.1.of fun k j hk => by rw [o2' k j (by omega), oW k j (by omega)]
    obtain ⟨s3, e3, c3, o3⟩ := W_lines hL g1 g2 ll2 cw2
    have lv := hL.many g1 R.2.1 (Nat.le_refl _)
    obtain ⟨kn, kk⟩ := apN_keep g1 R.2.1 (Nat.le_refl _)
    have hz := fun h : tx.length = 0 => g3.mp h
    have hz' : tx.length = 0 → apN (n, T, S, D, SP) R.2.2 R.2.1 = (n, T, S, D, SP) := fun h => by rw [hz h]; rfl
    have lo3 : Lo s s3 := fun k hk => by
      rw [o3.row fun j => K812_f (by omega), o2.row fun j => by simp only [Bool.and_eq_false_iff, beq_eq_false_iff_ne]; omega]; exact lo1 k hk
    have hm3 := hm.lo lo3
    obtain ⟨t4, o4, t12, _, f4⟩ := mF s3 hm3
    obtain ⟨w4, e4⟩ := f4 hv1
    have dn : ∀ k j, ¬ ((k = 161 ∧ (j = 0 ∨ j = 12 ∨ j = 13 ∨ j = 14 ∨ j = 15)) ∨ (170 ≤ k ∧ k ≤ 173)) → t4.1 k j = s3.1 k j := fun k j hk => o4 k j (KcO_f hk)
    have cm4 := hm3.1.of (t := t4) fun k j hk => dn k j (by omega)
    obtain ⟨t5, e5, c5, g5, p5, o5⟩ := M_ctyEnd (x2 := iI (R.2.1 : Int)) hx1 hv.1 cm4 (fun j hj => by rw [dn 167 j (by omega), hm3.2.1.1]; exact hw.2.1.2.2 j hj) w4 lv kn kk
    rw [if_pos (by rw [hv1]), e2]
    refine ⟨iI (R.2.1 : Int), s3, t5, e3, by rw [e4, e5], ?_⟩
    have dn5 : ∀ k j, ¬ ((k = 161 ∧ (j = 0 ∨ j = 3 ∨ j = 12 ∨ j = 13 ∨ j = 14 ∨ j = 15 ∨ j = 20)) ∨ (163 ≤ k ∧ k ≤ 167) ∨ (170 ≤ k ∧ k ≤ 173)) → t5.1 k j = s3.1 k j := fun k j hk => by rw [o5 k j (Ke_f (by omega)), dn k j (by omega)]
    have up3 : ∀ k j, ¬ (k = 1 ∨ (3 ≤ k ∧ k ≤ 6) ∨ k = 8 ∨ k = 9 ∨ k = 12 ∨ (k = 7 ∧ j = 4) ∨ (k = 34 ∧ j = 0)) → s3.1 k j = s.1 k j := fun k j hk => by rw [o3 k j (K812_f (by omega)), o2' k j (by omega), oW k j (by omega)]
    have hp3 : ∃ nt, PaW s3 nt (if tx.length = 0 then pl else []) := ⟨p2.choose, p2.choose_spec.of fun k j hk => o3 k j (K812_f (by omega))⟩
    have hw3 := hw.cty c3 kn hp3 (by rw [o3 1 1 rfl, o2' 1 1 (by omega), ← hs1, rd_at]) (fun k j hk => up3 k j (by omega))
    have hp5 : PaM t5 (if tx.length = 0 then pl else []) := by
      by_cases c0 : tx.length = 0
      · rw [if_pos c0]
        rw [if_pos c0] at p5
        exact hm3.2.2.1.of (by rw [p5, dn 161 20 (by omega)]) (funext fun j => dn5 174 j (by omega))
      · rw [if_neg c0]
        rw [if_neg c0] at p5
        exact ⟨p5, fun i hi => absurd hi (Nat.not_lt_zero i)⟩
    have hm5 := hm3.cty c5 (g5.trans (funext fun j => dn 167 j (by omega))) hp5 (by rw [o5 161 12 rfl]; exact t12) (fun k j hk => dn5 k j (by omega))
    have hpv : PaV (apN (n, T, S, D, SP) R.2.2 R.2.1).1 (if tx.length = 0 then pl else []) := by
      by_cases c0 : tx.length = 0
      · rw [if_pos c0, hz' c0]; exact hv.2.1
      · rw [if_neg c0]; exact ⟨Nat.zero_le _, fun x hx => by cases hx⟩
    exact wInv_mk (s1 := s3) ⟨⟨lv.1, lv.2.1, lv.2.2.1, lv.2.2.2.1, lv.2.2.2.2, hv.1.2.2.2.2.2⟩, hpv, hv.2.2.1, ⟨Nat.zero_le _, fun x hx => by cases hx⟩, hv.2.2.2.2⟩ hw3 (fun k hk => funext fun j => dn5 k j (by omega)) hm5 (r1.of (up3 32 1 (by omega)) (funext fun j => up3 33 j (by omega))) ((r2.lo lo3).of (dn5 161 1 (by omega)) (funext fun j => dn5 162 j (by omega))) hl
  · rw [if_neg (by rw [iI_eq (by omega) (by omega) (by omega) (by omega)]; omega), iI_sub]
    have hm1 := hm.lo lo1
    obtain ⟨t4, o4, t12, f4, _⟩ := mF _ hm1
    have dn : ∀ k j, ¬ ((k = 161 ∧ (j = 0 ∨ j = 12 ∨ j = 13 ∨ j = 14 ∨ j = 15)) ∨ (170 ≤ k ∧ k ≤ 173)) → t4.1 k j = (wsI t1 1 1 (iI 0)).1 k j := fun k j hk => o4 k j (KcO_f hk)
    refine ⟨_, _, t4, rfl, f4 hv1, ?_⟩
    have hw1 : HW (wsI t1 1 1 (iI 0)) n T S D SP ap fi bk G w pl kp [] se := hw.cty (hw.1.of fun k j hk => oW k j (by omega)) (Nat.le_refl n) ⟨nt, hp.of fun k j hk => oW k j (by omega)⟩ rd_at (fun k j hk => oW k j (by omega))
    have hm4 : HM t4 n T S D SP ap fi bk G w pl kp [] se := hm1.cty (hm1.1.of fun k j hk => dn k j (by omega)) (funext fun j => dn 167 j (by omega)) (hm1.2.2.1.of (dn 161 20 (by omega)) (funext fun j => dn 174 j (by omega))) t12 (fun k j hk => dn k j (by omega))
    exact wInv_mk (s1 := wsI t1 1 1 (iI 0)) ⟨hv.1, hv.2.1, hv.2.2.1, ⟨Nat.zero_le _, fun x hx => by cases hx⟩, hv.2.2.2.2⟩ hw1 (fun k hk => funext fun j => dn k j (by omega)) hm4 (r1.of (oW 32 1 (by omega)) (funext fun j => oW 33 j (by omega))) ((r2.lo lo1).of (dn 161 1 (by omega)) (funext fun j => dn 162 j (by omega))) hl
