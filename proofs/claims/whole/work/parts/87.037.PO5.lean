section UN
variable {s t : wM} {n : Nat} {T : Nat → Nat → Bool} {S : Nat → Nat → Int} {D D' SP : Nat → Int} {ap fi bk : Int} {k : Nat} {G : Nat → Int32} {w : Int32} {pl pl' : List PI} {kp : Nat → KI} {tx : List Nat} {se : List (Nat × Nat)} {x : PI}
def c9 (D : Nat → Int) : Nat → Int := fun j => if j < 9 then D j else 0
def g9 (G : Nat → Int32) : Nat → Int32 := fun j => if j < 9 then G j else iI 0
theorem c9_bd {lo hi : Int} (h : Bd D lo hi) (h0 : lo ≤ 0 ∧ 0 ≤ hi) : Bd (c9 D) lo hi := fun j => by unfold c9; split; exact h j; exact h0
theorem c9_Z9 : Z9 (c9 D) := fun j hj => if_neg (by omega)
theorem g9_z (h : ∀ j, n ≤ j → G j = iI 0) : ∀ j, n ≤ j → g9 G j = iI 0 := fun j hj => by unfold g9; split; exact h j hj; rfl
def KGv : Nat → Nat → Bool := fun a j => a == 8 || a == 10 || a == 7 && j == 5
theorem Sn_give (hk : 36 ≤ k) (hD : Rw s 8 D) (zD : Z9 D) (hG : s.1 10 = G) (zG : ∀ j, 9 ≤ j → G j = iI 0) (hs : SnW s k x) : ∃ t, fSn_giveWeeks s k = some t ∧ Rw t 8 (c9 x.1) ∧ t.1 10 = g9 x.2.1 ∧ t.1 7 5 = x.2.2 ∧ Off KGv s t := by
  unfold fSn_giveWeeks
  rw [chkC9, z0, n9]
  simp only [nmM]
  rw [chkC9]
  refine ⟨_, rfl, ?_, ?_, ?_, ?_⟩
  · funext j
    rw [rd_ne (by decide), rd_cne (by decide), rd_c]
    show _ = iI (c9 x.1 j)
    unfold c9
    by_cases h : j < 9
    · rw [if_pos h, if_pos h]; exact hs.1 j h
    · rw [if_neg h, if_neg h, show s.1 8 = _ from hD]; show iI (D j) = _; rw [zD j (by omega)]
  · funext j
    rw [rd_ne (by decide), rd_c]
    unfold g9
    by_cases h : j < 9
    · rw [if_pos h, if_pos h, rd_cne (by omega)]; exact hs.2.1 j h
    · rw [if_neg h, if_neg h, rd_cne (by decide), hG]; exact zG j (by omega)
  · rw [rd_at, rd_cne (by omega), rd_cne (by omega)]; exact hs.2.2
  · exact Off.set (Off.cpy (Off.cpy (Off.refl s) fun j => rfl) fun j => rfl) rfl
theorem W_undo (hv : CV n T S D SP ap fi bk) (hp : PaV n pl) (hw : HW s n T S D SP ap fi bk G w pl kp tx se) (h0 : 0 < pl.length) : ∃ t, fW_undo s = some (iI ((pl.length : Int) - 1), t) ∧ HW t n T S (c9 pl[pl.length - 1].1) SP ap fi bk (g9 pl[pl.length - 1].2.1) pl[pl.length - 1].2.2 pl.dropLast kp tx se ∧ Off (fun a j => KGv a j || a == 34) s t := by
  have hl := hp.1
  have hn := hv.1.1
  obtain ⟨nt, p1, p2, p3, p4⟩ := hw.2.2.1
  have e1 : iRem (iI ((nt : Int) + 21 - 1)) (iI 21) = iI (((nt + 20) % 21 : Nat) : Int) := by
    unfold iRem
    rw [iI_div (by omega) (by omega) (by omega) (by omega), iI_mul, iI_sub]
    congr 1
    rw [Int.tdiv_eq_ediv_of_nonneg (by omega)]
    omega
  have hm : (nt + 20) % 21 < 21 := Nat.mod_lt _ (by omega)
  unfold fW_undo fPa_goBack
  rw [p2, if_neg (by rw [iI_eq (by omega) (by omega) (by omega) (by omega)]; omega)]
  simp only [nmM]
  rw [p3, iI_add, iI_sub, e1, rd_of (show (2 : Nat) ≠ 0 by decide), rd_at, rd_of (show (0 : Nat) ≠ 2 by decide), p2, iI_sub, chk_in (by omega) (by omega) (by omega), iI_natc (by omega)]
  have hx := p4 (pl.length - 1) (by omega)
  rw [show (nt + 21 - pl.length + (pl.length - 1)) % 21 = (nt + 20) % 21 by congr 1; omega] at hx
  have hne : ∀ a, 36 ≤ a → (wsI (wsI s 34 2 (iI (((nt + 20) % 21 : Nat) : Int))) 34 0 (iI ((pl.length : Int) - 1))).1 a = s.1 a := fun a ha => by rw [rd_ne (by omega), rd_ne (by omega)]
  obtain ⟨t, e, t8, t10, t75, o⟩ := Sn_give (s := wsI (wsI s 34 2 (iI (((nt + 20) % 21 : Nat) : Int))) 34 0 (iI ((pl.length : Int) - 1))) (k := 36 + 5 * ((nt + 20) % 21)) (D := D) (G := G) (x := pl[pl.length - 1]) (by omega) (hw.1.2.1.of (by rw [rd_ne (by decide), rd_ne (by decide)])) hv.2.2.1 (by rw [rd_ne (by decide), rd_ne (by decide)]; exact hw.2.1.1) (fun j hj => hw.2.1.2.2 j (by omega)) (hx.of fun j => ⟨by rw [hne _ (by omega)], by rw [hne _ (by omega)], by rw [hne _ (by omega)]⟩)
  rw [e, Option.bind_some, Option.bind_some, o 34 0 rfl, rd_at]
  have o' : Off (fun a j => KGv a j || a == 34) s t := Off.trans (((Off.refl s).set rfl).set rfl) (o.mono fun k j hk => by simp only [Bool.or_eq_false_iff] at hk; exact hk.1)
  have of : ∀ a j, ¬ (a = 8 ∨ a = 10 ∨ a = 34 ∨ a = 7 ∧ j = 5) → t.1 a j = s.1 a j := fun a j h => o' a j (by simp only [KGv, Bool.or_eq_false_iff, Bool.and_eq_false_iff, beq_eq_false_iff_ne]; omega)
  refine ⟨t, rfl, ⟨⟨hw.1.1.of (of 7 4 (by omega)) (funext fun j => of 12 j (by omega)), t8, hw.1.2.2.1.of (funext fun j => of 9 j (by omega)), ?_, ?_, ?_, fun j hj => ?_⟩, ⟨t10, t75, g9_z (hp.2 _ (List.getElem_mem _)).2⟩, ⟨(nt + 20) % 21, hm, ?_, ?_, fun i hi => ?_⟩, fun i hi => KpW.of hi _ (hw.2.2.2.1 i hi) fun k j hk => of k j (by omega), hw.2.2.2.2.1.of (of 1 1 (by omega)) (funext fun j => of 2 j (by omega)), hw.2.2.2.2.2.of (of 142 0 (by omega)) (funext fun j => of 143 j (by omega)) (funext fun j => of 144 j (by omega))⟩, o'⟩
  · rw [of 11 0 (by omega)]; exact hw.1.2.2.2.1
  · rw [of 11 1 (by omega)]; exact hw.1.2.2.2.2.1
  · rw [of 11 2 (by omega)]; exact hw.1.2.2.2.2.2.1
  · rw [of 14 j (by omega), of 15 j (by omega)]; exact hw.1.2.2.2.2.2.2 j hj
  · rw [o 34 0 rfl, rd_at]; simp; congr 1; omega
  · rw [o 34 2 rfl, rd_of (by decide), rd_at]
  · simp at hi
    rw [List.getElem_dropLast, show ((nt + 20) % 21 + 21 - pl.dropLast.length + i) % 21 = (nt + 21 - pl.length + i) % 21 by simp; omega]
    have hm2 : (nt + 21 - pl.length + i) % 21 < 21 := Nat.mod_lt _ (by omega)
    exact (p4 i (by omega)).of fun j => ⟨of _ _ (by omega), of _ _ (by omega), of _ _ (by omega)⟩
theorem M_undo (hv : CV n T S D SP ap fi bk) (hp : PaV n pl) (hm : HM s n T S D SP ap fi bk G w pl kp tx se) (zG : ∀ j, n ≤ j → G j = iI 0) (h0 : 0 < pl.length) : ∃ t, fM_undo s = some (iI ((pl.length : Int) - 1), t) ∧ HM t n T S (c9 pl[pl.length - 1].1) SP ap fi bk (g9 pl[pl.length - 1].2.1) pl[pl.length - 1].2.2 pl.dropLast kp tx se ∧ Off (fun a j => a == 163 || a == 167 || a == 161 && (j == 0 || j == 10 || j == 20)) s t := by
  have hl := hp.1
  have hn := hv.1.1
  obtain ⟨p2, p4⟩ := hm.2.2.1
  obtain ⟨q1, q2, q3⟩ := p4 (pl.length - 1) (by omega)
  unfold fM_undo
  simp only [nmM]
  rw [rd_of (by decide), p2, if_neg (by rw [iI_eq (by omega) (by omega) (by omega) (by omega)]; omega), iI_sub]
  obtain ⟨e, he⟩ : ∃ e, pl.length = e + 1 := ⟨pl.length - 1, by omega⟩
  have hx : pl.length - 1 = e := by omega
  simp only [hx] at q1 q2 q3 ⊢
  have main : ∃ t, wh2 fM_undo_L26 100000 (iI 0) (wsI (wsI s 161 0 (iI 0)) 161 20 (iI ((pl.length : Int) - 1))) = some (iI (e : Int), t) ∧ (∀ f, f < 9 → t.1 163 f = iI ((pl[e]).1 f) ∧ t.1 167 f = (pl[e]).2.1 f) ∧ t.1 161 10 = (pl[e]).2.2 ∧ t.1 161 20 = iI (e : Int) ∧ (∀ j, 9 ≤ j → t.1 163 j = s.1 163 j ∧ t.1 167 j = s.1 167 j) ∧ Off (fun a j => a == 163 || a == 167 || a == 161 && (j == 0 || j == 10 || j == 20)) s t := by
    have g1 : (wsI (wsI s 161 0 (iI 0)) 161 20 (iI ((pl.length : Int) - 1))).1 161 20 = iI (e : Int) := rd_at.trans (iI_congr (by omega))
    have g2 : ∀ j, 9 ≤ j → (wsI (wsI s 161 0 (iI 0)) 161 20 (iI ((pl.length : Int) - 1))).1 163 j = s.1 163 j ∧ (wsI (wsI s 161 0 (iI 0)) 161 20 (iI ((pl.length : Int) - 1))).1 167 j = s.1 167 j := fun j hj => ⟨by rw [rd_ne (by decide), rd_ne (by decide)], by rw [rd_ne (by decide), rd_ne (by decide)]⟩
    have g3 : Off (fun a j => a == 163 || a == 167 || a == 161 && (j == 0 || j == 10 || j == 20)) s (wsI (wsI s 161 0 (iI 0)) 161 20 (iI ((pl.length : Int) - 1))) := ((Off.refl s).set rfl).set rfl
    generalize wsI (wsI s 161 0 (iI 0)) 161 20 (iI ((pl.length : Int) - 1)) = s0 at g1 g2 g3 ⊢
    refine wh2_w (Q := fun x => ∃ t, x = some (iI (e : Int), t) ∧ (∀ f, f < 9 → t.1 163 f = iI ((pl[e]).1 f) ∧ t.1 167 f = (pl[e]).2.1 f) ∧ t.1 161 10 = (pl[e]).2.2 ∧ t.1 161 20 = iI (e : Int) ∧ (∀ j, 9 ≤ j → t.1 163 j = s.1 163 j ∧ t.1 167 j = s.1 167 j) ∧ Off (fun a j => a == 163 || a == 167 || a == 161 && (j == 0 || j == 10 || j == 20)) s t) (fun m y u => ∃ i : Nat, i ≤ 9 ∧ m = 9 - i ∧ y = iI (i : Int) ∧ (∀ f, f < i → u.1 163 f = iI ((pl[e]).1 f) ∧ u.1 167 f = (pl[e]).2.1 f) ∧ u.1 161 20 = iI (e : Int) ∧ (∀ j, 9 ≤ j → u.1 163 j = s.1 163 j ∧ u.1 167 j = s.1 167 j) ∧ Off (fun a j => a == 163 || a == 167 || a == 161 && (j == 0 || j == 10 || j == 20)) s u) ?_ 100000 9 _ _ (by omega) ⟨0, by omega, rfl, rfl, fun f hf => by omega, g1, g2, g3⟩
    rintro m y u ⟨i, h1, rfl, rfl, h2, h3, h4, ho⟩ c hc
    unfold fM_undo_L26
    by_cases hi : i < 9
    · rw [if_neg (by rw [iI_le (by omega) (by omega) (by omega) (by omega)]; omega), h3, iI_mul, iI_add, chk_in (by omega) (by omega) (by omega), chk_in (by omega) (by omega) (by omega), iI_natc (by omega), iI_nat (by omega) (by omega), show (19 * (e : Int) + (i : Int)).toNat = 19 * e + i by omega]
      simp only [nmM]
      rw [rd_ne (by decide), rd_ne (by decide), h3, iI_mul, iI_add, iI_add, chk_in (by omega) (by omega) (by omega), iI_nat (by omega) (by omega), show (19 * (e : Int) + 9 + (i : Int)).toNat = 19 * e + 9 + i by omega, ho 174 _ rfl, ho 174 _ rfl, iI_add, q1 i hi, q2 i hi]
      refine hc (9 - (i + 1)) _ _ (by omega) ⟨i + 1, by omega, rfl, by simp, fun f hf => ?_, by rw [rd_ne (by decide), rd_ne (by decide)]; exact h3, fun j hj => ?_, (ho.set rfl).set rfl⟩
      · rw [rd_ne (by decide), rd_if, rd_if, rd_ne (by decide)]
        by_cases e1 : f = i
        · subst e1; rw [if_pos rfl, if_pos rfl]; exact ⟨rfl, rfl⟩
        · rw [if_neg e1, if_neg e1]; exact h2 f (by omega)
      · rw [rd_ne (by decide), rd_of (by omega), rd_of (by omega), rd_ne (by decide)]; exact h4 j hj
    · have : i = 9 := by omega
      subst this
      rw [if_pos (by decide), h3, iI_mul, iI_add, chk_in (by omega) (by omega) (by omega), iI_nat (by omega) (by omega), show (19 * (e : Int) + 18).toNat = 19 * e + 18 by omega, ho 174 _ rfl, q3]
      simp only [nmM]
      rw [rd_of (by decide), h3]
      refine ⟨_, rfl, fun f hf => ?_, rd_at, by rw [rd_of (by decide)]; exact h3, fun j hj => ?_, ho.set rfl⟩
      · rw [rd_ne (by decide), rd_ne (by decide)]; exact h2 f hf
      · rw [rd_ne (by decide), rd_ne (by decide)]; exact h4 j hj
  obtain ⟨t, e1, t1, t2, t3, t4, o⟩ := main
  rw [e1]
  have of : ∀ a j, ¬ (a = 163 ∨ a = 167 ∨ a = 161 ∧ (j = 0 ∨ j = 10 ∨ j = 20)) → t.1 a j = s.1 a j := fun a j h => o a j (by simp only [Bool.or_eq_false_iff, Bool.and_eq_false_iff, beq_eq_false_iff_ne]; omega)
  refine ⟨t, by congr 2; congr 1; omega, ⟨⟨hm.1.1.of (of 161 3 (by omega)) (funext fun j => of 165 j (by omega)) (funext fun j => of 166 j (by omega)), ?_, hm.1.2.2.1.of (funext fun j => of 164 j (by omega)), ?_, ?_, ?_, fun j hj => ?_⟩, ⟨?_, t2⟩, ⟨?_, fun i hi => ?_⟩, fun i hi => KpM.of _ (hm.2.2.2.1 i hi) (funext fun j => of 194 j (by omega)) (funext fun j => of 195 j (by omega)), hm.2.2.2.2.1.of (of 161 12 (by omega)) (funext fun j => of 169 j (by omega)), hm.2.2.2.2.2.of (of 161 43 (by omega)) (funext fun j => of 191 j (by omega)) (funext fun j => of 192 j (by omega))⟩, o⟩
  · funext j
    show _ = iI (c9 (pl[e]).1 j)
    unfold c9
    by_cases h : j < 9
    · rw [if_pos h]; exact (t1 j h).1
    · rw [if_neg h, (t4 j (by omega)).1, show s.1 163 = _ from hm.1.2.1]; show iI (D j) = _; rw [hv.2.2.1 j (by omega)]
  · rw [of 168 0 (by omega)]; exact hm.1.2.2.2.1
  · rw [of 168 1 (by omega)]; exact hm.1.2.2.2.2.1
  · rw [of 168 2 (by omega)]; exact hm.1.2.2.2.2.2.1
  · rw [of 184 j (by omega), of 187 j (by omega)]; exact hm.1.2.2.2.2.2.2 j hj
  · funext j
    unfold g9
    by_cases h : j < 9
    · rw [if_pos h]; exact (t1 j h).2
    · rw [if_neg h, (t4 j (by omega)).2, hm.2.1.1]; exact zG j (by omega)
  · rw [t3]; simp; congr 1; omega
  · simp at hi
    rw [List.getElem_dropLast]
    exact (p4 i (by omega)).of (funext fun j => of 174 j (by omega))
end UN
theorem op13 : op_13 wInv := fun s hI => by
  obtain ⟨n, T, S, D, SP, ap, fi, bk, G, w, pl, kp, tx, se, l, hv, hw, hm, r1, r2, hl⟩ := id hI
  by_cases h0 : 0 < pl.length
  · obtain ⟨t, e, hw1, o1⟩ := W_undo hv.1 hv.2.1 hw h0
    have of : ∀ a j, ¬ (a = 8 ∨ a = 10 ∨ a = 34 ∨ a = 7 ∧ j = 5) → t.1 a j = s.1 a j := fun a j h => o1 a j (by simp only [KGv, Bool.or_eq_false_iff, Bool.and_eq_false_iff, beq_eq_false_iff_ne]; omega)
    have lo : Lo s t := fun k hk => funext fun j => of k j (by omega)
    obtain ⟨u, f, hu, p⟩ := M_undo hv.1 hv.2.1 (hm.lo lo) hw.2.1.2.2 h0
    have uf : ∀ a j, ¬ (a = 163 ∨ a = 167 ∨ a = 161 ∧ (j = 0 ∨ j = 10 ∨ j = 20)) → u.1 a j = t.1 a j := fun a j h => p a j (by simp only [Bool.or_eq_false_iff, Bool.and_eq_false_iff, beq_eq_false_iff_ne]; omega)
    have hx := hv.2.1.2 _ (List.getElem_mem (show pl.length - 1 < pl.length by omega))
    refine ⟨_, t, u, e, f, wInv_mk ⟨⟨hv.1.1, c9_bd hx.1 (by omega), c9_Z9, hv.1.2.2.2⟩, ⟨by simp; have := hv.2.1.1; omega, fun x hx => hv.2.1.2 x (List.dropLast_subset _ hx)⟩, hv.2.2⟩ hw1 (fun k hk => funext fun j => uf k j (by omega)) hu (r1.of (of 32 1 (by omega)) (funext fun j => of 33 j (by omega))) ((r2.lo lo).of (uf 161 1 (by omega)) (funext fun j => uf 162 j (by omega))) hl⟩
  · obtain ⟨nt, hp⟩ := hw.2.2.1
    have hz : pl.length = 0 := by omega
    refine ⟨iI (-1), s, wsI s 161 0 (iI 0), ?_, ?_, wInv_thr hI⟩
    · unfold fW_undo; rw [hp.2.1, if_pos (by rw [hz]; rfl)]
    · unfold fM_undo; simp only [nmM]; rw [rd_of (by decide), hm.2.2.1.1, if_pos (by rw [hz]; rfl)]
