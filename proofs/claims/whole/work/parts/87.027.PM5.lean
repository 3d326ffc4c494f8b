section SE
variable {s t u s1 s2 : wM} {n : Nat} {T : Nat → Nat → Bool} {S S' : Nat → Nat → Int} {D D' SP SP' : Nat → Int} {ap ap' fi bk : Int}
def slS (S : Nat → Nat → Int) (v : Nat → Nat → Nat) (x : Int × Int × Nat) (p : Nat × Nat) : Int × Int × Nat := if 0 < S p.1 p.2 ∧ x.2.2 < v p.1 p.2 then ((p.1 : Int), (p.2 : Int), v p.1 p.2) else x
def sv (n : Nat) (T : Nat → Nat → Bool) (S : Nat → Nat → Int) (SP : Nat → Int) (ap : Int) (D : Nat → Int) : Nat → Nat → Nat := fun a b => lastV n T (uS S a b 0) SP ap D + 1
def slF (n : Nat) (T : Nat → Nat → Bool) (S : Nat → Nat → Int) (SP : Nat → Int) (ap : Int) (D : Nat → Int) (l : List (Nat × Nat)) : Int × Int × Nat := l.foldl (slS S (sv n T S SP ap D)) (-2, 0, 0)
theorem sv_ok (n : Nat) (T : Nat → Nat → Bool) (S : Nat → Nat → Int) (SP : Nat → Int) (ap : Int) (D : Nat → Int) (a b : Nat) : 1 ≤ sv n T S SP ap D a b ∧ sv n T S SP ap D a b ≤ 101 := by
  have : lastV n T (uS S a b 0) SP ap D ≤ 100 := ff_le _ _
  unfold sv; omega
theorem slF_snoc (l : List (Nat × Nat)) (p : Nat × Nat) : slF n T S SP ap D (l ++ [p]) = slS S (sv n T S SP ap D) (slF n T S SP ap D l) p := by
  unfold slF; rw [List.foldl_append]; rfl
theorem slF_bd : ∀ (l : List (Nat × Nat)) (x : Int × Int × Nat), (∀ p ∈ l, p.1 < 9) → (x.1 = -2 ∨ 0 ≤ x.1) ∧ x.1 < 9 ∧ x.2.2 ≤ 101 → ((l.foldl (slS S (sv n T S SP ap D)) x).1 = -2 ∨ 0 ≤ (l.foldl (slS S (sv n T S SP ap D)) x).1) ∧ (l.foldl (slS S (sv n T S SP ap D)) x).1 < 9 ∧ (l.foldl (slS S (sv n T S SP ap D)) x).2.2 ≤ 101
  | [], x, _, h => h
  | p :: l, x, hp, h => by
    refine slF_bd l _ (fun q hq => hp q (List.mem_cons_of_mem _ hq)) ?_
    have h1 := hp p List.mem_cons_self
    have := sv_ok n T S SP ap D p.1 p.2
    unfold slS
    split
    · simp only; omega
    · exact h
theorem W_seal (hv : CV n T S D SP ap fi bk) (hw : CW s n T S D SP ap fi bk) : ∃ s', fW_seal s = some (iI (slF n T S SP ap D (prs n T)).1, s') ∧ WQ s s' (if (slF n T S SP ap D (prs n T)).1 < 0 then none else some [iI (slF n T S SP ap D (prs n T)).2.1, iI (tld (slF n T S SP ap D (prs n T)).2.2)]) := by
  have hn := hv.1.1
  have hl := prs_len T hn
  have hap : 0 ≤ ap ∧ ap ≤ 9 := by have := hv.2.2.2.2.2.1; omega
  unfold fW_seal
  obtain ⟨t, e, hA, _⟩ := W_look hv hw
  rw [e, Option.bind_some]
  refine wh4_w (Q := fun x => ∃ s', x = some (iI (slF n T S SP ap D (prs n T)).1, s') ∧ WQ s s' (if (slF n T S SP ap D (prs n T)).1 < 0 then none else some [iI (slF n T S SP ap D (prs n T)).2.1, iI (tld (slF n T S SP ap D (prs n T)).2.2)])) (fun m x y z u => ∃ i : Nat, ∃ bi : Int, ∃ lg : Nat, i ≤ (prs n T).length ∧ m = (prs n T).length - i ∧ x = iI bi ∧ y = iI (lg : Int) ∧ z = iI (i : Int) ∧ (∃ D', WBd s u n T S SP ap D') ∧ ((bi = -1 ∧ lg = 0 ∧ slF n T S SP ap D ((prs n T).take i) = (-2, 0, 0)) ∨ ∃ p, ∃ h : p < (prs n T).length, bi = (p : Int) ∧ 1 ≤ lg ∧ lg ≤ 101 ∧ slF n T S SP ap D ((prs n T).take i) = (((prs n T)[p].1 : Int), ((prs n T)[p].2 : Int), lg))) ?_ 100000 (prs n T).length _ _ _ _ (by omega) ⟨0, -1, 0, by omega, rfl, rfl, rfl, rfl, ⟨D, hA.b⟩, Or.inl ⟨rfl, rfl, rfl⟩⟩
  rintro m x y z u ⟨i, bi, lg, g1, rfl, rfl, rfl, rfl, ⟨D1, hu⟩, hb⟩ c hc
  unfold fW_seal_L17 fW_seal_J96 fW_seal_J101
  have hbb : -1 ≤ bi ∧ bi < 36 ∧ lg ≤ 101 := by
    rcases hb with h | ⟨p, h, h1, h2, h3, _⟩
    · omega
    · omega
  rw [hu.1.2.2.1]
  by_cases hi : i < (prs n T).length
  · obtain ⟨q1, q2, q3⟩ := hu.1.2.2.2.1 i hi
    obtain ⟨r1, r2, r3⟩ := prs_get hv.1 hi
    have bS := hv.1.2.2.2.2 (prs n T)[i].1 (prs n T)[i].2
    rw [if_neg (by rw [iI_le (by omega) (by omega) (by omega) (by omega)]; omega), chk_in (by omega) (by omega) (by omega), iI_natc (by omega), q3, iI_add]
    have hst := slF_snoc (n := n) (T := T) (S := S) (SP := SP) (ap := ap) (D := D) ((prs n T).take i) (prs n T)[i]
    rw [← List.take_succ_eq_append_getElem hi] at hst
    by_cases c0 : S (prs n T)[i].1 (prs n T)[i].2 ≤ 0
    · rw [if_pos (by rw [iI_le (by omega) (by omega) (by omega) (by omega)]; exact c0)]
      refine hc ((prs n T).length - (i + 1)) _ _ _ _ (by omega) ⟨i + 1, bi, lg, by omega, rfl, rfl, rfl, by simp, ⟨D1, hu⟩, ?_⟩
      rw [hst, show slS S (sv n T S SP ap D) (slF n T S SP ap D ((prs n T).take i)) (prs n T)[i] = slF n T S SP ap D ((prs n T).take i) from if_neg (by omega)]
      exact hb
    · rw [if_neg (by rw [iI_le (by omega) (by omega) (by omega) (by omega)]; exact c0)]
      obtain ⟨t1, e1, hA1, h8, _, _, h19⟩ := W_rewind hu hw.2.1 hv.2.1 hv.2.2.1
      rw [e1, Option.bind_some]
      simp only [nmM]
      have hpe : (prs n T)[i] = ((prs n T)[i].1, (prs n T)[i].2) ∨ (prs n T)[i] = ((prs n T)[i].2, (prs n T)[i].1) := Or.inl rfl
      have hA2 := (hA1.b.setS (v := 0) hv.1 hi hpe).a (by rw [rd_ne (by decide)]; exact h8)
      have hvi := hv.setS (v := 0) r3 (by omega)
      obtain ⟨t3, D3, e3, hA3⟩ := Ah_lasting hvi.1 hv.2.2.2.1 hap hA2
      rw [e3, Option.bind_some]
      dsimp only
      have hA4 := hA3.b.setS (v := S (prs n T)[i].1 (prs n T)[i].2) hv.1 hi hpe
      rw [uS_uS, uS_id hv.1] at hA4
      have hvb := sv_ok n T S SP ap D (prs n T)[i].1 (prs n T)[i].2
      rw [show ((lastV n T (uS S (prs n T)[i].1 (prs n T)[i].2 0) SP ap D : Int) + 1) = ((sv n T S SP ap D (prs n T)[i].1 (prs n T)[i].2 : Nat) : Int) by unfold sv; omega]
      have hlg : (slF n T S SP ap D ((prs n T).take i)).2.2 = lg := by
        rcases hb with ⟨_, h2, h⟩ | ⟨p, _, _, _, _, h⟩
        · rw [h]; exact h2.symm
        · rw [h]
      by_cases hx : lg < sv n T S SP ap D (prs n T)[i].1 (prs n T)[i].2
      · have hk := hc ((prs n T).length - (i + 1)) _ _ _ (wsI t3 19 i (iI (S (prs n T)[i].1 (prs n T)[i].2))) (by omega) ⟨i + 1, (i : Int), sv n T S SP ap D (prs n T)[i].1 (prs n T)[i].2, by omega, rfl, rfl, rfl, rfl, ⟨D3, hA4⟩, Or.inr ⟨i, hi, rfl, hvb.1, hvb.2, by rw [hst]; exact if_pos ⟨by omega, by rw [hlg]; exact hx⟩⟩⟩
        by_cases h0 : bi = -1
        · rw [if_pos (by rw [h0])]; exact hk
        · rw [if_neg (by rw [iI_eq (by omega) (by omega) (by omega) (by omega)]; exact h0), if_neg (by rw [iI_le (by omega) (by omega) (by omega) (by omega)]; omega)]; exact hk
      · have h0 : bi ≠ -1 := by
          rcases hb with ⟨_, h2, h⟩ | ⟨p, _, h1, _⟩
          · omega
          · omega
        rw [if_neg (by rw [iI_eq (by omega) (by omega) (by omega) (by omega)]; exact h0), if_pos (by rw [iI_le (by omega) (by omega) (by omega) (by omega)]; omega)]
        refine hc ((prs n T).length - (i + 1)) _ _ _ _ (by omega) ⟨i + 1, bi, lg, by omega, rfl, rfl, rfl, by simp, ⟨D3, hA4⟩, ?_⟩
        rw [hst, show slS S (sv n T S SP ap D) (slF n T S SP ap D ((prs n T).take i)) (prs n T)[i] = slF n T S SP ap D ((prs n T).take i) from if_neg (by rw [hlg]; omega)]
        exact hb
  · have : i = (prs n T).length := by omega
    subst this
    rw [if_pos (by rw [iI_le (by omega) (by omega) (by omega) (by omega)]; omega)]
    rw [List.take_length] at hb
    rcases hb with ⟨h1, h2, h⟩ | ⟨p, hp, h1, h2, h3, h⟩
    · rw [if_pos (by rw [h1]), h]
      exact ⟨u, rfl, hu.wq hv.2.2.2.2.1⟩
    · obtain ⟨q1, q2, q3⟩ := hu.1.2.2.2.1 p hp
      rw [if_neg (by rw [iI_eq (by omega) (by omega) (by omega) (by omega)]; omega), h, h1, chk_in (by omega) (by omega) (by omega), iI_natc (by omega), q2]
      obtain ⟨u1, u2, k1, k2, k3, k4, k5⟩ := W_tell2 (t := u) (v := iI ((prs n T)[p].2 : Int)) (w := iI (tld lg))
      rw [k1, Option.bind_some, W_told (by omega), Option.bind_some, k2, Option.bind_some, k4 17 p rfl, q1]
      refine ⟨u2, rfl, ?_⟩
      rw [if_neg (by simp only; omega)]
      exact (hu.wq hv.2.2.2.2.1).row k4 k3 (by simp)
theorem M_seal (hv : CV n T S D SP ap fi bk) (hm : CM s n T S D SP ap fi bk) : ∃ s', fM_seal s = some (iI (slF n T S SP ap D (prs n T)).1, s') ∧ CM s' n T S D SP ap fi bk ∧ MX s s' (if (slF n T S SP ap D (prs n T)).1 < 0 then none else some [iI (slF n T S SP ap D (prs n T)).2.1, iI (tld (slF n T S SP ap D (prs n T)).2.2)]) := by
  have hn := hv.1.1
  have hm1 := hm.thr (v := iI 0)
  have o1 : Off KX s (wsI s 161 0 (iI 0)) := (Off.refl s).set rfl
  have hbd : ∀ l : List (Nat × Nat), (∀ p ∈ l, p.1 < n ∧ p.2 < n) → -2 ≤ (slF n T S SP ap D l).1 ∧ (slF n T S SP ap D l).1 < 9 ∧ (slF n T S SP ap D l).2.2 ≤ 101 := fun l hl => by
    have := slF_bd (n := n) (T := T) (S := S) (SP := SP) (ap := ap) (D := D) l (-2, 0, 0) (fun p hp => by have := hl p hp; omega) (by simp)
    unfold slF; omega
  unfold fM_seal
  simp only [nmM]
  refine wh5_w (Q := fun x => ∃ s', x = some (iI (slF n T S SP ap D (prs n T)).1, s') ∧ CM s' n T S D SP ap fi bk ∧ MX s s' (if (slF n T S SP ap D (prs n T)).1 < 0 then none else some [iI (slF n T S SP ap D (prs n T)).2.1, iI (tld (slF n T S SP ap D (prs n T)).2.2)])) (fun m x y z v u => ∃ a : Nat, a ≤ n ∧ m = n - a ∧ x = iI (slF n T S SP ap D (prL T n a)).1 ∧ y = iI (slF n T S SP ap D (prL T n a)).2.1 ∧ z = iI ((slF n T S SP ap D (prL T n a)).2.2 : Int) ∧ v = iI (a : Int) ∧ CM u n T S D SP ap fi bk ∧ Off KX s u) ?_ 100000 n _ _ _ _ _ (by omega) ⟨0, by omega, rfl, rfl, rfl, rfl, rfl, hm1, o1⟩
  rintro m x y z v u ⟨a, g1, rfl, rfl, rfl, rfl, rfl, hu, ho⟩ c hc
  have b1 := hbd (prL T n a) (fun p hp => by have := mem_prL.mp hp; omega)
  unfold fM_seal_L15
  rw [hu.1.1]
  by_cases ha : a < n
  · rw [if_neg (by rw [iI_le (by omega) (by omega) (by omega) (by omega)]; omega), iI_add]
    refine wh5_w (Q := fun x => ∃ s', x = some (iI (slF n T S SP ap D (prs n T)).1, s') ∧ CM s' n T S D SP ap fi bk ∧ MX s s' (if (slF n T S SP ap D (prs n T)).1 < 0 then none else some [iI (slF n T S SP ap D (prs n T)).2.1, iI (tld (slF n T S SP ap D (prs n T)).2.2)])) (fun m x y z v u => ∃ b : Nat, a < b ∧ b ≤ n ∧ m = n - b ∧ x = iI (slF n T S SP ap D (prL T n a ++ rowL T a b)).1 ∧ y = iI (slF n T S SP ap D (prL T n a ++ rowL T a b)).2.1 ∧ z = iI ((slF n T S SP ap D (prL T n a ++ rowL T a b)).2.2 : Int) ∧ v = iI (b : Int) ∧ CM u n T S D SP ap fi bk ∧ Off KX s u) ?_ 100000 (n - (a + 1)) _ _ _ _ _ (by omega) ⟨a + 1, by omega, by omega, rfl, by rw [row_start, List.append_nil], by rw [row_start, List.append_nil], by rw [row_start, List.append_nil], by simp, hu, ho⟩
    rintro m x y z v u ⟨b, g1, g2, rfl, rfl, rfl, rfl, rfl, hu, ho⟩ c2 hc2
    unfold fM_seal_L30 fM_seal_J131
    rw [hu.1.1]
    by_cases hb : b < n
    · have b2 := hbd (prL T n a ++ rowL T a b) (fun p hp => by
        rcases List.mem_append.mp hp with h | h
        · have := mem_prL.mp h; omega
        · have := mem_row.mp h; omega)
      have bS := hv.1.2.2.2.2 a b
      rw [if_neg (by rw [iI_le (by omega) (by omega) (by omega) (by omega)]; omega), iI_mul, iI_add, chk_in (by omega) (by omega) (by omega)]
      simp only [nmI]
      rw [chk_in (by omega) (by omega) (by omega), iI_ix' (by omega) (by omega), iI_natc (by omega), M_tb hu.1 (by omega) (by omega), Option.bind_some]
      simp only [bI_0, iI_add]
      by_cases hT : T a b = true
      · have hst := slF_snoc (n := n) (T := T) (S := S) (SP := SP) (ap := ap) (D := D) (prL T n a ++ rowL T a b) (a, b)
        rw [List.append_assoc, show rowL T a b ++ [(a, b)] = rowL T a (b + 1) by simp [rowL, g1, hT]] at hst
        rw [if_neg (by rw [hT]; decide), hu.1.2.2 a b (by omega) (by omega) hT]
        by_cases c0 : S a b = 0
        · rw [if_pos (by rw [c0])]
          refine hc2 (n - (b + 1)) _ _ _ _ _ (by omega) ⟨b + 1, by omega, by omega, rfl, ?_, ?_, ?_, by simp, hu, ho⟩ <;> rw [hst, show slS S (sv n T S SP ap D) (slF n T S SP ap D (prL T n a ++ rowL T a b)) (a, b) = slF n T S SP ap D (prL T n a ++ rowL T a b) from if_neg (by simp only; omega)]
        · rw [if_neg (by rw [iI_eq (by omega) (by omega) (by omega) (by omega)]; exact c0)]
          obtain ⟨t0, e0, hu1, o0⟩ := hu.touch (v := 0) hv.1 hT (by omega)
          have hvi := hv.setS (v := 0) hT (by omega)
          obtain ⟨t3, D3, e3, hA3⟩ := M_lastsNow hvi hu1
          have hu3 := hu1.ma hA3
          obtain ⟨t4, e4, hu4, o4⟩ := hu3.touch (v := S a b) hvi.1 hT (by omega)
          rw [uS_uS, uS_id hv.1] at hu4
          have hvb := sv_ok n T S SP ap D a b
          have ho4 : Off KX s t4 := ((ho.trans o0.xt).trans hA3.q.xq).trans o4.xt
          rw [show iI (0 : Int) = iI 0 from rfl] at e0
          rw [e0, Option.bind_some, e3, Option.bind_some]
          dsimp only
          rw [e4, Option.bind_some, tld_s (show lastV n T (uS S a b 0) SP ap D ≤ 100 from ff_le _ _), show lastV n T (uS S a b 0) SP ap D + 1 = sv n T S SP ap D a b from rfl]
          have J : (if iI 0 ≤ iI (tld (sv n T S SP ap D a b)) then fM_seal_J114 c c2 (iI (slF n T S SP ap D (prL T n a ++ rowL T a b)).1) (iI (slF n T S SP ap D (prL T n a ++ rowL T a b)).2.1) (iI ((slF n T S SP ap D (prL T n a ++ rowL T a b)).2.2 : Int)) (iI (a : Int)) (iI (b : Int)) (iI (tld (sv n T S SP ap D a b))) t4 else fM_seal_J114 c c2 (iI (slF n T S SP ap D (prL T n a ++ rowL T a b)).1) (iI (slF n T S SP ap D (prL T n a ++ rowL T a b)).2.1) (iI ((slF n T S SP ap D (prL T n a ++ rowL T a b)).2.2 : Int)) (iI (a : Int)) (iI (b : Int)) (iI 101) t4) = fM_seal_J114 c c2 (iI (slF n T S SP ap D (prL T n a ++ rowL T a b)).1) (iI (slF n T S SP ap D (prL T n a ++ rowL T a b)).2.1) (iI ((slF n T S SP ap D (prL T n a ++ rowL T a b)).2.2 : Int)) (iI (a : Int)) (iI (b : Int)) (iI ((sv n T S SP ap D a b : Nat) : Int)) t4 := by
            unfold tld
            by_cases h1 : sv n T S SP ap D a b ≤ 100
            · rw [if_pos h1, if_pos (by rw [iI_le (by omega) (by omega) (by omega) (by omega)]; omega)]
            · rw [if_neg h1, if_neg (by decide), show sv n T S SP ap D a b = 101 by omega]; rfl
          rw [J]
          unfold fM_seal_J114 fM_seal_J131
          rw [iI_add]
          by_cases hx : (slF n T S SP ap D (prL T n a ++ rowL T a b)).2.2 < sv n T S SP ap D a b
          · rw [if_neg (by rw [iI_le (by omega) (by omega) (by omega) (by omega)]; omega)]
            refine hc2 (n - (b + 1)) _ _ _ _ _ (by omega) ⟨b + 1, by omega, by omega, rfl, ?_, ?_, ?_, by simp, hu4, ho4⟩ <;> rw [hst, show slS S (sv n T S SP ap D) (slF n T S SP ap D (prL T n a ++ rowL T a b)) (a, b) = ((a : Int), (b : Int), sv n T S SP ap D a b) from if_pos ⟨by simp only; omega, hx⟩]
          · rw [if_pos (by rw [iI_le (by omega) (by omega) (by omega) (by omega)]; omega)]
            refine hc2 (n - (b + 1)) _ _ _ _ _ (by omega) ⟨b + 1, by omega, by omega, rfl, ?_, ?_, ?_, by simp, hu4, ho4⟩ <;> rw [hst, show slS S (sv n T S SP ap D) (slF n T S SP ap D (prL T n a ++ rowL T a b)) (a, b) = slF n T S SP ap D (prL T n a ++ rowL T a b) from if_neg (by simp only; omega)]
      · rw [if_pos (by simpa using hT)]
        refine hc2 (n - (b + 1)) _ _ _ _ _ (by omega) ⟨b + 1, by omega, by omega, rfl, ?_, ?_, ?_, by simp, hu, ho⟩ <;> rw [show rowL T a (b + 1) = rowL T a b by simp [rowL, hT]]
    · have : b = n := by omega
      subst this
      rw [if_pos (by rw [iI_le (by omega) (by omega) (by omega) (by omega)]; omega), iI_add]
      exact hc (b - (a + 1)) _ _ _ _ _ (by omega) ⟨a + 1, by omega, rfl, rfl, rfl, rfl, by simp, hu, ho⟩
  · have : a = n := by omega
    subst this
    have b3 : -2 ≤ (slF a T S SP ap D (prs a T)).1 ∧ (slF a T S SP ap D (prs a T)).1 < 9 ∧ (slF a T S SP ap D (prs a T)).2.2 ≤ 101 := b1
    rw [if_pos (by rw [iI_le (by omega) (by omega) (by omega) (by omega)]; omega)]
    show ∃ s', (if iI 0 ≤ iI (slF a T S SP ap D (prs a T)).1 then _ else _) = _ ∧ _
    have hcase : (slF a T S SP ap D (prs a T)).1 = -2 ∨ 0 ≤ (slF a T S SP ap D (prs a T)).1 := by
      exact (slF_bd (n := a) (T := T) (S := S) (SP := SP) (ap := ap) (D := D) (prs a T) (-2, 0, 0) (fun p hp => by have := mem_prs.mp hp; omega) (by simp)).1
    by_cases h0 : (slF a T S SP ap D (prs a T)).1 < 0
    · rw [if_neg (by rw [iI_le (by omega) (by omega) (by omega) (by omega)]; omega), if_pos h0, show (slF a T S SP ap D (prs a T)).1 = -2 by omega]
      exact ⟨u, rfl, hu, ho⟩
    · rw [if_pos (by rw [iI_le (by omega) (by omega) (by omega) (by omega)]; omega), if_neg h0]
      simp only [nmM]
      obtain ⟨u1, u2, k1, k2, k3, k4, k5⟩ := M_tell2 (t := u) (v := iI (slF a T S SP ap D (prs a T)).2.1) (w := iI (tld (slF a T S SP ap D (prs a T)).2.2))
      show ∃ s', ((fM_enters (wsI u 161 1 (iI 0)) (iI (slF a T S SP ap D (prs a T)).2.1)).bind fun q_5 => if iI ((slF a T S SP ap D (prs a T)).2.2 : Int) ≤ iI 100 then fM_seal_J173 (iI (slF a T S SP ap D (prs a T)).1) (iI ((slF a T S SP ap D (prs a T)).2.2 : Int)) q_5 else fM_seal_J173 (iI (slF a T S SP ap D (prs a T)).1) (iI (-2)) q_5) = _ ∧ _
      rw [k1, Option.bind_some]
      have e1 : (if iI ((slF a T S SP ap D (prs a T)).2.2 : Int) ≤ iI 100 then fM_seal_J173 (iI (slF a T S SP ap D (prs a T)).1) (iI ((slF a T S SP ap D (prs a T)).2.2 : Int)) u1 else fM_seal_J173 (iI (slF a T S SP ap D (prs a T)).1) (iI (-2)) u1) = fM_seal_J173 (iI (slF a T S SP ap D (prs a T)).1) (iI (tld (slF a T S SP ap D (prs a T)).2.2)) u1 := by
        unfold tld
        by_cases h : (slF a T S SP ap D (prs a T)).2.2 ≤ 100
        · rw [if_pos (by rw [iI_le (by omega) (by omega) (by omega) (by omega)]; omega), if_pos h]
        · rw [if_neg (by rw [iI_le (by omega) (by omega) (by omega) (by omega)]; omega), if_neg h]
      rw [e1]
      unfold fM_seal_J173
      rw [k2, Option.bind_some]
      refine ⟨u2, rfl, hu.kn k4, fun k j hk => ?_, k3⟩
      have hkn : KMn k j = false := by simp only [KXr, KMr, Bool.or_eq_false_iff] at hk; simp only [KMn, Bool.or_eq_false_iff]; exact ⟨hk.1.1.2, hk.1.2⟩
      rw [k4 k j hkn]
      exact ho k j (by simp only [KXr, KMr, KX, Bool.or_eq_false_iff] at hk ⊢; exact ⟨hk.1.1.1, hk.2⟩)
end SE
theorem op34 : op_34 wInv := fun s hI => by
  obtain ⟨n, T, S, D, SP, ap, fi, bk, G, w, pl, kp, tx, se, l, hv, hw, hm, r1, r2, hl⟩ := hI
  obtain ⟨s1, e1, q1⟩ := W_seal hv.1 hw.1
  obtain ⟨s2, e2, c2, q2⟩ := M_seal hv.1 (hm.byW q1.off.1).1
  exact ⟨_, s1, s2, e1, e2, wInv_x hv hw hm r1 r2 hl q1 c2 q2⟩
