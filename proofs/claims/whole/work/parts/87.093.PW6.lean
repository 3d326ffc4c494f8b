section CM6
variable {s t u : wM} {c : Nat → Nat} {L p q f n0 k : Nat} {w : Lnd} {x : Ln} {d z : Int}
def MLine (s : wM) (n0 : Nat) (w : Lnd) (c : Nat → Nat) (L p : Nat) (y : Option (Int32 × wM)) : Prop := ∃ t q, Off Kc s t ∧ MP t c L q ∧ ((clN c L w.1 p = (none, q) ∧ y = some (iI 0, t)) ∨ ∃ x, clN c L w.1 p = (some x, q) ∧ p < q ∧ y = some (iI 1, t) ∧ WCo t n0 (apL w x))
theorem M_farmTail (hS : Cty w.1 w.2.1 w.2.2.1) (hf : w.1 < 9) (h : WCo t n0 w) (hp : MP t c L q) (ho : Off Kc s t) (hpq : p < q) (hcl : clN c L w.1 p = fTail c L q d) : MLine s n0 w c L p (fM_readsFarm_J37 (iI d) t) := by
  have htk := M_takesC (x := 43) hp (by omega)
  unfold fTail at hcl
  unfold fM_readsFarm_J37
  by_cases c1 : isC c L q 43
  · obtain ⟨u, e, pu, ou⟩ := htk.1 c1
    have e' : fM_takes t (iI 43) = some (iI 1, u) := e
    rw [e', Option.bind_some]
    dsimp only
    rw [if_neg (by decide)]
    rw [if_pos c1] at hcl
    have hd := M_digitC (lo := 0) pu (by omega)
    by_cases c2 : dg c L 48 (q + 1)
    · obtain ⟨v, e2, pv, ov⟩ := hd.1 c2
      have e2' : fM_digit u (iI 0) = some (iI ((c (q + 1) : Int) - 48), v) := e2
      have hc2 := c2.2
      obtain ⟨y, e3, wy, py, oy⟩ := M_pushFarm (d := d) (z := (c (q + 1) : Int) - 48) ((h.k13 ou).k13 ov) hS pv hf (by omega)
      rw [if_pos c2] at hcl
      rw [e2', Option.bind_some, e3]
      exact ⟨y, _, ((ho.trans (K13.kc ou)).trans (K13.kc ov)).trans oy, py, Or.inr ⟨_, hcl, by omega, rfl, wy⟩⟩
    · have e2' : fM_digit u (iI 0) = some (iI (-1), u) := hd.2 c2
      rw [if_neg c2] at hcl
      rw [e2', Option.bind_some]
      unfold fM_readsFarm_J56
      dsimp only
      rw [if_neg (by decide)]
      exact ⟨u, _, ho.trans (K13.kc ou), pu, Or.inl ⟨hcl, rfl⟩⟩
  · obtain ⟨u, e, pu, ou⟩ := htk.2 c1
    have e' : fM_takes t (iI 43) = some (iI 0, u) := e
    obtain ⟨y, e3, wy, py, oy⟩ := M_pushFarm (d := d) (z := 0) (h.k13 ou) hS pu hf (by omega)
    rw [e', Option.bind_some]
    dsimp only
    rw [if_pos (by decide), e3]
    rw [if_neg c1] at hcl
    exact ⟨y, _, (ho.trans (K13.kc ou)).trans oy, py, Or.inr ⟨_, hcl, hpq, rfl, wy⟩⟩
theorem M_readsFarm (hS : Cty w.1 w.2.1 w.2.2.1) (h : WCo s n0 w) (hp : MP s c L p) (hd : dg c L 48 p) : MLine s n0 w c L p (fM_readsFarm s) := by
  have hn := hS.1
  have hb := hd.2
  unfold fM_readsFarm
  rw [h.1]
  by_cases c9 : w.1 = 9
  · rw [if_pos (by rw [c9]; rfl)]
    refine ⟨s, p, Off.refl s, hp, Or.inl ⟨?_, rfl⟩⟩
    unfold clN; rw [if_pos hd, if_pos c9]
  · obtain ⟨t, e, pt, ot⟩ := (M_digitC (lo := 0) hp (by omega)).1 hd
    have e' : fM_digit s (iI 0) = some (iI ((c p : Int) - 48), t) := e
    rw [if_neg (by rw [iI_eq (by omega) (by omega) (by omega) (by omega)]; omega), e', Option.bind_some]
    dsimp only
    have h2 := M_digitC (lo := 0) pt (by omega)
    by_cases c2 : dg c L 48 (p + 1)
    · obtain ⟨u, e2, pu, ou⟩ := h2.1 c2
      have e2' : fM_digit t (iI 0) = some (iI ((c (p + 1) : Int) - 48), u) := e2
      have hb2 := c2.2
      rw [e2', Option.bind_some]
      dsimp only
      rw [if_pos (by rw [iI_le (by omega) (by omega) (by omega) (by omega)]; omega), iI_mul, iI_add]
      refine M_farmTail hS (by omega) ((h.k13 ot).k13 ou) pu ((K13.kc ot).trans (K13.kc ou)) (by omega) ?_
      unfold clN; rw [if_pos hd, if_neg c9, if_pos c2]
    · have e2' : fM_digit t (iI 0) = some (iI (-1), t) := h2.2 c2
      rw [e2', Option.bind_some]
      dsimp only
      rw [if_neg (by decide)]
      refine M_farmTail hS (by omega) (h.k13 ot) pt (K13.kc ot) (by omega) ?_
      unfold clN; rw [if_pos hd, if_neg c9, if_neg c2]
theorem M_readsTouch (hS : Cty w.1 w.2.1 w.2.2.1) (h : WCo s n0 w) (hp : MP s c L p) (hd : ¬ dg c L 48 p) : MLine s n0 w c L p (fM_readsTouch s) := by
  have hn := hS.1
  have hb1 := M_farmBut (v := -1) hp h.1 hn (by omega)
  unfold fM_readsTouch
  by_cases c1 : ltr c L w.1 p
  · have hl1 := c1.2
    obtain ⟨t, e1, pt, ot⟩ := hb1.1 ⟨c1, by omega⟩
    have ht := h.k13 ot
    have hb2 := M_farmBut (v := (c p : Int) - 97) pt ht.1 hn (by omega)
    rw [e1, Option.bind_some]
    dsimp only
    rw [if_pos (by rw [iI_le (by omega) (by omega) (by omega) (by omega)]; omega)]
    unfold fM_readsTouch_J19
    by_cases c2 : ltr c L w.1 (p + 1) ∧ c (p + 1) ≠ c p
    · have hl2 := c2.1.2
      have hl3 := c2.2
      obtain ⟨u, e2, pu, ou⟩ := hb2.1 ⟨c2.1, by omega⟩
      have hu := ht.k13 ou
      rw [e2, Option.bind_some]
      dsimp only
      rw [if_pos (by rw [iI_le (by omega) (by omega) (by omega) (by omega)]; omega)]
      have htk := M_takesC (x := 47) pu (by omega)
      obtain ⟨a, ha⟩ : ∃ a : Nat, (c p : Int) - 97 = a := ⟨c p - 97, by omega⟩
      obtain ⟨b, hbb⟩ : ∃ b : Nat, (c (p + 1) : Int) - 97 = b := ⟨c (p + 1) - 97, by omega⟩
      by_cases c3 : isC c L (p + 2) 47
      · obtain ⟨v, e3, pv, ov⟩ := htk.1 c3
        have e3' : fM_takes u (iI 47) = some (iI 1, v) := e3
        rw [e3', Option.bind_some]
        dsimp only
        rw [if_neg (by decide)]
        have h4 := M_digitC (lo := 0) pv (by omega)
        by_cases c4 : dg c L 48 (p + 3)
        · obtain ⟨y, e4, py, oy⟩ := h4.1 c4
          have e4' : fM_digit v (iI 0) = some (iI ((c (p + 3) : Int) - 48), y) := e4
          have hl4 := c4.2
          obtain ⟨z, e5, wz, pz, oz⟩ := M_pushPair (a := a) (b := b) (z := (c (p + 3) : Int) - 48) ((hu.k13 ov).k13 oy) hS py (by omega) (by omega) (by omega) (by omega)
          rw [e4', Option.bind_some]
          dsimp only
          rw [ha, hbb, e5]
          refine ⟨z, _, (((((K13.kc ot).trans (K13.kc ou)).trans (K13.kc ov)).trans (K13.kc oy))).trans oz, pz, Or.inr ⟨_, ?_, by omega, rfl, wz⟩⟩
          unfold clN; rw [if_neg hd, if_pos c1, if_pos c2, if_pos c3, if_pos c4, ha, hbb]
        · have e4' : fM_digit v (iI 0) = some (iI (-1), v) := h4.2 c4
          rw [e4', Option.bind_some]
          unfold fM_readsTouch_J44
          dsimp only
          rw [if_neg (by decide)]
          refine ⟨v, _, ((K13.kc ot).trans (K13.kc ou)).trans (K13.kc ov), pv, Or.inl ⟨?_, rfl⟩⟩
          unfold clN; rw [if_neg hd, if_pos c1, if_pos c2, if_pos c3, if_neg c4]
      · obtain ⟨v, e3, pv, ov⟩ := htk.2 c3
        have e3' : fM_takes u (iI 47) = some (iI 0, v) := e3
        obtain ⟨z, e5, wz, pz, oz⟩ := M_pushPair (a := a) (b := b) (z := 0) (hu.k13 ov) hS pv (by omega) (by omega) (by omega) (by omega)
        rw [e3', Option.bind_some]
        dsimp only
        rw [if_pos (by decide), ha, hbb, e5]
        refine ⟨z, _, (((K13.kc ot).trans (K13.kc ou)).trans (K13.kc ov)).trans oz, pz, Or.inr ⟨_, ?_, by omega, rfl, wz⟩⟩
        unfold clN; rw [if_neg hd, if_pos c1, if_pos c2, if_neg c3, ha, hbb]
    · have e2 := hb2.2 fun h' => c2 ⟨h'.1, by have := h'.2; omega⟩
      rw [e2, Option.bind_some]
      dsimp only
      rw [if_neg (by decide)]
      refine ⟨t, _, K13.kc ot, pt, Or.inl ⟨?_, rfl⟩⟩
      unfold clN; rw [if_neg hd, if_pos c1, if_neg c2]
  · have e1 := hb1.2 fun h' => c1 h'.1
    rw [e1, Option.bind_some]
    unfold fM_readsTouch_J19
    dsimp only
    rw [if_neg (by decide), if_neg (by decide)]
    refine ⟨s, _, Off.refl s, hp, Or.inl ⟨?_, rfl⟩⟩
    unfold clN; rw [if_neg hd, if_neg c1]
/-- one line of the loop -/
theorem M_cstep (hS : Cty w.1 w.2.1 w.2.2.1) (h : WCo s n0 w) (hp : MP s c L p) {x1 x3 : Int32} (kk : Int32 → Int32 → Int32 → wM → Option (Int32 × wM)) : ∃ t, Off Kc s t ∧ ((∃ q, clN c L w.1 p = (none, q) ∧ MP t c L q ∧ fM_county_L89 x1 (iI (k : Int)) x3 (iI 1) s kk = kk (iI ((k + 1 : Nat) : Int)) (iI 0) (iI 0) t) ∨ ∃ x q, clN c L w.1 p = (some x, q) ∧ p < q ∧ WCo t n0 (apL w x) ∧ ((q < L ∧ c q = 59 ∧ MP t c L (q + 1) ∧ fM_county_L89 x1 (iI (k : Int)) x3 (iI 1) s kk = kk (iI ((k + 1 : Nat) : Int)) (iI 1) (iI 1) t) ∨ (¬ (q < L ∧ c q = 59) ∧ MP t c L q ∧ fM_county_L89 x1 (iI (k : Int)) x3 (iI 1) s kk = kk (iI ((k + 1 : Nat) : Int)) (iI 1) (iI 0) t))) := by
  have hk : iI (k : Int) + iI 1 = iI ((k + 1 : Nat) : Int) := by rw [iI_add]; exact iI_congr (by omega)
  have fin : ∀ y, MLine s n0 w c L p y → fM_county_L89 x1 (iI (k : Int)) x3 (iI 1) s kk = y.bind (fun q_2 => fM_county_J138 kk x1 (iI (k : Int)) q_2.1 q_2.2) → ∃ t, Off Kc s t ∧ ((∃ q, clN c L w.1 p = (none, q) ∧ MP t c L q ∧ fM_county_L89 x1 (iI (k : Int)) x3 (iI 1) s kk = kk (iI ((k + 1 : Nat) : Int)) (iI 0) (iI 0) t) ∨ ∃ x q, clN c L w.1 p = (some x, q) ∧ p < q ∧ WCo t n0 (apL w x) ∧ ((q < L ∧ c q = 59 ∧ MP t c L (q + 1) ∧ fM_county_L89 x1 (iI (k : Int)) x3 (iI 1) s kk = kk (iI ((k + 1 : Nat) : Int)) (iI 1) (iI 1) t) ∨ (¬ (q < L ∧ c q = 59) ∧ MP t c L q ∧ fM_county_L89 x1 (iI (k : Int)) x3 (iI 1) s kk = kk (iI ((k + 1 : Nat) : Int)) (iI 1) (iI 0) t))) := by
    rintro y ⟨t, q, ot, pt, hcs⟩ e
    rcases hcs with ⟨hcl, rfl⟩ | ⟨x, hcl, hpq, rfl, hw⟩
    · refine ⟨t, ot, Or.inl ⟨q, hcl, pt, ?_⟩⟩
      rw [e, Option.bind_some]
      unfold fM_county_J138 fM_county_J159 fM_county_J160
      dsimp only
      rw [if_pos (by decide), hk]
    · have htk := M_takesC (x := 59) pt (by omega)
      rw [Option.bind_some] at e
      unfold fM_county_J138 fM_county_J159 fM_county_J160 at e
      dsimp only at e
      rw [if_neg (by decide)] at e
      by_cases c1 : isC c L q 59
      · obtain ⟨u, e2, pu, ou⟩ := htk.1 c1
        have e2' : fM_takes t (iI 59) = some (iI 1, u) := e2
        rw [e2', Option.bind_some] at e
        dsimp only at e
        rw [if_neg (by decide), hk] at e
        exact ⟨u, ot.trans (K13.kc ou), Or.inr ⟨x, q, hcl, hpq, hw.k13 ou, Or.inl ⟨c1.1, c1.2, pu, e⟩⟩⟩
      · obtain ⟨u, e2, pu, ou⟩ := htk.2 c1
        have e2' : fM_takes t (iI 59) = some (iI 0, u) := e2
        rw [e2', Option.bind_some] at e
        dsimp only at e
        rw [if_pos (by decide), hk] at e
        exact ⟨u, ot.trans (K13.kc ou), Or.inr ⟨x, q, hcl, hpq, hw.k13 ou, Or.inr ⟨c1, pu, e⟩⟩⟩
  have hL := hp.1
  have hpL := hp.2.1
  have h256 := hp.2.2.2.2.2 p
  by_cases c0 : L ≤ p
  · refine fin _ (M_readsTouch hS h hp fun h' => by have := h'.1; omega) ?_
    unfold fM_county_L89 fM_county_J134
    rw [if_neg (by decide), hp.2.2.1, hp.2.2.2.1, if_pos (by rw [iI_le (by omega) (by omega) (by omega) (by omega)]; omega)]
  · by_cases c1 : dg c L 48 p
    · have hb := c1.2
      refine fin _ (M_readsFarm hS h hp c1) ?_
      unfold fM_county_L89
      rw [if_neg (by decide), hp.2.2.1, hp.2.2.2.1, if_neg (by rw [iI_le (by omega) (by omega) (by omega) (by omega)]; omega), chk_in (by omega) (by omega) (by omega), iI_natc (by omega), hp.2.2.2.2.1 p (by omega), M_in, Option.bind_some, iL (by omega) (by omega), bI_d (by rw [show (57 : Int64).toInt = 57 from rfl, show (48 : Int64).toInt = 48 from rfl]; omega), if_neg (by decide)]
    · have hb : ¬ (48 ≤ c p ∧ c p ≤ 57) := fun h' => c1 ⟨by omega, h'⟩
      refine fin _ (M_readsTouch hS h hp c1) ?_
      unfold fM_county_L89 fM_county_J134
      rw [if_neg (by decide), hp.2.2.1, hp.2.2.2.1, if_neg (by rw [iI_le (by omega) (by omega) (by omega) (by omega)]; omega), chk_in (by omega) (by omega) (by omega), iI_natc (by omega), hp.2.2.2.2.1 p (by omega), M_in, Option.bind_some, iL (by omega) (by omega), bI_n (by rw [show (57 : Int64).toInt = 57 from rfl, show (48 : Int64).toInt = 48 from rfl]; omega), if_pos (by decide)]
theorem M_faultOf {M sz : Nat} {b : Bool} (hp : MP s c L q) (hM : M ≤ 80) (hz : sz ≤ 80) (hL : L = min M sz) : fM_faultOf s (iI (sz : Int)) (iI (M : Int)) (bI b) = some (iI (-1 - rsv L M sz (if b = true ∧ q = L then none else some q))) := by
  have h1 := hp.1
  have h2 := hp.2.1
  unfold fM_faultOf fM_faultOf_J19 fM_faultOf_J20 fM_faultOf_J40 fM_faultOf_J44 fM_faultOf_J59
  rw [hp.2.2.1, hp.2.2.2.1, iI_sub, iI_sub]
  simp only [bI_0, iI_eq (show (-2147483648 : Int) ≤ (q : Int) by omega) (show (q : Int) ≤ 2147483647 by omega) (show (-2147483648 : Int) ≤ (L : Int) by omega) (show (L : Int) ≤ 2147483647 by omega), iI_le (show (-2147483648 : Int) ≤ (sz : Int) by omega) (show (sz : Int) ≤ 2147483647 by omega) (show (-2147483648 : Int) ≤ (M : Int) by omega) (show (M : Int) ≤ 2147483647 by omega), iI_lt (show (-2147483648 : Int) ≤ (q : Int) by omega) (show (q : Int) ≤ 2147483647 by omega) (show (-2147483648 : Int) ≤ (M : Int) by omega) (show (M : Int) ≤ 2147483647 by omega), show (iI 1 = iI 0) = False from by simp; decide, if_true, if_false]
  cases b
  · simp only [if_true, rsv, Bool.false_eq_true, false_and, if_false]
    by_cases c1 : (sz : Int) ≤ M
    · rw [if_pos c1]
    · rw [if_neg c1]
      by_cases c2 : (q : Int) < M
      · rw [if_pos c2]
      · rw [if_neg c2]; congr 2; omega
  · simp only [Bool.true_eq_false, if_false, true_and]
    by_cases c0 : (q : Int) = L
    · rw [if_pos c0, if_pos (show q = L by omega)]
      simp only [rsv]
      by_cases c1 : (sz : Int) ≤ M
      · rw [if_pos c1, if_pos (show sz ≤ M by omega)]; rfl
      · rw [if_neg c1, if_neg (show ¬ sz ≤ M by omega)]; congr 2; omega
    · rw [if_neg c0, if_neg (show ¬ q = L by omega)]
      simp only [rsv]
      by_cases c1 : (sz : Int) ≤ M
      · rw [if_pos c1]
      · rw [if_neg c1]
        by_cases c2 : (q : Int) < M
        · rw [if_pos c2]
        · rw [if_neg c2]; congr 2; omega
end CM6
