section PA4
variable {s t u : wM} {n : Nat} {T : Nat → Nat → Bool} {S : Nat → Nat → Int} {D SP : Nat → Int} {ap fi bk : Int} {G G' : Nat → Int32}
theorem MA.self (h : MA s t n T S SP ap D) : MA t t n T S SP ap D := ⟨h.1, h.2.1, h.2.2.1, h.2.2.2.1, Off.refl t, h.2.2.2.2.2⟩
theorem MA.R189 {F : Nat → Int32} (h : MA s t n T S SP ap D) : MA (wRo t 189 F) (wRo t 189 F) n T S SP ap D := by
  obtain ⟨h1, h2, h3, h4, h5, h6⟩ := h
  exact ⟨h1.of (by rw [wR_ne (by decide)]) (wR_ne (by decide)) (wR_ne (by decide)), h2.ne (by decide), by rw [wR_ne (by decide)]; exact h3, h4.ne (by decide), Off.refl _, h6⟩
def K189 : Nat → Nat → Bool := fun k j => KT k j || k == 189
theorem K189.mq (hz : ZM s) (h : MA t t n T S SP ap D) (o : Off K189 s t) : MQn s t none := by
  refine ⟨o.mono fun k j hk => ?_, fun j hj => ?_⟩
  · simp only [K189, KMq, KT, Bool.or_eq_false_iff, Bool.and_eq_false_iff, decide_eq_false_iff_not, beq_eq_false_iff_ne] at hk ⊢; omega
  · rw [o 184 j rfl, show t.1 187 = _ from h.2.2.2.1]
    show s.1 184 j = iI 0 ∧ iI (D j) = iI 0
    rw [h.2.2.2.2.2.2 j hj]; exact ⟨(hz j hj).1, rfl⟩
theorem M_payL {k51 : Int32 → wM → Option (Int32 × wM)} {x1 x2 : Int32} (hv : CV n T S D SP ap fi bk) (h : MA s s n T S SP ap D) (hf : s.1 168 1 = iI fi) : wh2 (fM_payer_L68 k51 x1 x2) 100000 (iI 0) s = k51 (x2 + iI 1) (wRo s 189 (Gn n T ap D fi (s.1 189))) := by
  have hn := hv.1.1
  have hap : 0 ≤ ap ∧ ap ≤ 9 := by have := hv.2.2.2.2.2.1; omega
  have e0 : s = wRo s 189 (fun j => if j < 0 then Gn n T ap D fi (s.1 189) j else s.1 189 j) := (wR_id (by funext j; simp)).symm
  have e9 : wRo s 189 (Gn n T ap D fi (s.1 189)) = wRo s 189 (fun j => if j < n then Gn n T ap D fi (s.1 189) j else s.1 189 j) := by
    congr 1; funext j
    by_cases h : j < n
    · rw [if_pos h]
    · rw [if_neg h]; unfold Gn; rw [if_neg h]
  rw [e9]
  conv => lhs; arg 4; rw [e0]
  refine for2b (fun i => wRo s 189 (fun j => if j < i then Gn n T ap D fi (s.1 189) j else s.1 189 j)) (i0 := 0) (n := n) (Nat.zero_le _) (by omega) (fun i _ hi c => ?_) (fun c => ?_)
  · have hA := h.R189 (F := fun j => if j < i then Gn n T ap D fi (s.1 189) j else s.1 189 j)
    unfold fM_payer_L68
    rw [hA.1.1, if_neg (by rw [iI_le (by omega) (by omega) (by omega) (by omega)]; omega), chk_in (by omega) (by omega) (by omega), M_evenWith hv.1 hA.1 hA.2.2.2.1 hA.2.2.2.2.2.1 hA.2.2.1 hap (by omega), Option.bind_some, bitc_bt hn, Option.bind_some, iI_natc (by omega), wRo_at, wR_ne (by decide), z1, hf, iI_mul, if_neg (show ¬ i < i by omega)]
    simp only [nmM, iI_add]
    rw [wsI_Rr]
    congr 2
    funext x
    by_cases h1 : x = i
    · subst h1; rw [if_pos rfl, if_pos (by omega)]; unfold Gn; rw [if_pos hi]
    · rw [if_neg h1]
      by_cases h2 : x < i
      · rw [if_pos h2, if_pos (by omega)]
      · rw [if_neg h2, if_neg (by omega)]
  · unfold fM_payer_L68
    rw [wR_ne (by decide), h.1.1, if_pos (by rw [iI_le (by omega) (by omega) (by omega) (by omega)]; omega)]
theorem M_payer (hv : CV n T S D SP ap fi bk) (hm : CM s n T S D SP ap fi bk) {m : Int} (h3 : -2147483648 ≤ m) (h4 : m ≤ 2147483647) : ∃ s', fM_payer s (iI m) = some (iI (if 0 ≤ m ∧ m ≤ 100 then (if n = 0 then -2 else (pyB (pyV n T S SP ap fi D m.toNat) n : Int)) else -1), s') ∧ MQn s s' (if 0 ≤ m ∧ m ≤ 100 then (if n = 0 then none else some [pyV n T S SP ap fi D m.toNat (pyB (pyV n T S SP ap fi D m.toNat) n), pyS (pyV n T S SP ap fi D m.toNat) n]) else none) := by
  have hn := hv.1.1
  have hm1 := hm.thr (v := iI 0)
  have hz := hm.2.2.2.2.2.2
  unfold fM_payer
  simp only [nmM]
  rw [M_isHundred h3 h4, Option.bind_some, hm1.1.1]
  simp only [bI_0, decide_eq_false_iff_not]
  by_cases c1 : 0 ≤ m ∧ m ≤ 100
  · rw [if_neg (by simpa using c1), if_pos c1, if_pos c1]
    by_cases c0 : n = 0
    · rw [if_pos (by rw [c0]; rfl), if_pos c0, if_pos c0]
      exact ⟨_, rfl, MQn.thr hz⟩
    · rw [if_neg (by rw [iI_eq (by omega) (by omega) (by omega) (by omega)]; omega), if_neg c0, if_neg c0]
      obtain ⟨q, rfl⟩ : ∃ q : Nat, m = q := ⟨m.toNat, by omega⟩
      simp only [Int.toNat_natCast]
      obtain ⟨t, e, hA⟩ := M_start hv hm1
      have hA' := hA.pre
      rw [e, Option.bind_some]
      have ot : Off K189 s t := hA'.2.2.2.2.1.mono fun k j hk => by simp only [K189, Bool.or_eq_false_iff] at hk; exact hk.1
      have f9 : ∀ k : Option (Int32 × wM) → Option (Int32 × wM), True := fun _ => trivial
      have eL : wh2 (fM_payer_L30 (iI (q : Int))) 100000 (iI 0) t = wh2 (fM_payer_L51 (iI (q : Int))) 100000 (iI 0) (wRo t 189 (fun j => if j < 9 then iI 0 else t.1 189 j)) := by
        have e0 : t = wRo t 189 (fun j => if j < 0 then iI 0 else t.1 189 j) := (wR_id (by funext j; simp)).symm
        conv => lhs; arg 4; rw [e0]
        refine for2b (fun i => wRo t 189 (fun j => if j < i then iI 0 else t.1 189 j)) (i0 := 0) (n := 9) (Nat.zero_le _) (by omega) (fun i _ hi c => ?_) (fun c => ?_)
        · unfold fM_payer_L30
          rw [if_neg (by rw [iI_le (by omega) (by omega) (by omega) (by omega)]; omega), chk_in (by omega) (by omega) (by omega), iI_natc (by omega), iI_add]
          simp only [nmM]
          rw [wsI_Rr]
          congr 2
          funext x
          by_cases h1 : x = i
          · subst h1; rw [if_pos rfl, if_pos (by omega)]
          · rw [if_neg h1]
            by_cases h2 : x < i
            · rw [if_pos h2, if_pos (by omega)]
            · rw [if_neg h2, if_neg (by omega)]
        · unfold fM_payer_L30
          rw [if_pos (by decide)]
      rw [eL]
      have hV : ∀ i j, j < 9 → wsG n T S SP ap fi D (fun j => if j < 9 then iI 0 else t.1 189 j) i j = pyV n T S SP ap fi D i j := fun i j hj => wsG_congr (if_pos hj) i
      generalize hG0 : (fun j => if j < 9 then iI 0 else t.1 189 j) = G0 at hV ⊢
      refine wh2_w (Q := fun x => ∃ s', x = some (iI (pyB (pyV n T S SP ap fi D q) n : Int), s') ∧ MQn s s' (some [pyV n T S SP ap fi D q (pyB (pyV n T S SP ap fi D q) n), pyS (pyV n T S SP ap fi D q) n])) (fun m x u => ∃ i : Nat, i ≤ q ∧ m = q - i ∧ x = iI (i : Int) ∧ MA u u n T S SP ap (it n T S SP D i) ∧ u.1 189 = wsG n T S SP ap fi D G0 i ∧ Off K189 s u) ?_ 100000 q _ (wRo t 189 G0) (by omega) ⟨0, by omega, rfl, rfl, hA.R189, wRo_at, wR_off ot fun j => rfl⟩
      rintro m x u ⟨i, h1, rfl, rfl, hu, h189, ho⟩ c hc
      unfold fM_payer_L51
      by_cases hi : i < q
      · rw [if_neg (by rw [iI_le (by omega) (by omega) (by omega) (by omega)]; omega)]
        obtain ⟨u', e, hu'⟩ := M_week hv.1 hv.2.2.2.1 hu (rain := 0) (bits := 0) (by omega) (by omega)
        have ho' : Off K189 s u' := ho.trans (hu'.2.2.2.2.1.mono fun k j hk => by simp only [K189, Bool.or_eq_false_iff] at hk; exact hk.1)
        have h189' : u'.1 189 = u.1 189 := hu'.2.2.2.2.1.row fun j => rfl
        rw [show iI (0 : Int) = iI ((0 : Nat) : Int) from rfl] at e ⊢
        rw [e, Option.bind_some, show iI ((0 : Nat) : Int) = iI 0 from rfl, M_payL (hv.it (i + 1)) hu'.self (by rw [ho' 168 1 rfl]; exact hm.2.2.2.2.1), iI_add]
        exact hc (q - (i + 1)) _ _ (by omega) ⟨i + 1, by omega, rfl, by simp, hu'.R189, by rw [wRo_at, h189', h189]; rfl, wR_off ho' fun j => rfl⟩
      · have : i = q := by omega
        subst this
        rw [if_pos (by rw [iI_le (by omega) (by omega) (by omega) (by omega)]; omega)]
        generalize hVq : pyV n T S SP ap fi D i = V
        have hVj : ∀ j, j < 9 → u.1 189 j = V j := fun j hj => by rw [h189, hV i j hj, hVq]
        refine wh3_w (Q := fun x => ∃ s', x = some (iI (pyB V n : Int), s') ∧ MQn s s' (some [V (pyB V n), pyS V n])) (fun m x y z => ∃ f : Nat, f ≤ n ∧ m = n - f ∧ x = iI (pyB V f : Int) ∧ y = pyS V f ∧ z = iI (f : Int)) ?_ 100000 n _ _ _ (by omega) ⟨0, by omega, rfl, rfl, rfl, rfl⟩
        rintro m x y z ⟨f, h1, rfl, rfl, rfl, rfl⟩ c hc
        have hB := pyB_lt V f (by omega)
        unfold fM_payer_L123 fM_payer_J154
        rw [hu.1.1]
        by_cases hf : f < n
        · rw [if_neg (by rw [iI_le (by omega) (by omega) (by omega) (by omega)]; omega), chk_in (by omega) (by omega) (by omega), chk_in (by omega) (by omega) (by omega), iI_natc (by omega), iI_natc (by omega), hVj f (by omega), hVj _ hB, iI_add]
          have hk := hc (n - (f + 1)) _ _ _ (by omega) ⟨f + 1, by omega, rfl, rfl, rfl, rfl⟩
          by_cases h : V f ≤ V (pyB V f)
          · rw [if_pos h, chk_in (by omega) (by omega) (by omega)]
            rw [show pyB V (f + 1) = pyB V f from if_pos h] at hk; exact hk
          · rw [if_neg h, chk_in (by omega) (by omega) (by omega)]
            rw [show pyB V (f + 1) = f from if_neg h] at hk; exact hk
        · have : f = n := by omega
          subst this
          rw [if_pos (by rw [iI_le (by omega) (by omega) (by omega) (by omega)]; omega)]
          simp only [nmM]
          rw [chk_in (by omega) (by omega) (by omega), iI_natc (by omega), rd_ne (by decide), hVj _ hB]
          obtain ⟨u1, u2, k1, k2, k3, k4, k5⟩ := M_tell2 (t := u) (v := V (pyB V f)) (w := pyS V f)
          rw [k1, Option.bind_some, k2, Option.bind_some]
          exact ⟨u2, rfl, (K189.mq hz hu ho).row k4 k3⟩
  · rw [if_pos c1, if_neg c1, if_neg c1]
    exact ⟨_, rfl, MQn.thr hz⟩
end PA4
theorem op32 : op_32 wInv := fun s a1 hI => by
  obtain ⟨n, T, S, D, SP, ap, fi, bk, G, w, pl, kp, tx, se, l, hv, hw, hm, _⟩ := id hI
  obtain ⟨x, x1, x2, rfl⟩ := exI a1
  obtain ⟨s1, e1, q1⟩ := W_payer hv.1 hw.1 x1 x2
  obtain ⟨s2, e2, q2⟩ := M_payer hv.1 (hm.1.byW q1.off.1) x1 x2
  exact ⟨_, s1, s2, e1, e2, wInv_q hI q1 q2⟩
/-! alter -/
def alF (F : Nat → Bool) (d : Int) : Nat → Int
  | 0 => -1
  | v + 1 => if F v && (decide (alF F d v < 0) || decide ((((v : Int) - d).natAbs : Int) < ((alF F d v - d).natAbs : Int))) then (v : Int) else alF F d v
theorem alF_ok (F : Nat → Bool) (d : Int) : ∀ i, (alF F d i = -1 ∧ ∀ v, v < i → F v = false) ∨ ∃ b : Nat, alF F d i = (b : Int) ∧ b < i ∧ F b = true ∧ ∀ v, v < i → F v = true → ((b : Int) - d).natAbs ≤ ((v : Int) - d).natAbs ∧ (((v : Int) - d).natAbs = ((b : Int) - d).natAbs → b ≤ v)
  | 0 => Or.inl ⟨rfl, fun v hv => by omega⟩
  | i + 1 => by
    unfold alF
    rcases alF_ok F d i with ⟨h1, h2⟩ | ⟨b, h1, h2, h3, h4⟩
    · by_cases hF : F i = true
      · right
        refine ⟨i, by rw [hF, h1]; simp, by omega, hF, fun v hv hFv => ?_⟩
        by_cases e : v = i
        · subst e; omega
        · rw [h2 v (by omega)] at hFv; cases hFv
      · left
        refine ⟨by simp [hF, h1], fun v hv => ?_⟩
        by_cases e : v = i
        · subst e; simpa using hF
        · exact h2 v (by omega)
    · right
      by_cases hF : F i = true ∧ ((((i : Int) - d).natAbs : Nat) : Int) < ((((b : Int) - d).natAbs : Nat) : Int)
      · refine ⟨i, by rw [hF.1, h1]; simp; omega, by omega, hF.1, fun v hv hFv => ?_⟩
        by_cases e : v = i
        · subst e; omega
        · have := h4 v (by omega) hFv; omega
      · refine ⟨b, ?_, by omega, h3, fun v hv hFv => ?_⟩
        · rw [h1, if_neg]
          intro h
          simp only [Bool.and_eq_true, Bool.or_eq_true, decide_eq_true_eq] at h
          rcases h with ⟨g1, g2 | g2⟩
          · omega
          · exact hF ⟨g1, g2⟩
        · by_cases e : v = i
          · subst e
            have : ¬ ((((v : Int) - d).natAbs : Nat) : Int) < ((((b : Int) - d).natAbs : Nat) : Int) := fun h => hF ⟨hFv, h⟩
            omega
          · exact h4 v (by omega) hFv
/-- the program's search, by distance -/
theorem alF_by {F : Nat → Bool} {d : Nat} {y v : Nat} (hd : d ≤ 99) (hv : v ≤ 99) (hF : F v = true) (hy : ((v : Int) - d).natAbs = y) (hb : ∀ v', v' ≤ 99 → F v' = true → y ≤ ((v' : Int) - d).natAbs) (ht : (d : Int) < v → y ≤ d → F (d - y) = false) : alF F d 100 = (v : Int) := by
  rcases alF_ok F d 100 with ⟨h1, h2⟩ | ⟨b, h1, h2, h3, h4⟩
  · rw [h2 v (by omega)] at hF; cases hF
  · have a1 := hb b (by omega) h3
    have a2 := h4 v (by omega) hF
    rw [h1]
    by_cases e : b = v
    · rw [e]
    · have a3 : b < v := by omega
      have a4 : b = d - y := by omega
      have := ht (by omega) (by omega)
      rw [← a4, h3] at this; cases this
section AL
variable {s t u : wM} {n : Nat} {T : Nat → Nat → Bool} {S : Nat → Nat → Int} {D SP : Nat → Int} {ap fi bk : Int}
def alP (n : Nat) (T : Nat → Nat → Bool) (ap : Int) (D : Nat → Int) (a : Nat) (v : Nat) : Bool := fre n ap D (v : Int) (bt (T a) n)
theorem alP_ev (hS : Cty n T S) {a v : Nat} : alP n T ap D a v = decide (bt (ev T ap (uI D a (v : Int)) a) n = 0) := by
  have key : ∀ g, g < n → (!((bt (T a) n).testBit g && decide ((((v : Int) - D g).natAbs : Int) < ap))) = !(ev T ap (uI D a (v : Int)) a g) := fun g hg => by
    rw [bt_bit]
    unfold ev
    simp only [hg, decide_true, Bool.true_and]
    cases hT : T a g with
    | false => simp
    | true =>
      have := hS.2.2.1 a g hT
      rw [uI_at, uI_ne (by omega)]
  unfold alP fre
  rw [alB_congr key]
  by_cases h : bt (ev T ap (uI D a (v : Int)) a) n = 0
  · rw [decide_eq_true h]
    exact alB_t.mpr fun i hi => by rw [bt_zero h i hi]; rfl
  · rw [decide_eq_false h]
    rcases first_or (fun g => !(ev T ap (uI D a (v : Int)) a g)) n with h' | ⟨i, g1, g2, _⟩
    · exact absurd (bt_false fun j hj => by have := h' j hj; simpa using this) h
    · exact alB_f g1 g2
def alA (n : Nat) (T : Nat → Nat → Bool) (ap : Int) (D : Nat → Int) (a : Nat) : Int := alF (alP n T ap D a) (D a) 100
theorem alA_bd (a : Nat) : -1 ≤ alA n T ap D a ∧ alA n T ap D a ≤ 99 := by
  rcases alF_ok (alP n T ap D a) (D a) 100 with ⟨h1, _⟩ | ⟨b, h1, h2, _⟩
  · unfold alA; omega
  · unfold alA; omega
theorem W_alter (hv : CV n T S D SP ap fi bk) (hw : CW s n T S D SP ap fi bk) {f : Int} (h1 : -2147483648 ≤ f) (h2 : f ≤ 2147483647) : ∃ s', fW_alter s (iI f) = some (iI (if 0 ≤ f ∧ f < n then (if alA n T ap D f.toNat < 0 then -2 else ((alA n T ap D f.toNat - D f.toNat).natAbs : Int)) else -1), s') ∧ WQ s s' (if 0 ≤ f ∧ f < n then (if alA n T ap D f.toNat < 0 then none else some [iI (alA n T ap D f.toNat)]) else none) := by
  have hn := hv.1.1
  have hap : 0 ≤ ap ∧ ap ≤ 9 := by have := hv.2.2.2.2.2.1; omega
  unfold fW_alter
  rw [Land_has hn hw.1 h1 h2, Option.bind_some]
  simp only [bI_0, decide_eq_false_iff_not]
  by_cases c1 : 0 ≤ f ∧ f < n
  · obtain ⟨a, rfl⟩ : ∃ g : Nat, f = g := ⟨f.toNat, by omega⟩
    rw [if_neg (by simpa using c1), if_pos c1, if_pos c1, Land_touching hv.1 hw.1 (by omega), Option.bind_some]
    simp only [Int.toNat_natCast]
    have bd := hv.2.1 a
    have hxl := bt_lt9 (T a) hn
    obtain ⟨d, hd⟩ : ∃ d : Nat, D a = d := ⟨(D a).toNat, by omega⟩
    have hs8 : s.1 8 a = iI (d : Int) := by rw [show s.1 8 = _ from hw.2.1, ← hd]
    have free : ∀ v : Nat, v ≤ 200 → fLand_isFree s (iI (v : Int)) (iI ((bt (T a) n : Nat) : Int)) = some (bI (alP n T ap D a v)) := fun v hvv => Land_isFree hv.1 hw.1 hw.2.1 hv.2.1 hw.2.2.2.1 hap (by omega) hxl
    have tell : ∀ (v y : Nat), v ≤ 99 → alP n T ap D a v = true → ((v : Int) - d).natAbs = y → (∀ v', v' ≤ 99 → alP n T ap D a v' = true → y ≤ ((v' : Int) - d).natAbs) → ((d : Int) < v → y ≤ d → alP n T ap D a (d - y) = false) → ∃ s', ((fNum_tell s (iI (v : Int))).bind fun q => some (iI (y : Int), q)) = some (iI (if alA n T ap D a < 0 then -2 else ((alA n T ap D a - D a).natAbs : Int)), s') ∧ WQ s s' (if alA n T ap D a < 0 then none else some [iI (alA n T ap D a)]) := fun v y g1 g2 g3 g4 g5 => by
      have hA : alA n T ap D a = (v : Int) := by
        unfold alA; rw [hd]; exact alF_by (by omega) g1 g2 g3 g4 g5
      obtain ⟨u, e, r, o⟩ := Num_tell (s := s) (v := iI (v : Int))
      rw [hA, if_neg (by omega), if_neg (by omega), e, Option.bind_some, hd, g3]
      exact ⟨u, rfl, (WQ.refl hw.2.2.2.2.2.2).row o r (by simp)⟩
    refine wh1_w (Q := fun x => ∃ s', x = some (iI (if alA n T ap D a < 0 then -2 else ((alA n T ap D a - D a).natAbs : Int)), s') ∧ WQ s s' (if alA n T ap D a < 0 then none else some [iI (alA n T ap D a)])) (fun m x => ∃ y : Nat, y ≤ 100 ∧ m = 100 - y ∧ x = iI (y : Int) ∧ ∀ v', v' ≤ 99 → alP n T ap D a v' = true → y ≤ ((v' : Int) - d).natAbs) ?_ 100000 100 _ (by omega) ⟨0, by omega, rfl, rfl, fun v' _ _ => by omega⟩
    rintro m x ⟨y, g1, rfl, rfl, gb⟩ c hc
    unfold fW_alter_L24 fW_alter_J85 fW_alter_J116
    by_cases hy : y < 100
    · rw [if_neg (by rw [iI_lt (by omega) (by omega) (by omega) (by omega)]; omega), chk_in (by omega) (by omega) (by omega), iI_natc (by omega), hs8, iI_sub, iI_add, iI_add]
      have hmore : (∀ v', v' ≤ 99 → alP n T ap D a v' = true → ((v' : Int) - d).natAbs = y → v' ≠ d - y ∨ d < y) → ∃ s', (if iI 99 < iI ((d : Int) + (y : Int)) then c (iI ((y : Int) + 1)) else (fLand_isFree s (iI ((d : Int) + (y : Int))) (iI ((bt (T a) n : Nat) : Int))).bind fun q_3 => if q_3 = iI 0 then c (iI ((y : Int) + 1)) else (fNum_tell s (iI ((d : Int) + (y : Int)))).bind fun q_6 => some (iI (y : Int), q_6)) = some (iI (if alA n T ap D a < 0 then -2 else ((alA n T ap D a - D a).natAbs : Int)), s') ∧ WQ s s' (if alA n T ap D a < 0 then none else some [iI (alA n T ap D a)]) := fun hno => by
        have go : (∀ v', v' ≤ 99 → alP n T ap D a v' = true → v' ≠ d + y) → ∃ s', c (iI ((y : Int) + 1)) = some (iI (if alA n T ap D a < 0 then -2 else ((alA n T ap D a - D a).natAbs : Int)), s') ∧ WQ s s' (if alA n T ap D a < 0 then none else some [iI (alA n T ap D a)]) := fun hno2 => hc (100 - (y + 1)) _ (by omega) ⟨y + 1, by omega, rfl, by simp, fun v' k1 k2 => by
          have k3 := gb v' k1 k2
          by_cases e : ((v' : Int) - d).natAbs = y
          · have := hno v' k1 k2 e
            have := hno2 v' k1 k2
            omega
          · omega⟩
        by_cases h99 : d + y ≤ 99
        · rw [if_neg (by rw [iI_lt (by omega) (by omega) (by omega) (by omega)]; omega), show ((d : Int) + (y : Int)) = ((d + y : Nat) : Int) by omega, free (d + y) (by omega), Option.bind_some]
          simp only [bI_0]
          cases hF : alP n T ap D a (d + y)
          · rw [if_pos rfl]
            exact go fun v' k1 k2 e => by rw [e, hF] at k2; cases k2
          · rw [if_neg (by decide)]
            refine tell (d + y) y h99 hF (by omega) gb fun k1 k2 => ?_
            cases hF' : alP n T ap D a (d - y) with
            | false => rfl
            | true => have := hno (d - y) (by omega) hF' (by omega); omega
        · rw [if_pos (by rw [iI_lt (by omega) (by omega) (by omega) (by omega)]; omega)]
          exact go fun v' k1 k2 e => by omega
      by_cases hyd : y ≤ d
      · rw [if_neg (by rw [iI_lt (by omega) (by omega) (by omega) (by omega)]; omega), show ((d : Int) - (y : Int)) = ((d - y : Nat) : Int) by omega, free (d - y) (by omega), Option.bind_some]
        simp only [bI_0]
        cases hF : alP n T ap D a (d - y)
        · rw [if_pos rfl]
          exact hmore fun v' k1 k2 k3 => Or.inl fun e => by rw [e, hF] at k2; cases k2
        · rw [if_neg (by decide)]
          exact tell (d - y) y (by omega) hF (by omega) gb fun k1 => by omega
      · rw [if_pos (by rw [iI_lt (by omega) (by omega) (by omega) (by omega)]; omega)]
        exact hmore fun v' k1 k2 k3 => Or.inr (by omega)
    · have : y = 100 := by omega
      subst this
      rw [if_pos (by decide)]
      have hA : alA n T ap D a = -1 := by
        rcases alF_ok (alP n T ap D a) (D a) 100 with ⟨h1, _⟩ | ⟨b, h1, h2, h3, _⟩
        · exact h1
        · have := gb b (by omega) h3; omega
      rw [hA]
      exact ⟨s, rfl, WQ.refl hw.2.2.2.2.2.2⟩
  · rw [if_pos c1, if_neg c1, if_neg c1]
    exact ⟨s, rfl, WQ.refl hw.2.2.2.2.2.2⟩
theorem M_alter (hv : CV n T S D SP ap fi bk) (hm : CM s n T S D SP ap fi bk) {f : Int} (h1 : -2147483648 ≤ f) (h2 : f ≤ 2147483647) : ∃ s', fM_alter s (iI f) = some (iI (if 0 ≤ f ∧ f < n then (if alA n T ap D f.toNat < 0 then -2 else ((alA n T ap D f.toNat - D f.toNat).natAbs : Int)) else -1), s') ∧ MQn s s' (if 0 ≤ f ∧ f < n then (if alA n T ap D f.toNat < 0 then none else some [iI (alA n T ap D f.toNat)]) else none) := by
  have hn := hv.1.1
  have hap : 0 ≤ ap ∧ ap ≤ 9 := by have := hv.2.2.2.2.2.1; omega
  have hm1 := hm.thr (v := iI 0)
  have hz := hm.2.2.2.2.2.2
  unfold fM_alter
  simp only [nmM]
  rw [M_isFarm hn hm1.1 h1 h2, Option.bind_some]
  simp only [bI_0, decide_eq_false_iff_not]
  by_cases c1 : 0 ≤ f ∧ f < n
  · obtain ⟨a, rfl⟩ : ∃ g : Nat, f = g := ⟨f.toNat, by omega⟩
    rw [if_neg (by simpa using c1), if_pos c1, if_pos c1, chk_in (by omega) (by omega) (by omega), iI_natc (by omega), show (wsI s 161 0 (iI 0)).1 163 = _ from hm1.2.1]
    simp only [Int.toNat_natCast]
    have bd := hv.2.1 a
    have e0 : wsI s 161 0 (iI 0) = wRo (wsI s 161 0 (iI 0)) 163 (fun j => iI (uI D a (D a) j)) := (wR_id (by rw [uI_id]; exact hm1.2.1)).symm
    have hq1 := MQn.thr (v := iI 0) hz
    generalize wsI s 161 0 (iI 0) = s1 at hm1 e0 hq1 ⊢
    refine wh3_w (Q := fun x => ∃ s', x = some (iI (if alA n T ap D a < 0 then -2 else ((alA n T ap D a - D a).natAbs : Int)), s') ∧ MQn s s' (if alA n T ap D a < 0 then none else some [iI (alA n T ap D a)])) (fun m x y u => ∃ i : Nat, ∃ v : Int, i ≤ 100 ∧ m = 100 - i ∧ x = iI (alF (alP n T ap D a) (D a) i) ∧ y = iI (i : Int) ∧ u = wRo s1 163 (fun j => iI (uI D a v j))) ?_ 100000 100 _ _ s1 (by omega) ⟨0, D a, by omega, rfl, rfl, rfl, e0⟩
    rintro m x y u ⟨i, v, g1, rfl, rfl, rfl, rfl⟩ c hc
    have hb : -1 ≤ alF (alP n T ap D a) (D a) i ∧ alF (alP n T ap D a) (D a) i ≤ 99 := by
      rcases alF_ok (alP n T ap D a) (D a) i with ⟨h1, _⟩ | ⟨b, h1, h2, _⟩ <;> omega
    unfold fM_alter_L27 fM_alter_J74 fM_alter_J78 fM_alter_J79 fM_alter_J92
    by_cases hi : i < 100
    · rw [if_neg (by rw [iI_lt (by omega) (by omega) (by omega) (by omega)]; omega), chk_in (by omega) (by omega) (by omega), iI_natc (by omega)]
      simp only [nmM]
      rw [wsI_R (D := uI D a v) wRo_at, wR_wR, uI_uI]
      have hD' : Bd (uI D a (i : Int)) 0 99 := uI_bd hv.2.1 (by omega)
      have hbl := bt_lt9 (ev T ap (uI D a (i : Int)) a) hn
      rw [M_evenWith hv.1 (hm1.1.of (by rw [wR_ne (by decide)]) (wR_ne (by decide)) (wR_ne (by decide))) wR_Rw hD' (by rw [wR_ne (by decide)]; exact hm1.2.2.2.1) hap (by omega), Option.bind_some, iI_sub, iI_sub, iAbs_i (by omega) (by omega), iAbs_i (by omega) (by omega), iI_add]
      simp only [if_neg (show ¬ iI 1 = iI 0 by decide), if_true, iI_eq (a := ((bt (ev T ap (uI D a (i : Int)) a) n : Nat) : Int)) (b := 0) (by omega) (by omega) (by omega) (by omega), iI_lt (a := alF (alP n T ap D a) (D a) i) (b := 0) (by omega) (by omega) (by omega) (by omega), iI_le (a := ((alF (alP n T ap D a) (D a) i - D a).natAbs : Int)) (b := (((i : Int) - D a).natAbs : Int)) (by omega) (by omega) (by omega) (by omega)]
      have hk := hc (100 - (i + 1)) _ _ _ (by omega) ⟨i + 1, (i : Int), by omega, rfl, rfl, rfl, rfl⟩
      have hs : alF (alP n T ap D a) (D a) (i + 1) = if alP n T ap D a i && (decide (alF (alP n T ap D a) (D a) i < 0) || decide ((((i : Int) - D a).natAbs : Int) < ((alF (alP n T ap D a) (D a) i - D a).natAbs : Int))) then (i : Int) else alF (alP n T ap D a) (D a) i := rfl
      rw [hs, alP_ev hv.1] at hk
      by_cases k0 : bt (ev T ap (uI D a (i : Int)) a) n = 0
      · rw [if_pos (by omega)]
        by_cases k1 : alF (alP n T ap D a) (D a) i < 0
        · rw [if_pos k1]
          rw [if_pos (by simp [k0, k1])] at hk; exact hk
        · rw [if_neg k1]
          by_cases k2 : ((alF (alP n T ap D a) (D a) i - D a).natAbs : Int) ≤ (((i : Int) - D a).natAbs : Int)
          · rw [if_pos k2]
            rw [if_neg (by simp [k0, k1]; omega)] at hk; exact hk
          · rw [if_neg k2]
            rw [if_pos (by simp [k0, k1]; omega)] at hk; exact hk
      · rw [if_neg (by omega)]
        rw [if_neg (by simp [k0])] at hk; exact hk
    · have : i = 100 := by omega
      subst this
      rw [if_pos (by decide), chk_in (by omega) (by omega) (by omega), iI_natc (by omega)]
      simp only [nmM]
      rw [wsI_R (D := uI D a v) wRo_at, wR_wR, uI_uI, uI_id, wR_id hm1.2.1]
      show ∃ s', (if iI 0 ≤ iI (alA n T ap D a) then (fM_enters (wsI s1 161 1 (iI 0)) (iI (alA n T ap D a))).bind fun q_7 => some (iAbs (iI (alA n T ap D a) - iI (D a)), q_7) else some (iI (-2), s1)) = _ ∧ _
      have hb : -1 ≤ alA n T ap D a ∧ alA n T ap D a ≤ 99 := hb
      by_cases k1 : alA n T ap D a < 0
      · rw [if_neg (by rw [iI_le (by omega) (by omega) (by omega) (by omega)]; omega), if_pos k1, if_pos k1]
        exact ⟨s1, rfl, hq1⟩
      · rw [if_pos (by rw [iI_le (by omega) (by omega) (by omega) (by omega)]; omega), if_neg k1, if_neg k1]
        obtain ⟨u', e, r, o⟩ := M_tell1 (t := s1) (v := iI (alA n T ap D a))
        rw [e, Option.bind_some, iI_sub, iAbs_i (by omega) (by omega)]
        exact ⟨u', rfl, hq1.row o r⟩
  · rw [if_pos c1, if_neg c1, if_neg c1]
    exact ⟨_, rfl, MQn.thr hz⟩
end AL
theorem op19 : op_19 wInv := fun s a1 hI => by
  obtain ⟨n, T, S, D, SP, ap, fi, bk, G, w, pl, kp, tx, se, l, hv, hw, hm, _⟩ := id hI
  obtain ⟨x, x1, x2, rfl⟩ := exI a1
  obtain ⟨s1, e1, q1⟩ := W_alter hv.1 hw.1 x1 x2
  obtain ⟨s2, e2, q2⟩ := M_alter hv.1 (hm.1.byW q1.off.1) x1 x2
  exact ⟨_, s1, s2, e1, e2, wInv_q hI q1 q2⟩
