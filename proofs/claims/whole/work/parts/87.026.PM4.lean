section SX
variable {s t u s1 s2 : wM} {n : Nat} {T : Nat → Nat → Bool} {S S' : Nat → Nat → Int} {D D' SP SP' : Nat → Int} {ap ap' fi bk : Int} {G : Nat → Int32} {w : Int32} {pl : List PI} {kp : Nat → KI} {tx : List Nat} {se : List (Nat × Nat)}
def KX : Nat → Nat → Bool := fun k j => KMq k j || (decide (163 ≤ k) && decide (k ≤ 166))
def KXr : Nat → Nat → Bool := fun k j => KMr k j || (decide (163 ≤ k) && decide (k ≤ 166))
/-- as MQn, where the model changes farms and puts them back -/
def MX (s t : wM) : Option (List Int32) → Prop
  | none => Off KX s t
  | some l => Off KXr s t ∧ RM t l
theorem MX.off {o : Option (List Int32)} (h : MX s t o) : Off KXr s t := by
  cases o with
  | none => exact h.mono fun k j hk => by simp only [KXr, KMr, KX, Bool.or_eq_false_iff] at hk ⊢; exact ⟨hk.1.1.1, hk.2⟩
  | some l => exact h.1
theorem KXr_f {k j : Nat} (h : KXr k j = true) : (k = 161 ∧ (j = 0 ∨ j = 1 ∨ j = 13 ∨ j = 14 ∨ j = 15 ∨ j = 25 ∨ j = 27 ∨ j = 34 ∨ j = 35 ∨ j = 37)) ∨ k = 162 ∨ (163 ≤ k ∧ k ≤ 166) ∨ (170 ≤ k ∧ k ≤ 173) ∨ (175 ≤ k ∧ k ≤ 190) ∨ k = 193 ∨ k = 196 := by
  simp only [KXr, KMr, KMq, Bool.or_eq_true, Bool.and_eq_true, decide_eq_true_eq, beq_iff_eq] at h; omega
theorem Off.atX (o : Off KXr s t) {k j : Nat} (h : ¬ ((k = 161 ∧ (j = 0 ∨ j = 1 ∨ j = 13 ∨ j = 14 ∨ j = 15 ∨ j = 25 ∨ j = 27 ∨ j = 34 ∨ j = 35 ∨ j = 37)) ∨ k = 162 ∨ (163 ≤ k ∧ k ≤ 166) ∨ (170 ≤ k ∧ k ≤ 173) ∨ (175 ≤ k ∧ k ≤ 190) ∨ k = 193 ∨ k = 196)) : t.1 k j = s.1 k j := o k j (by
  cases e : KXr k j with
  | false => rfl
  | true => exact absurd (KXr_f e) h)
theorem HM.cm (h : HM s n T S D SP ap fi bk G w pl kp tx se) (c : CM t n T S' D' SP' ap' fi bk) (o : Off KXr s t) : HM t n T S' D' SP' ap' fi bk G w pl kp tx se := by
  obtain ⟨h1, ⟨p1, p2⟩, h3, h4, ⟨x1, x2⟩, ⟨y1, y2⟩⟩ := h
  refine ⟨c, ⟨?_, ?_⟩, h3.of (o.atX (by omega)) (funext fun j => o.atX (by omega)), fun i hi => KpM.of _ (h4 i hi) (funext fun j => o.atX (by omega)) (funext fun j => o.atX (by omega)), ⟨?_, fun i hi => ?_⟩, ⟨?_, fun i hi => ?_⟩⟩
  · rw [← p1]; exact funext fun j => o.atX (by omega)
  · rw [← p2]; exact o.atX (by omega)
  · rw [o.atX (by omega)]; exact x1
  · rw [o.atX (by omega)]; exact x2 i hi
  · rw [o.atX (by omega)]; exact y1
  · rw [o.atX (by omega), o.atX (by omega)]; exact y2 i hi
theorem HW.byX (h : HW s n T S D SP ap fi bk G w pl kp tx se) (o : Off KXr s t) : HW t n T S D SP ap fi bk G w pl kp tx se := h.of fun k j hk => o.atX (by unfold cW at hk; omega)
theorem wInv_x {l : List Int32} {o : Option (List Int32)} (hv : HV n T S D SP ap fi bk pl kp tx se) (hw : HW s n T S D SP ap fi bk G w pl kp tx se) (hm : HM s n T S D SP ap fi bk G w pl kp tx se) (r1 : RW s l) (r2 : RM s l) (hl : l.length ≤ 10) (q1 : WQ s s1 o) (cm : CM s2 n T S D SP ap fi bk) (q2 : MX s1 s2 o) : wInv s2 := by
  have o1 := q1.off
  have o2 := q2.off
  have hw2 := (hw.q o1.1 o1.2).byX o2
  have hm2 := (hm.byW o1.1).cm cm o2
  cases o with
  | none => exact ⟨n, T, S, D, SP, ap, fi, bk, G, w, pl, kp, tx, se, l, hv, hw2, hm2, r1.of (by rw [o2.atX (by omega), q1.1 32 1 rfl]) (funext fun j => by rw [o2.atX (by omega), q1.1 33 j rfl]), r2.of (by rw [q2 161 1 rfl, o1.1.atW (by omega)]) (funext fun j => by rw [q2 162 j rfl, o1.1.atW (by omega)]), hl⟩
  | some l' => exact ⟨n, T, S, D, SP, ap, fi, bk, G, w, pl, kp, tx, se, l', hv, hw2, hm2, q1.2.2.1.of (by rw [o2.atX (by omega)]) (funext fun j => by rw [o2.atX (by omega)]), q2.2, q1.2.2.2⟩
theorem Off.xq (o : Off KMq s t) : Off KX s t := o.mono fun k j hk => by simp only [KX, Bool.or_eq_false_iff] at hk; exact hk.1
theorem Off.xt (o : Off (fun k _ => k == 165 || k == 166) s t) : Off KX s t := o.mono fun k j hk => by
  simp only [KX, Bool.or_eq_false_iff, Bool.and_eq_false_iff, decide_eq_false_iff_not, beq_eq_false_iff_ne] at hk ⊢; omega
theorem SeM.ofX (h : SeM s se) (o : Off KX s t) : SeM t se := ⟨by rw [o 161 43 rfl]; exact h.1, fun i hi => by rw [o 191 i rfl, o 192 i rfl]; exact h.2 i hi⟩
theorem M_stones (hv : CV n T S D SP ap fi bk) (hm : CM s n T S D SP ap fi bk) (hse : SeV se) (hs : SeM s se) {f m : Int} (h1 : -2147483648 ≤ f) (h2 : f ≤ 2147483647) (h3 : -2147483648 ≤ m) (h4 : m ≤ 2147483647) : ∃ s', fM_stones s (iI f) (iI m) = some (iI (if 0 ≤ f ∧ f < n ∧ 0 ≤ m ∧ m < n ∧ f ≠ m then (if T f.toNat m.toNat then ((bt (stB n T S SP ap se D f.toNat m.toNat) 10 : Nat) : Int) else -2) else -1), s') ∧ CM s' n T S D SP ap fi bk ∧ MX s s' none := by
  have hn := hv.1.1
  have hap : 0 ≤ ap ∧ ap ≤ 9 := by have := hv.2.2.2.2.2.1; omega
  have hm1 := hm.thr (v := iI 0)
  have o1 : Off KX s (wsI s 161 0 (iI 0)) := (Off.refl s).set rfl
  unfold fM_stones
  simp only [nmM]
  rw [M_areTwo hn hm1.1 h3 h4 h1 h2, Option.bind_some]
  simp only [bI_0, decide_eq_false_iff_not]
  by_cases c1 : 0 ≤ f ∧ f < n ∧ 0 ≤ m ∧ m < n ∧ f ≠ m
  · obtain ⟨b, rfl⟩ : ∃ q : Nat, m = q := ⟨m.toNat, by omega⟩
    obtain ⟨a, rfl⟩ : ∃ g : Nat, f = g := ⟨f.toNat, by omega⟩
    simp only [Int.toNat_natCast]
    rw [if_neg (by simpa using c1), if_pos c1, chk_in (by omega) (by omega) (by omega), iI_natc (by omega), M_tb hm1.1 (by omega) (by omega), Option.bind_some]
    simp only [bI_0]
    by_cases hT : T a b = true
    · rw [if_neg (by rw [hT]; decide), if_pos hT, iI_mul, iI_add, chk_in (by omega) (by omega) (by omega), iI_ix' (by omega) (by omega), hm1.1.2.2 a b (by omega) (by omega) hT]
      simp only [nmI]
      have bS := hv.1.2.2.2.2 a b
      refine wh3_w (Q := fun x => ∃ s', x = some (iI ((bt (stB n T S SP ap se D a b) 10 : Nat) : Int), s') ∧ CM s' n T S D SP ap fi bk ∧ MX s s' none) (fun m x y u => ∃ i : Nat, i ≤ 10 ∧ m = 10 - i ∧ x = iI ((bt (stB n T S SP ap se D a b) i : Nat) : Int) ∧ y = iI (i : Int) ∧ ∃ v, (0 ≤ v ∧ v ≤ 9) ∧ CM u n T (uS S a b v) D SP ap fi bk ∧ Off KX s u) ?_ 100000 10 _ _ _ (by omega) ⟨0, by omega, rfl, rfl, rfl, S a b, bS, by rw [uS_id hv.1]; exact hm1, o1⟩
      rintro m x y u ⟨i, g1, rfl, rfl, rfl, v, hvv, hu, ho⟩ c hc
      have hvv' := hv.setS (v := v) hT hvv
      unfold fM_stones_L50 fM_stones_J86
      by_cases hi : i < 10
      · rw [if_neg (by rw [iI_lt (by omega) (by omega) (by omega) (by omega)]; omega)]
        obtain ⟨t0, e0, hu1, o0⟩ := hu.touch (v := (i : Int)) hvv'.1 hT (by omega)
        rw [uS_uS] at hu1
        have hvi := hv.setS (v := (i : Int)) hT (by omega)
        have ho1 : Off KX s t0 := ho.trans o0.xt
        obtain ⟨t1, e1, hA1⟩ := M_start hvi hu1
        obtain ⟨t3, D3, e3, hA3⟩ := M_isSo hvi.1 hv.2.2.2.1 hap hA1 hse (hs.ofX ho1)
        rw [e0, Option.bind_some, e1, Option.bind_some, e3, Option.bind_some, shl1 (by omega)]
        simp only [bI_0, iI_add]
        have hk := hc (10 - (i + 1)) (iI ((bt (stB n T S SP ap se D a b) (i + 1) : Nat) : Int)) (iI ((i : Int) + 1)) t3 (by omega) ⟨i + 1, by omega, rfl, rfl, by simp, _, by omega, hu1.ma hA3, ho1.trans hA3.q.xq⟩
        rw [← bt_or (by omega)] at hk
        cases hh : hol n T (uS S a b (i : Int)) SP ap se D
        · rw [if_pos rfl]; rw [if_neg (by show ¬ hol n T (uS S a b (i : Int)) SP ap se D = true; rw [hh]; decide)] at hk; exact hk
        · rw [if_neg (by decide)]; rw [if_pos (by show hol n T (uS S a b (i : Int)) SP ap se D = true; rw [hh])] at hk; exact hk
      · have : i = 10 := by omega
        subst this
        rw [if_pos (by decide)]
        obtain ⟨t0, e0, hu1, o0⟩ := hu.touch (v := S a b) hvv'.1 hT bS
        rw [uS_uS, uS_id hv.1] at hu1
        rw [e0, Option.bind_some]
        exact ⟨t0, rfl, hu1, ho.trans o0.xt⟩
    · rw [if_pos (by simpa using hT), if_neg hT]
      exact ⟨_, rfl, hm1, o1⟩
  · rw [if_pos c1, if_neg c1]
    exact ⟨_, rfl, hm1, o1⟩
end SX
theorem op40 : op_40 wInv := fun s a1 a2 hI => by
  obtain ⟨n, T, S, D, SP, ap, fi, bk, G, w, pl, kp, tx, se, l, hv, hw, hm, r1, r2, hl⟩ := hI
  obtain ⟨x, x1, x2, rfl⟩ := exI a1
  obtain ⟨y, y1, y2, rfl⟩ := exI a2
  obtain ⟨s1, e1, q1⟩ := W_stones hv.1 hw.1 hv.2.2.2.2 hw.2.2.2.2.2 x1 x2 y1 y2
  have hm1 := hm.byW q1.off.1
  obtain ⟨s2, e2, c2, q2⟩ := M_stones hv.1 hm1.1 hv.2.2.2.2 hm1.2.2.2.2.2 x1 x2 y1 y2
  exact ⟨_, s1, s2, e1, e2, wInv_x hv hw hm r1 r2 hl q1 c2 q2⟩
