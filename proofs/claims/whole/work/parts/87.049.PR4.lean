/-! sunday -/
def mxN (f : Nat → Nat) : Nat → Nat
  | 0 => 0
  | i + 1 => max (mxN f i) (f i)
theorem mxN_le {f : Nat → Nat} {B : Nat} : ∀ {m : Nat}, (∀ i, i < m → f i ≤ B) → mxN f m ≤ B
  | 0, _ => Nat.zero_le _
  | m + 1, h => by
    have := mxN_le (m := m) fun i hi => h i (by omega)
    have := h m (by omega)
    unfold mxN; omega
theorem le_mxN {f : Nat → Nat} : ∀ {m i : Nat}, i < m → f i ≤ mxN f m
  | 0, i, h => by omega
  | m + 1, i, h => by
    unfold mxN
    by_cases e : i = m
    · subst e; omega
    · have := le_mxN (f := f) (m := m) (i := i) (by omega); omega
def alW (v : Nat → Nat) (K : Nat) : Nat := mxN (fun i => cnt (fun j => decide (v i = v j)) K) K
def alM (v : Nat → Nat) (K : Nat) : Nat := mxN (fun e => cnt (fun j => decide (v j = e)) K) 37
theorem al_eq {v : Nat → Nat} {K : Nat} (h : ∀ j, j < K → v j < 37) : alW v K = alM v K := by
  have e : ∀ i, cnt (fun j => decide (v i = v j)) K = cnt (fun j => decide (v j = v i)) K := fun i => cnt_congr fun j _ => by simp [eq_comm]
  apply Nat.le_antisymm
  · refine mxN_le fun i hi => ?_
    rw [e i]
    exact le_mxN (f := fun e => cnt (fun j => decide (v j = e)) K) (h i hi)
  · refine mxN_le fun x hx => ?_
    rcases first_or (fun j => !(decide (v j = x))) K with h' | ⟨i, h1, h2, _⟩
    · rw [cnt_false fun j hj => by have := h' j hj; simpa using this]; omega
    · have hvi : v i = x := by simpa using h2
      have := le_mxN (f := fun i => cnt (fun j => decide (v i = v j)) K) h1
      rw [e i, hvi] at this; exact this
theorem alW_le (v : Nat → Nat) (K : Nat) : alW v K ≤ K := mxN_le fun i _ => cnt_le _ _
def wyL (SP : Nat → Int) : Nat → List (Nat → Int)
  | 0 => [SP]
  | f + 1 => if SP f < 9 then wyL SP f ++ [uI SP f (SP f + 1)] else wyL SP f
theorem wyL_len (SP : Nat → Int) : ∀ f, 1 ≤ (wyL SP f).length ∧ (wyL SP f).length ≤ f + 1
  | 0 => by simp [wyL]
  | f + 1 => by
    have := wyL_len SP f
    unfold wyL; split
    · simp; omega
    · omega
theorem wyL_pre (SP : Nat → Int) {f : Nat} : ∀ {g : Nat}, f ≤ g → ∀ j, j < (wyL SP f).length → (wyL SP g).getD j SP = (wyL SP f).getD j SP ∧ j < (wyL SP g).length
  | 0, h, j, hj => by rw [show f = 0 by omega] at hj ⊢; exact ⟨rfl, hj⟩
  | g + 1, h, j, hj => by
    by_cases e : f = g + 1
    · subst e; exact ⟨rfl, hj⟩
    · obtain ⟨h1, h2⟩ := wyL_pre SP (g := g) (by omega) j hj
      show (if SP g < 9 then _ else _ : List (Nat → Int)).getD j SP = _ ∧ j < (if SP g < 9 then _ else _ : List (Nat → Int)).length
      split
      · refine ⟨?_, by simp; omega⟩
        rw [← h1, List.getD_eq_getElem?_getD, List.getD_eq_getElem?_getD, List.getElem?_append_left h2]
      · exact ⟨h1, h2⟩
theorem wyL_mem (SP : Nat → Int) {lo : Int} (h : Bd SP 0 9) (hz : Z9 SP) : ∀ {f : Nat}, f ≤ 9 → ∀ v, v ∈ wyL SP f → Bd v 0 9 ∧ Z9 v
  | 0, _, v, hv => by simp [wyL] at hv; rw [hv]; exact ⟨h, hz⟩
  | f + 1, hf, v, hv => by
    have ih := wyL_mem SP (lo := lo) h hz (f := f) (by omega)
    have b := h f
    unfold wyL at hv
    split at hv
    · rcases List.mem_append.mp hv with h' | h'
      · exact ih v h'
      · rw [List.mem_singleton.mp h']; exact ⟨uI_bd h (by omega), uI_Z9 hz (by omega)⟩
    · exact ih v hv
section SU
variable {s t u : wM} {n : Nat} {T : Nat → Nat → Bool} {S : Nat → Nat → Int} {D D' SP v : Nat → Int} {ap fi bk : Int}
theorem ep_36 (hS : Cty n T S) (ap : Int) (D : Nat → Int) : 0 ≤ ep n T ap D ∧ ep n T ap D ≤ 36 := by
  have h := (ep_nn hS ap D).1
  have hl := prs_len T hS.1
  refine ⟨h, ?_⟩
  rw [← ep_lsm]
  have : ∀ l : List (Nat × Nat), lsm (fun a b => if ev T ap D a b = true then 1 else 0) l ≤ l.length := fun l => by
    induction l with
    | nil => simp [lsm]
    | cons p l ih =>
      simp only [lsm, List.length_cons]
      split <;> omega
  have := this (prs n T)
  omega
def eN (n : Nat) (T : Nat → Nat → Bool) (S : Nat → Nat → Int) (ap : Int) (D : Nat → Int) (v : Nat → Int) (w : Nat) : Nat := (ep n T ap (it n T S v D (w + 1))).toNat
theorem eN_lt (hS : Cty n T S) (w : Nat) : eN n T S ap D v w < 37 := by have := ep_36 hS ap (it n T S v D (w + 1)); unfold eN; omega
theorem eN_ep (hS : Cty n T S) (w : Nat) : ep n T ap (wk n T S v (it n T S v D w) 0 0) = ((eN n T S ap D v w : Nat) : Int) := by have := ep_36 hS ap (it n T S v D (w + 1)); show ep n T ap (it n T S v D (w + 1)) = _; unfold eN; omega
def KA5 : Nat → Nat → Bool := fun k j => KA k j || k == 145
theorem KA5_q (o : Off KA5 s t) : Off KWq s t := o.mono fun k j hk => by
  simp only [KWq, KA5, KA, Bool.or_eq_false_iff, Bool.and_eq_false_iff, decide_eq_false_iff_not, beq_eq_false_iff_ne] at hk ⊢; omega
theorem WA.R145 {j : Nat} {x : Int32} (h : WA s t n T S v ap D) : WA (wsI t 145 j x) (wsI t 145 j x) n T S v ap D := by
  obtain ⟨h1, h2, h3, h4⟩ := h
  refine ⟨h1.of ((Off.refl t).set rfl), ?_, Off.refl _, h4⟩
  unfold SET; rw [rd_ne (by decide)]; exact h2
theorem W_showWay {k : Nat} (hS : Cty n T S) (bv : Bd v 0 9) (hap : 0 ≤ ap ∧ ap ≤ 9) (hk : k < 10) (hA : WA u u n T S v ap D) : ∃ t D', fW_showWay u (iI (k : Int)) = some t ∧ WBd t t n T S v ap D' ∧ (∀ w, w < 20 → t.1 145 (20 * k + w) = iI ((eN n T S ap D v w : Nat) : Int)) ∧ (∀ j, j < 20 * k → t.1 145 j = u.1 145 j) ∧ Off KA5 u t := by
  unfold fW_showWay
  refine wh2_w (Q := fun x => ∃ t D', x = some t ∧ WBd t t n T S v ap D' ∧ (∀ w, w < 20 → t.1 145 (20 * k + w) = iI ((eN n T S ap D v w : Nat) : Int)) ∧ (∀ j, j < 20 * k → t.1 145 j = u.1 145 j) ∧ Off KA5 u t) (fun m x t => ∃ i : Nat, i ≤ 20 ∧ m = 20 - i ∧ x = iI (i : Int) ∧ WA t t n T S v ap (it n T S v D i) ∧ (∀ w, w < i → t.1 145 (20 * k + w) = iI ((eN n T S ap D v w : Nat) : Int)) ∧ (∀ j, j < 20 * k → t.1 145 j = u.1 145 j) ∧ Off KA5 u t) ?_ 100000 20 _ u (by omega) ⟨0, by omega, rfl, rfl, hA, fun w hw => by omega, fun j _ => rfl, Off.refl u⟩
  rintro m x t ⟨i, h1, rfl, rfl, ht, g1, g2, ho⟩ c hc
  unfold fW_showWay_L2
  by_cases hi : i < 20
  · rw [if_neg (by rw [iI_le (by omega) (by omega) (by omega) (by omega)]; omega)]
    obtain ⟨t', e, ht', _⟩ := W_week hS bv ht (rain := 0) (bits := 0) (by omega) (by omega)
    rw [show iI (0 : Int) = iI ((0 : Nat) : Int) from rfl] at e ⊢
    rw [e, Option.bind_some, ht'.ep hS hap, Option.bind_some, iI_mul, iI_add, chk_in (by omega) (by omega) (by omega), iI_nat (by omega) (by omega), show ((k : Int) * 20 + (i : Int)).toNat = 20 * k + i by omega, eN_ep hS, iI_add]
    simp only [nmM]
    have e145 : t'.1 145 = t.1 145 := ht'.2.2.1.row fun j => rfl
    refine hc (20 - (i + 1)) _ _ (by omega) ⟨i + 1, by omega, rfl, by simp, ht'.R145, fun w hw => ?_, fun j hj => ?_, (ho.trans (ht'.2.2.1.mono fun k j hk => ?_)).set rfl⟩
    · rw [rd_if]
      by_cases e : w = i
      · subst e; rw [if_pos rfl]
      · rw [if_neg (by omega), e145]; exact g1 w (by omega)
    · rw [rd_of (by omega), e145]; exact g2 j hj
    · simp only [KA5, Bool.or_eq_false_iff] at hk; exact hk.1
  · have : i = 20 := by omega
    subst this
    rw [if_pos (by decide)]
    exact ⟨t, _, rfl, ht.b, g1, g2, ho⟩
def wyV (n : Nat) (T : Nat → Nat → Bool) (S : Nat → Nat → Int) (SP : Nat → Int) (ap : Int) (D : Nat → Int) (w j : Nat) : Nat := eN n T S ap D ((wyL SP n).getD j SP) w
theorem W_ways (hv : CV n T S D SP ap fi bk) (hw : CW s n T S D SP ap fi bk) : ∃ t, fW_showAllWays s = some (iI ((wyL SP n).length : Int), t) ∧ WQ s t none ∧ ∀ j, j < (wyL SP n).length → ∀ w, w < 20 → t.1 145 (20 * j + w) = iI ((wyV n T S SP ap D w j : Nat) : Int) := by
  have hn := hv.1.1
  have hap : 0 ≤ ap ∧ ap ≤ 9 := by have := hv.2.2.2.2.2.1; omega
  have hz := hv.2.2.2.2.1
  obtain ⟨t, e, hA, _⟩ := W_look hv hw
  obtain ⟨t1, D1, e1, hB1, f1, _, o1⟩ := W_showWay (k := 0) hv.1 hv.2.2.2.1 hap (by omega) hA.self
  unfold fW_showAllWays
  rw [show iI (0 : Int) = iI ((0 : Nat) : Int) from rfl, e, Option.bind_some, e1, Option.bind_some, show iI ((0 : Nat) : Int) = iI (0 : Int) from rfl]
  have ot : Off KA5 s t := hA.2.2.1.mono fun k j hk => by simp only [KA5, Bool.or_eq_false_iff] at hk; exact hk.1
  refine wh3_w (Q := fun x => ∃ t, x = some (iI ((wyL SP n).length : Int), t) ∧ WQ s t none ∧ ∀ j, j < (wyL SP n).length → ∀ w, w < 20 → t.1 145 (20 * j + w) = iI ((wyV n T S SP ap D w j : Nat) : Int)) (fun m x y u => ∃ f : Nat, ∃ D', f ≤ n ∧ m = n - f ∧ x = iI ((wyL SP f).length : Int) ∧ y = iI (f : Int) ∧ WBd u u n T S SP ap D' ∧ (∀ j, j < (wyL SP f).length → ∀ w, w < 20 → u.1 145 (20 * j + w) = iI ((wyV n T S SP ap D w j : Nat) : Int)) ∧ Off KA5 s u) ?_ 100000 n _ _ t1 (by omega) ⟨0, D1, by omega, rfl, rfl, rfl, hB1, fun j hj w hw => ?_, ot.trans o1⟩
  · rintro m x y u ⟨f, D', h1, rfl, rfl, rfl, hu, g1, ho⟩ c hc
    have hwu : CW u n T S D SP ap fi bk := hw.wq ⟨KA5_q ho, hu.zw hz⟩
    have hlen := wyL_len SP f
    unfold fW_showAllWays_L20 fW_showAllWays_J102
    rw [hwu.1.1]
    by_cases hf : f < n
    · have bf := hv.2.2.2.1 f
      rw [if_neg (by rw [iI_le (by omega) (by omega) (by omega) (by omega)]; omega), chk_in (by omega) (by omega) (by omega), iI_natc (by omega), show u.1 9 = _ from hwu.2.2.1, iI_add, iI_add]
      simp only [nmM, iI_le (a := 9) (b := SP f) (by omega) (by omega) (by omega) (by omega)]
      by_cases h9 : 9 ≤ SP f
      · rw [if_pos h9]
        have e0 : wyL SP (f + 1) = wyL SP f := if_neg (by omega)
        exact hc (n - (f + 1)) _ _ _ (by omega) ⟨f + 1, D', by omega, rfl, by rw [e0], by simp, hu, by rw [e0]; exact g1, ho⟩
      · rw [if_neg h9]
        have e0 : wyL SP (f + 1) = wyL SP f ++ [uI SP f (SP f + 1)] := if_pos (by omega)
        obtain ⟨t2, e2, hA2, h8, _⟩ := W_rewind hu hwu.2.1 hv.2.1 hv.2.2.1
        rw [e2, Option.bind_some, hA2.2.2.1.row (k := 9) (fun j => rfl), show u.1 9 = _ from hwu.2.2.1]
        dsimp only
        rw [iI_add]
        have hA3 := (W_setSP (f := f) (v := SP f + 1) hA2 h8).self
        have hvi := hv.setSP (f := f) (v := SP f + 1) (by omega) (by omega)
        have o3 : Off KA5 u (wsI t2 15 f (iI (SP f + 1))) := (hA2.2.2.1.mono fun k j hk => by simp only [KA5, Bool.or_eq_false_iff] at hk; exact hk.1).set rfl
        have h145 : (wsI t2 15 f (iI (SP f + 1))).1 145 = u.1 145 := by rw [rd_ne (by decide), hA2.2.2.1.row (k := 145) fun j => rfl]
        generalize wsI t2 15 f (iI (SP f + 1)) = t3 at hA3 o3 h145 ⊢
        obtain ⟨t4, D4, e4, hB4, f4, g4, o4⟩ := W_showWay (k := (wyL SP f).length) hvi.1 hvi.2.2.2.1 hap (by omega) hA3
        rw [e4, Option.bind_some]
        have o4' : Off KA5 s t4 := (ho.trans o3).trans o4
        rw [o4'.row (k := 9) (fun j => rfl), show s.1 9 = _ from hw.2.2.1]
        have hB5 : WBd (wsI t4 15 f (iI (SP f))) (wsI t4 15 f (iI (SP f))) n T S SP ap D4 := by
          have := (hB4.setSP (f := f) (v := SP f)).self
          rw [uI_uI, uI_id] at this; exact this
        refine hc (n - (f + 1)) _ _ _ (by omega) ⟨f + 1, D4, by omega, rfl, by rw [e0]; simp, by simp, hB5, fun j hj w hw => ?_, o4'.set rfl⟩
        rw [rd_ne (by decide)]
        rw [e0] at hj
        simp at hj
        by_cases ej : j = (wyL SP f).length
        · subst ej
          rw [f4 w hw]
          unfold wyV
          have hp := (wyL_pre SP (f := f + 1) (g := n) (by omega) (wyL SP f).length (by rw [e0]; simp)).1
          rw [hp, e0, List.getD_eq_getElem?_getD, List.getElem?_append_right (Nat.le_refl _)]; simp
        · rw [g4 _ (by omega), h145]; exact g1 j (by omega) w hw
    · have : f = n := by omega
      subst this
      rw [if_pos (by rw [iI_le (by omega) (by omega) (by omega) (by omega)]; omega)]
      exact ⟨u, rfl, ⟨KA5_q ho, hu.zw hz⟩, g1⟩
  · have hj0 : j = 0 := by simp [wyL] at hj; exact hj
    subst hj0
    rw [f1 w hw]
    unfold wyV
    have hp := (wyL_pre SP (f := 0) (g := n) (by omega) 0 (by simp [wyL])).1
    rw [hp]; rfl
theorem W_mostAlike {K w : Nat} {vl : Nat → Nat} (hK : K ≤ 10) (hw : w < 20) (hvl : ∀ j, j < K → vl j < 37) (h : ∀ j, j < K → t.1 145 (20 * j + w) = iI ((vl j : Nat) : Int)) : fW_mostAlike t (iI (w : Int)) (iI (K : Int)) = some (iI ((alW vl K : Nat) : Int)) := by
  unfold fW_mostAlike
  refine for2a (fun i => iI ((mxN (fun i => cnt (fun j => decide (vl i = vl j)) K) i : Nat) : Int)) (i0 := 0) (n := K) (Nat.zero_le _) (by omega) (fun i _ hi c => ?_) (fun c => ?_)
  · unfold fW_mostAlike_L5
    rw [if_neg (by rw [iI_le (by omega) (by omega) (by omega) (by omega)]; omega)]
    have hmb : mxN (fun i => cnt (fun j => decide (vl i = vl j)) K) i ≤ K := mxN_le fun i _ => cnt_le _ _
    refine for2a (fun j => iI ((cnt (fun j => decide (vl i = vl j)) j : Nat) : Int)) (i0 := 0) (n := K) (Nat.zero_le _) (by omega) (fun j _ hj c2 => ?_) (fun c2 => ?_)
    · have b1 := hvl i hi
      have b2 := hvl j hj
      unfold fW_mostAlike_L17 fW_mostAlike_J57
      rw [if_neg (by rw [iI_le (by omega) (by omega) (by omega) (by omega)]; omega)]
      simp only [iI_mul, iI_add]
      rw [chk_in (by omega) (by omega) (by omega), chk_in (by omega) (by omega) (by omega), iI_nat (by omega) (by omega), iI_nat (by omega) (by omega), show ((i : Int) * 20 + (w : Int)).toNat = 20 * i + w by omega, show ((j : Int) * 20 + (w : Int)).toNat = 20 * j + w by omega, h i hi, h j hj]
      simp only [iI_eq (a := ((vl i : Nat) : Int)) (b := ((vl j : Nat) : Int)) (by omega) (by omega) (by omega) (by omega)]
      show _ = c2 (iI ((cnt (fun j => decide (vl i = vl j)) j + (if decide (vl i = vl j) then 1 else 0) : Nat) : Int)) _
      by_cases e : vl i = vl j
      · rw [if_pos (by omega), if_pos (by simpa using e)]; rfl
      · rw [if_neg (by omega), if_neg (by simpa using e)]; simp
    · have hcl := cnt_le (fun j => decide (vl i = vl j)) K
      unfold fW_mostAlike_L17
      rw [if_pos (by rw [iI_le (by omega) (by omega) (by omega) (by omega)]; omega), iMax_i (by omega) (by omega) (by omega) (by omega), iI_add]
      congr 2
      show _ = ((max (mxN (fun i => cnt (fun j => decide (vl i = vl j)) K) i) (cnt (fun j => decide (vl i = vl j)) K) : Nat) : Int)
      omega
  · unfold fW_mostAlike_L5
    rw [if_pos (by rw [iI_le (by omega) (by omega) (by omega) (by omega)]; omega)]; rfl
def suF (M : Nat → Nat) (K : Nat) : Nat → Nat × Nat
  | 0 => (0, K + 1)
  | i + 1 => if M i < (suF M K i).2 then (i, M i) else suF M K i
theorem suF_bd {M : Nat → Nat} {K : Nat} (h : ∀ i, M i ≤ K) : ∀ i, (suF M K i).2 ≤ K + 1 ∧ (suF M K i).1 ≤ i ∧ (1 ≤ i → (suF M K i).2 ≤ K)
  | 0 => by simp [suF]
  | i + 1 => by
    have ih := suF_bd h i
    have := h i
    unfold suF; split
    · simp only; omega
    · rename_i c
      refine ⟨ih.1, by omega, fun _ => ?_⟩
      by_cases h0 : 1 ≤ i
      · exact ih.2.2 h0
      · have : i = 0 := by omega
        subst this
        simp only [suF] at c
        omega
def suM (n : Nat) (T : Nat → Nat → Bool) (S : Nat → Nat → Int) (SP : Nat → Int) (ap : Int) (D : Nat → Int) (w : Nat) : Nat := alW (wyV n T S SP ap D w) (wyL SP n).length
def suA (n : Nat) (T : Nat → Nat → Bool) (S : Nat → Nat → Int) (SP : Nat → Int) (ap : Int) (D : Nat → Int) : Nat × Nat := suF (suM n T S SP ap D) (wyL SP n).length 20
theorem W_sunday (hv : CV n T S D SP ap fi bk) (hw : CW s n T S D SP ap fi bk) : ∃ s', fW_sunday s = some (iI (if n = 0 then -2 else ((suA n T S SP ap D).1 : Int) + 1), s') ∧ WQ s s' (if n = 0 then none else some [iI ((suA n T S SP ap D).2 : Int)]) := by
  have hn := hv.1.1
  unfold fW_sunday
  rw [hw.1.1]
  by_cases c0 : n = 0
  · rw [if_pos (by rw [c0]; rfl), if_pos c0, if_pos c0]
    exact ⟨s, rfl, WQ.refl hw.2.2.2.2.2.2⟩
  · rw [if_neg (by rw [iI_eq (by omega) (by omega) (by omega) (by omega)]; omega), if_neg c0, if_neg c0]
    obtain ⟨t, e, q, f⟩ := W_ways hv hw
    have hlen := wyL_len SP n
    rw [e, Option.bind_some]
    dsimp only
    rw [iI_add]
    have hM : ∀ i, suM n T S SP ap D i ≤ (wyL SP n).length := fun i => alW_le _ _
    refine wh3_w (Q := fun x => ∃ s', x = some (iI (((suA n T S SP ap D).1 : Int) + 1), s') ∧ WQ s s' (some [iI ((suA n T S SP ap D).2 : Int)])) (fun m x y z => ∃ i : Nat, i ≤ 20 ∧ m = 20 - i ∧ x = iI ((suF (suM n T S SP ap D) (wyL SP n).length i).1 : Int) ∧ y = iI ((suF (suM n T S SP ap D) (wyL SP n).length i).2 : Int) ∧ z = iI (i : Int)) ?_ 100000 20 _ _ _ (by omega) ⟨0, by omega, rfl, rfl, by simp [suF], rfl⟩
    rintro m x y z ⟨i, h1, rfl, rfl, rfl, rfl⟩ c hc
    have hb := suF_bd hM i
    have hMi := hM i
    unfold fW_sunday_L27 fW_sunday_J55
    by_cases hi : i < 20
    · rw [if_neg (by rw [iI_le (by omega) (by omega) (by omega) (by omega)]; omega), W_mostAlike (vl := wyV n T S SP ap D i) (by omega) hi (fun j _ => eN_lt hv.1 i) (fun j hj => f j hj i hi), Option.bind_some, iI_add]
      have hk := hc (20 - (i + 1)) _ _ _ (by omega) ⟨i + 1, by omega, rfl, rfl, rfl, rfl⟩
      have hs : suF (suM n T S SP ap D) (wyL SP n).length (i + 1) = if suM n T S SP ap D i < (suF (suM n T S SP ap D) (wyL SP n).length i).2 then (i, suM n T S SP ap D i) else suF (suM n T S SP ap D) (wyL SP n).length i := rfl
      rw [hs] at hk
      show ∃ s', (if iI ((suF (suM n T S SP ap D) (wyL SP n).length i).2 : Int) ≤ iI ((suM n T S SP ap D i : Nat) : Int) then _ else _) = _ ∧ _
      by_cases h : suM n T S SP ap D i < (suF (suM n T S SP ap D) (wyL SP n).length i).2
      · rw [if_neg (by rw [iI_le (by omega) (by omega) (by omega) (by omega)]; omega)]
        rw [if_pos h] at hk; exact hk
      · rw [if_pos (by rw [iI_le (by omega) (by omega) (by omega) (by omega)]; omega)]
        rw [if_neg h] at hk; exact hk
    · have : i = 20 := by omega
      subst this
      rw [if_pos (by decide)]
      obtain ⟨u', e, r, o⟩ := Num_tell (s := t) (v := iI ((suF (suM n T S SP ap D) (wyL SP n).length 20).2 : Int))
      rw [e, Option.bind_some, iI_add]
      exact ⟨u', rfl, q.row o r (by simp)⟩
end SU
