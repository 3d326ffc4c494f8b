def wyK (SP : Nat → Int) : Nat → Nat
  | 0 => 0
  | i + 1 => (wyL SP i).length
section SM
variable {s t u : wM} {n : Nat} {T : Nat → Nat → Bool} {S : Nat → Nat → Int} {D D' SP v : Nat → Int} {ap fi bk : Int}
/-- the table of the model: of the first k ways, how many showed e on Sunday w + 1 -/
def suT (u : wM) (n : Nat) (T : Nat → Nat → Bool) (S : Nat → Nat → Int) (SP : Nat → Int) (ap : Int) (D : Nat → Int) (k : Nat) : Prop := ∀ w e, w < 20 → e < 37 → u.1 193 (37 * (w + 1) + e) = iI ((cnt (fun j => decide (wyV n T S SP ap D w j = e)) k : Nat) : Int)
def sunE (k39 : Int32 → wM → Option (Int32 × wM)) (x1 : Int32) (s : wM) : Option (Int32 × wM) := chk (iMax (iI (0)) x1) 9 (if x1 < iI 0 then (fM_sunday_J160 k39 x1 (iI (0)) (s.1 164 (iMax (iI (0)) x1).toNatClampNeg) (iMax (iI (0)) x1) s) else (fM_sunday_J160 k39 x1 (iI (1)) (s.1 164 (iMax (iI (0)) x1).toNatClampNeg) (iMax (iI (0)) x1) s))
theorem CM.R193 {j : Nat} {x : Int32} (h : CM u n T S D v ap fi bk) : CM (wsI u 193 j x) n T S D v ap fi bk := h.of fun k j hk => by rw [rd_ne (by omega)]
theorem CM.toMA (h : CM u n T S D v ap fi bk) (r : Rw u 187 D') (b : Bd D' 0 99) (z : Z9 D') : MA u u n T S v ap D' := ⟨h.1, h.2.2.1, h.2.2.2.1, r, Off.refl u, b, z⟩
theorem M_sunL {k39 : Int32 → wM → Option (Int32 × wM)} {x1 : Int32} {k : Nat} (hv : CV n T S D v ap fi bk) (hk : k < 10) (hvk : ∀ w, wyV n T S SP ap D w k = eN n T S ap D v w) (hm : CM u n T S D v ap fi bk) (hr : Rw u 187 D) (ht : suT u n T S SP ap D k) : ∃ t, wh2 (fM_sunday_L96 k39 x1) 100000 (iI 1) u = sunE k39 x1 t ∧ CM t n T S D v ap fi bk ∧ suT t n T S SP ap D (k + 1) ∧ Off KX u t := by
  have hap : 0 ≤ ap ∧ ap ≤ 9 := by have := hv.2.2.2.2.2.1; omega
  refine wh2_w (Q := fun x => ∃ t, x = sunE k39 x1 t ∧ CM t n T S D v ap fi bk ∧ suT t n T S SP ap D (k + 1) ∧ Off KX u t) (fun m x t => ∃ i : Nat, i ≤ 20 ∧ m = 20 - i ∧ x = iI ((i : Int) + 1) ∧ CM t n T S D v ap fi bk ∧ Rw t 187 (it n T S v D i) ∧ (∀ w e, w < 20 → e < 37 → t.1 193 (37 * (w + 1) + e) = iI ((cnt (fun j => decide (wyV n T S SP ap D w j = e)) (if w < i then k + 1 else k) : Nat) : Int)) ∧ Off KX u t) ?_ 100000 20 _ u (by omega) ⟨0, by omega, rfl, rfl, hm, hr, fun w e hw he => by rw [if_neg (by omega)]; exact ht w e hw he, Off.refl u⟩
  rintro m x t ⟨i, h1, rfl, rfl, hmt, hrt, g1, ho⟩ c hc
  by_cases hi : i < 20
  · unfold fM_sunday_L96
    rw [if_neg (by rw [iI_lt (by omega) (by omega) (by omega) (by omega)]; omega)]
    have hvi := hv.it i
    obtain ⟨t', e, ht'⟩ := M_week hv.1 hv.2.2.2.1 (hmt.toMA hrt hvi.2.1 hvi.2.2.1) (rain := 0) (bits := 0) (by omega) (by omega)
    have hle := eN_lt (ap := ap) (D := D) (v := v) hv.1 i
    rw [show iI (0 : Int) = iI ((0 : Nat) : Int) from rfl] at e ⊢
    rw [e, Option.bind_some, ht'.ep hv.1 hap, Option.bind_some, eN_ep hv.1, iI_mul, iI_add, chk_in (by omega) (by omega) (by omega), iI_nat (by omega) (by omega), show (37 * ((i : Int) + 1) + ((eN n T S ap D v i : Nat) : Int)).toNat = 37 * (i + 1) + eN n T S ap D v i by omega, iI_add]
    simp only [nmM]
    have e193 : t'.1 193 = t.1 193 := ht'.2.2.2.2.1.row fun j => rfl
    rw [e193, g1 i (eN n T S ap D v i) hi hle, if_neg (show ¬ i < i by omega), iI_add]
    refine hc (20 - (i + 1)) _ _ (by omega) ⟨i + 1, by omega, rfl, by simp, (hmt.ma ht').R193, ht'.2.2.2.1.of (rd_ne (by decide)), fun w e hw he => ?_, (ho.trans ht'.q.xq).set rfl⟩
    rw [rd_if, e193]
    by_cases ew : w = i
    · subst ew
      rw [if_pos (show w < w + 1 by omega)]
      have hcs : cnt (fun j => decide (wyV n T S SP ap D w j = e)) (k + 1) = cnt (fun j => decide (wyV n T S SP ap D w j = e)) k + (if decide (wyV n T S SP ap D w k = e) then 1 else 0) := rfl
      rw [hcs, hvk w]
      by_cases ee : e = eN n T S ap D v w
      · subst ee
        rw [if_pos rfl, if_pos (by simp)]; simp
      · rw [if_neg (by omega), g1 w e hw he, if_neg (show ¬ w < w by omega), if_neg (by simp; omega)]; simp
    · rw [if_neg (by omega), g1 w e hw he]
      by_cases e2 : w < i
      · rw [if_pos e2, if_pos (by omega)]
      · rw [if_neg e2, if_neg (by omega)]
  · have : i = 20 := by omega
    subst this
    refine ⟨t, ?_, hmt, fun w e hw he => by rw [g1 w e hw he, if_pos hw], ho⟩
    unfold fM_sunday_L96 sunE
    rw [if_pos (by decide)]
theorem M_sunV {c : Int32 → wM → Option (Int32 × wM)} {x1 : Int32} {f0 k : Nat} {fl : Bool} (hv : CV n T S D SP ap fi bk) (hf : f0 < 9) (hx : iMax (iI 0) x1 = iI (f0 : Int)) (hneg : (x1 < iI 0) = (fl = false)) (h9 : fl = true → SP f0 < 9) (hk : k < 10) (hvk : ∀ w, wyV n T S SP ap D w k = eN n T S ap D (uI SP f0 (SP f0 + (if fl then 1 else 0))) w) (hm : CM u n T S D SP ap fi bk) (ht : suT u n T S SP ap D k) : ∃ t, fM_sunday_J65 c x1 u = c (x1 + iI 1) t ∧ CM t n T S D SP ap fi bk ∧ suT t n T S SP ap D (k + 1) ∧ Off KX u t := by
  have bS := hv.2.2.2.1 f0
  have hvi := hv.setSP (f := f0) (v := SP f0 + (if fl then 1 else 0)) hf (by
    cases fl
    · simp; omega
    · have := h9 rfl; simp; omega)
  have b1 : bI fl = iI (if fl then 1 else 0) := by cases fl <;> rfl
  have sel : ∀ {α : Type} (x y : α), (if x1 < iI 0 then x else y) = (if fl = true then y else x) := fun x y => by
    simp only [hneg]; cases fl <;> rfl
  unfold fM_sunday_J65
  rw [hx, chk_in (by omega) (by omega) (by omega), iI_natc (by omega), show u.1 164 = _ from hm.2.2.1, sel]
  have e1 : (if fl = true then fM_sunday_J85 c x1 (iI 1) (iI (SP f0)) (iI (f0 : Int)) u else fM_sunday_J85 c x1 (iI 0) (iI (SP f0)) (iI (f0 : Int)) u) = fM_sunday_J85 c x1 (bI fl) (iI (SP f0)) (iI (f0 : Int)) u := by cases fl <;> rfl
  show ∃ t, (if fl = true then fM_sunday_J85 c x1 (iI 1) (iI (SP f0)) (iI (f0 : Int)) u else fM_sunday_J85 c x1 (iI 0) (iI (SP f0)) (iI (f0 : Int)) u) = _ ∧ _
  rw [e1]
  unfold fM_sunday_J85
  rw [M_flag, Option.bind_some, chk_in (by omega) (by omega) (by omega), iI_natc (by omega), b1, iI_add]
  simp only [nmM]
  have hu1 := hm.setSP (f := f0) (v := SP f0 + (if fl then 1 else 0))
  have o1 : Off KX u (wsI u 164 f0 (iI (SP f0 + (if fl then 1 else 0)))) := (Off.refl u).set rfl
  have h193 : (wsI u 164 f0 (iI (SP f0 + (if fl then 1 else 0)))).1 193 = u.1 193 := rd_ne (by decide)
  generalize wsI u 164 f0 (iI (SP f0 + (if fl then 1 else 0))) = u1 at hu1 o1 h193 ⊢
  obtain ⟨u2, e2, hA2⟩ := M_start hvi hu1
  have hu2 := hu1.ma hA2
  have h193' : u2.1 193 = u.1 193 := by rw [hA2.2.2.2.2.1.row (k := 193) fun j => rfl, h193]
  have ht2 : suT u2 n T S SP ap D k := fun w e hw he => by rw [h193']; exact ht w e hw he
  obtain ⟨u3, e3, hu3, ht3, o3⟩ := M_sunL (k39 := c) (x1 := x1) hvi hk hvk hu2 hA2.2.2.2.1 ht2
  rw [e2, Option.bind_some, e3]
  unfold sunE
  rw [hx, chk_in (by omega) (by omega) (by omega), iI_natc (by omega), show u3.1 164 = _ from hu3.2.2.1, sel]
  have e4 : (if fl = true then fM_sunday_J160 c x1 (iI 1) (iI (uI SP f0 (SP f0 + (if fl then 1 else 0)) f0)) (iI (f0 : Int)) u3 else fM_sunday_J160 c x1 (iI 0) (iI (uI SP f0 (SP f0 + (if fl then 1 else 0)) f0)) (iI (f0 : Int)) u3) = fM_sunday_J160 c x1 (bI fl) (iI (uI SP f0 (SP f0 + (if fl then 1 else 0)) f0)) (iI (f0 : Int)) u3 := by cases fl <;> rfl
  show ∃ t, (if fl = true then fM_sunday_J160 c x1 (iI 1) (iI (uI SP f0 (SP f0 + (if fl then 1 else 0)) f0)) (iI (f0 : Int)) u3 else fM_sunday_J160 c x1 (iI 0) (iI (uI SP f0 (SP f0 + (if fl then 1 else 0)) f0)) (iI (f0 : Int)) u3) = _ ∧ _
  rw [e4, uI_at]
  unfold fM_sunday_J160 fM_sunday_J165
  rw [M_flag, Option.bind_some, chk_in (by omega) (by omega) (by omega), iI_natc (by omega), b1, iI_sub, show SP f0 + (if fl then 1 else 0) - (if fl then 1 else 0) = SP f0 by omega]
  simp only [nmM]
  have hu4 := hu3.setSP (f := f0) (v := SP f0)
  rw [uI_uI, uI_id] at hu4
  exact ⟨_, rfl, hu4, fun w e hw he => by rw [rd_ne (by decide)]; exact ht3 w e hw he, ((o1.trans hA2.q.xq).trans o3).set rfl⟩
theorem M_sunday (hv : CV n T S D SP ap fi bk) (hm : CM s n T S D SP ap fi bk) : ∃ s', fM_sunday s = some (iI (if n = 0 then -2 else ((suA n T S SP ap D).1 : Int) + 1), s') ∧ CM s' n T S D SP ap fi bk ∧ MX s s' (if n = 0 then none else some [iI ((suA n T S SP ap D).2 : Int)]) := by
  have hn := hv.1.1
  have hm1 := hm.thr (v := iI 0)
  have o1 : Off KX s (wsI s 161 0 (iI 0)) := (Off.refl s).set rfl
  have hlen := wyL_len SP n
  unfold fM_sunday
  simp only [nmM]
  rw [hm1.1.1]
  by_cases c0 : n = 0
  · rw [if_pos (by rw [c0]; rfl), if_pos c0, if_pos c0]
    exact ⟨_, rfl, hm1, o1⟩
  · rw [if_neg (by rw [iI_eq (by omega) (by omega) (by omega) (by omega)]; omega), if_neg c0, if_neg c0]
    generalize wsI s 161 0 (iI 0) = s1 at hm1 o1 ⊢
    have eL : wh2 fM_sunday_L17 100000 (iI 0) s1 = wh2 fM_sunday_L39 100000 (iI (-1)) (wRo s1 193 (fun j => if j < 777 then iI 0 else s1.1 193 j)) := by
      have e0 : s1 = wRo s1 193 (fun j => if j < 0 then iI 0 else s1.1 193 j) := (wR_id (by funext j; simp)).symm
      conv => lhs; arg 4; rw [e0]
      refine for2b (fun i => wRo s1 193 (fun j => if j < i then iI 0 else s1.1 193 j)) (i0 := 0) (n := 777) (Nat.zero_le _) (by omega) (fun i _ hi c => ?_) (fun c => ?_)
      · unfold fM_sunday_L17
        rw [if_neg (by rw [iI_le (by omega) (by omega) (by omega) (by omega)]; omega), chk_in (by omega) (by omega) (by omega), iI_natc (by omega), iI_add]
        simp only [nmM]
        rw [wsI_Rr]
        congr 2
        funext x
        by_cases h1 : x = i
        · subst h1; rw [if_pos rfl, if_pos (by omega)]
        · rw [if_neg h1]
          by_cases h2 : x < i
          · rw [if_pos h2, if_pos (by omega)]
          · rw [if_neg h2, if_neg (by omega)]
      · unfold fM_sunday_L17
        rw [if_pos (by decide)]
    rw [eL]
    have hT0 : suT (wRo s1 193 (fun j => if j < 777 then iI 0 else s1.1 193 j)) n T S SP ap D (wyK SP 0) := fun w e hw he => by
      rw [wRo_at, if_pos (by omega)]; rfl
    have hm2 : CM (wRo s1 193 (fun j => if j < 777 then iI 0 else s1.1 193 j)) n T S D SP ap fi bk := hm1.of fun k j hk => by rw [wR_ne (by omega)]
    have o2 : Off KX s (wRo s1 193 (fun j => if j < 777 then iI 0 else s1.1 193 j)) := wR_off o1 fun j => rfl
    refine wh2_w (Q := fun x => ∃ s', x = some (iI (((suA n T S SP ap D).1 : Int) + 1), s') ∧ CM s' n T S D SP ap fi bk ∧ MX s s' (some [iI ((suA n T S SP ap D).2 : Int)])) (fun m x u => ∃ i : Nat, i ≤ n + 1 ∧ m = n + 1 - i ∧ x = iI ((i : Int) - 1) ∧ CM u n T S D SP ap fi bk ∧ suT u n T S SP ap D (wyK SP i) ∧ Off KX s u) ?_ 100000 (n + 1) _ _ (by omega) ⟨0, by omega, rfl, rfl, hm2, hT0, o2⟩
    rintro m x u ⟨i, h1, rfl, rfl, hu, ht, ho⟩ c hc
    unfold fM_sunday_L39
    rw [hu.1.1]
    by_cases hi : i ≤ n
    · rw [if_neg (by rw [iI_le (by omega) (by omega) (by omega) (by omega)]; omega)]
      cases i with
      | zero =>
        rw [if_pos (by decide)]
        obtain ⟨t, e, hmt, htt, ot⟩ := M_sunV (c := c) (x1 := iI (((0 : Nat) : Int) - 1)) (f0 := 0) (k := 0) (fl := false) hv (by omega) rfl (by simp; decide) (fun h => by cases h) (by omega) (fun w => by
          unfold wyV
          have hp := (wyL_pre SP (f := 0) (g := n) (by omega) 0 (by simp [wyL])).1
          rw [hp]
          simp only [Bool.false_eq_true, if_false, Int.add_zero, uI_id]; rfl) hu ht
        rw [e, iI_add]
        exact hc (n + 1 - 1) _ _ (by omega) ⟨1, by omega, rfl, by rfl, hmt, htt, ho.trans ot⟩
      | succ f =>
        have bf := hv.2.2.2.1 f
        have hlf := wyL_len SP f
        rw [show (((f + 1 : Nat) : Int) - 1) = (f : Int) by omega, if_neg (by rw [iI_lt (by omega) (by omega) (by omega) (by omega)]; omega), chk_in (by omega) (by omega) (by omega), iI_natc (by omega), show u.1 164 = _ from hu.2.2.1]
        by_cases h9 : SP f = 9
        · have e0 : wyL SP (f + 1) = wyL SP f := if_neg (by omega)
          rw [if_pos (by show iI (SP f) = _; rw [h9])]
          unfold fM_sunday_J165
          rw [iI_add]
          exact hc (n + 1 - (f + 1 + 1)) _ _ (by omega) ⟨f + 1 + 1, by omega, rfl, iI_congr (by omega), hu, by show suT u n T S SP ap D (wyL SP (f + 1)).length; rw [e0]; exact ht, ho⟩
        · have e0 : wyL SP (f + 1) = wyL SP f ++ [uI SP f (SP f + 1)] := if_pos (by omega)
          rw [if_neg (by show ¬ iI (SP f) = _; rw [iI_eq (by omega) (by omega) (by omega) (by omega)]; exact h9)]
          obtain ⟨t, e, hmt, htt, ot⟩ := M_sunV (c := c) (x1 := iI (f : Int)) (f0 := f) (k := (wyL SP f).length) (fl := true) hv (by omega) (by rw [iMax_i (by omega) (by omega) (by omega) (by omega)]; exact iI_congr (by omega)) (by rw [iI_lt (by omega) (by omega) (by omega) (by omega)]; simp) (fun _ => by omega) (by omega) (fun w => by
            unfold wyV
            have hp := (wyL_pre SP (f := f + 1) (g := n) (by omega) (wyL SP f).length (by rw [e0]; simp)).1
            rw [hp, e0, List.getD_eq_getElem?_getD, List.getElem?_append_right (Nat.le_refl _)]; simp) hu ht
          rw [e, iI_add]
          exact hc (n + 1 - (f + 1 + 1)) _ _ (by omega) ⟨f + 1 + 1, by omega, rfl, iI_congr (by omega), hmt, by show suT t n T S SP ap D (wyL SP (f + 1)).length; rw [e0]; simpa using htt, ho.trans ot⟩
    · have : i = n + 1 := by omega
      subst this
      rw [if_pos (by rw [iI_le (by omega) (by omega) (by omega) (by omega)]; omega)]
      have ht : suT u n T S SP ap D (wyL SP n).length := ht
      have hM : ∀ i, suM n T S SP ap D i ≤ (wyL SP n).length := fun i => alW_le _ _
      have hMM : ∀ i, suM n T S SP ap D i = alM (wyV n T S SP ap D i) (wyL SP n).length := fun i => al_eq fun j _ => eN_lt hv.1 i
      refine wh3_w (Q := fun x => ∃ s', x = some (iI (((suA n T S SP ap D).1 : Int) + 1), s') ∧ CM s' n T S D SP ap fi bk ∧ MX s s' (some [iI ((suA n T S SP ap D).2 : Int)])) (fun m x y z => ∃ i : Nat, i ≤ 20 ∧ m = 20 - i ∧ x = iI (if i = 0 then 0 else ((suF (suM n T S SP ap D) (wyL SP n).length i).1 : Int) + 1) ∧ y = iI (if i = 0 then 2147483647 else ((suF (suM n T S SP ap D) (wyL SP n).length i).2 : Int)) ∧ z = iI ((i : Int) + 1)) ?_ 100000 20 _ _ _ (by omega) ⟨0, by omega, rfl, rfl, rfl, rfl⟩
      rintro m x y z ⟨i, h1, rfl, rfl, rfl, rfl⟩ c hc
      have hb := suF_bd hM i
      have hMi := hM i
      unfold fM_sunday_L179
      by_cases hi : i < 20
      · rw [if_neg (by rw [iI_lt (by omega) (by omega) (by omega) (by omega)]; omega)]
        have hk := hc (20 - (i + 1)) _ _ _ (by omega) ⟨i + 1, by omega, rfl, rfl, rfl, rfl⟩
        rw [if_neg (by omega), if_neg (by omega)] at hk
        have hs : suF (suM n T S SP ap D) (wyL SP n).length (i + 1) = if suM n T S SP ap D i < (suF (suM n T S SP ap D) (wyL SP n).length i).2 then (i, suM n T S SP ap D i) else suF (suM n T S SP ap D) (wyL SP n).length i := rfl
        have inner : ∀ x1 x2 : Int32, wh2 (fM_sunday_L191 c x1 x2 (iI ((i : Int) + 1)) u) 100000 (iI 0) (iI 0) = if x2 ≤ iI ((suM n T S SP ap D i : Nat) : Int) then c x1 (iMin x2 (iI ((suM n T S SP ap D i : Nat) : Int))) (iI ((i : Int) + 1 + 1)) else c (iI ((i : Int) + 1)) (iMin x2 (iI ((suM n T S SP ap D i : Nat) : Int))) (iI ((i : Int) + 1 + 1)) := fun x1 x2 => by
          rw [hMM i]
          refine for2a (fun e => iI ((mxN (fun e => cnt (fun j => decide (wyV n T S SP ap D i j = e)) (wyL SP n).length) e : Nat) : Int)) (i0 := 0) (n := 37) (Nat.zero_le _) (by omega) (fun e _ he c2 => ?_) (fun c2 => ?_)
          · have hmb : mxN (fun e => cnt (fun j => decide (wyV n T S SP ap D i j = e)) (wyL SP n).length) e ≤ (wyL SP n).length := mxN_le fun i _ => cnt_le _ _
            have hcl := cnt_le (fun j => decide (wyV n T S SP ap D i j = e)) (wyL SP n).length
            unfold fM_sunday_L191
            rw [if_neg (by rw [iI_le (by omega) (by omega) (by omega) (by omega)]; omega), iI_mul, iI_add, chk_in (by omega) (by omega) (by omega), iI_nat (by omega) (by omega), show (37 * ((i : Int) + 1) + (e : Int)).toNat = 37 * (i + 1) + e by omega, ht i e hi he, iMax_i (by omega) (by omega) (by omega) (by omega), iI_add]
            simp only [nmI]
            have hm : iI (max ((mxN (fun e => cnt (fun j => decide (wyV n T S SP ap D i j = e)) (wyL SP n).length) e : Nat) : Int) ((cnt (fun j => decide (wyV n T S SP ap D i j = e)) (wyL SP n).length : Nat) : Int)) = iI ((mxN (fun e => cnt (fun j => decide (wyV n T S SP ap D i j = e)) (wyL SP n).length) (e + 1) : Nat) : Int) := iI_congr (by
              rw [show mxN (fun e => cnt (fun j => decide (wyV n T S SP ap D i j = e)) (wyL SP n).length) (e + 1) = max (mxN (fun e => cnt (fun j => decide (wyV n T S SP ap D i j = e)) (wyL SP n).length) e) (cnt (fun j => decide (wyV n T S SP ap D i j = e)) (wyL SP n).length) from rfl]
              omega)
            rw [hm]
          · unfold fM_sunday_L191 fM_sunday_J234
            rw [if_pos (by decide), iI_add]; rfl
        rw [inner]
        by_cases h0 : i = 0
        · subst h0
          rw [if_pos rfl, if_pos rfl, if_neg (by rw [iI_le (by omega) (by omega) (by omega) (by omega)]; omega), iMin_i (by omega) (by omega) (by omega) (by omega), show min 2147483647 ((suM n T S SP ap D 0 : Nat) : Int) = ((suM n T S SP ap D 0 : Nat) : Int) by omega]
          rw [hs, if_pos (by simp only [suF]; omega)] at hk
          exact hk
        · have hb2 := hb.2.2 (by omega)
          rw [if_neg h0, if_neg h0, iMin_i (by omega) (by omega) (by omega) (by omega)]
          rw [hs] at hk
          by_cases h : suM n T S SP ap D i < (suF (suM n T S SP ap D) (wyL SP n).length i).2
          · rw [if_neg (by rw [iI_le (by omega) (by omega) (by omega) (by omega)]; omega), show min ((suF (suM n T S SP ap D) (wyL SP n).length i).2 : Int) ((suM n T S SP ap D i : Nat) : Int) = ((suM n T S SP ap D i : Nat) : Int) by omega]
            rw [if_pos h] at hk; exact hk
          · rw [if_pos (by rw [iI_le (by omega) (by omega) (by omega) (by omega)]; omega), show min ((suF (suM n T S SP ap D) (wyL SP n).length i).2 : Int) ((suM n T S SP ap D i : Nat) : Int) = ((suF (suM n T S SP ap D) (wyL SP n).length i).2 : Int) by omega]
            rw [if_neg h] at hk; exact hk
      · have : i = 20 := by omega
        subst this
        rw [if_pos (by decide), if_neg (by omega), if_neg (by omega)]
        simp only [nmM]
        obtain ⟨u', e, r, o⟩ := M_tell1 (t := u) (v := iI ((suF (suM n T S SP ap D) (wyL SP n).length 20).2 : Int))
        rw [e, Option.bind_some]
        refine ⟨u', rfl, hu.kn o, (ho.mono fun k j hk => ?_).trans (o.mono fun k j hk => ?_), r⟩
        · simp only [KXr, KMr, KX, Bool.or_eq_false_iff] at hk ⊢; exact ⟨hk.1.1.1, hk.2⟩
        · simp only [KXr, KMr, KMn, Bool.or_eq_false_iff] at hk ⊢; exact ⟨hk.1.1.2, hk.1.2⟩
end SM
theorem op42 : op_42 wInv := fun s hI => by
  obtain ⟨n, T, S, D, SP, ap, fi, bk, G, w, pl, kp, tx, se, l, hv, hw, hm, r1, r2, hl⟩ := hI
  obtain ⟨s1, e1, q1⟩ := W_sunday hv.1 hw.1
  have hm1 := hm.byW q1.off.1
  obtain ⟨s2, e2, c2, q2⟩ := M_sunday hv.1 hm1.1
  exact ⟨_, s1, s2, e1, e2, wInv_x hv hw hm r1 r2 hl q1 c2 q2⟩
