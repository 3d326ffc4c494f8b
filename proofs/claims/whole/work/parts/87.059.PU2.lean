/-! still -/
def stP (n : Nat) (T : Nat → Nat → Bool) (S : Nat → Nat → Int) (SP D : Nat → Int) (w : Nat) : Bool := alB (fun f => decide (it n T S SP D (w + 1) f = it n T S SP D w f)) n
def stV (n : Nat) (T : Nat → Nat → Bool) (S : Nat → Nat → Int) (SP D : Nat → Int) : Nat := ff (stP n T S SP D) 101
section ST2
variable {s t : wM} {n : Nat} {T : Nat → Nat → Bool} {S : Nat → Nat → Int} {D SP : Nat → Int} {ap fi bk : Int}
theorem W_still (hv : CV n T S D SP ap fi bk) (hw : CW s n T S D SP ap fi bk) : ∃ s', fW_still s = some (iI (if stV n T S SP D < 101 then (stV n T S SP D : Int) else -2), s') ∧ WQ s s' (if stV n T S SP D < 101 then some [iI (ep n T ap (it n T S SP D (stV n T S SP D)))] else none) := by
  have hap : 0 ≤ ap ∧ ap ≤ 9 := by have := hv.2.2.2.2.2.1; omega
  obtain ⟨t, e, hA, _⟩ := W_look hv hw
  unfold fW_still
  rw [e, Option.bind_some]
  refine wh2_w (Q := fun x => ∃ s', x = some (iI (if stV n T S SP D < 101 then (stV n T S SP D : Int) else -2), s') ∧ WQ s s' (if stV n T S SP D < 101 then some [iI (ep n T ap (it n T S SP D (stV n T S SP D)))] else none)) (fun m x u => ∃ i : Nat, i ≤ 101 ∧ m = 101 - i ∧ x = iI (i : Int) ∧ WA s u n T S SP ap (it n T S SP D i) ∧ ∀ j, j < i → stP n T S SP D j = false) ?_ 100000 101 _ t (by omega) ⟨0, by omega, rfl, rfl, hA, fun j hj => by omega⟩
  rintro m x u ⟨i, h1, rfl, rfl, hu, hf⟩ c hc
  unfold fW_still_L13
  by_cases hi : i < 101
  · rw [if_neg (by rw [iI_lt (by omega) (by omega) (by omega) (by omega)]; omega), hu.ep hv.1 hap, Option.bind_some]
    obtain ⟨u', e, hu', _, h8⟩ := W_week hv.1 hv.2.2.2.1 hu (rain := 0) (bits := 0) (by omega) (by omega)
    rw [show iI (0 : Int) = iI ((0 : Nat) : Int) from rfl] at e ⊢
    rw [e, Option.bind_some, h8, show iI ((0 : Nat) : Int) = iI 0 from rfl]
    simp only [decide_true, Bool.true_and, bI_0, iI_add]
    show ∃ s', (if stP n T S SP D i = false then _ else _) = _ ∧ _
    cases h0 : stP n T S SP D i
    · rw [if_pos rfl]
      refine hc (101 - (i + 1)) _ _ (by omega) ⟨i + 1, by omega, rfl, by simp, hu', fun j hj => ?_⟩
      by_cases e2 : j = i
      · subst e2; exact h0
      · exact hf j (by omega)
    · rw [if_neg (by decide)]
      have hV : stV n T S SP D = i := ff_eq (by omega) (fun _ => h0) hf
      obtain ⟨u2, e2, r2, o2⟩ := Num_tell (s := u') (v := iI (ep n T ap (it n T S SP D i)))
      rw [e2, Option.bind_some, hV, if_pos hi, if_pos hi]
      exact ⟨u2, rfl, (hu'.wq hv.2.2.2.2.1).row o2 r2 (by simp)⟩
  · have : i = 101 := by omega
    subst this
    have hV : stV n T S SP D = 101 := ff_eq (by omega) (fun h => by omega) hf
    rw [if_pos (by decide), hV, if_neg (by omega), if_neg (by omega)]
    exact ⟨u, rfl, hu.wq hv.2.2.2.2.1⟩
theorem M_still (hv : CV n T S D SP ap fi bk) (hm : CM s n T S D SP ap fi bk) : ∃ s', fM_still s = some (iI (if stV n T S SP D < 101 then (stV n T S SP D : Int) else -2), s') ∧ MQn s s' (if stV n T S SP D < 101 then some [iI (ep n T ap (it n T S SP D (stV n T S SP D)))] else none) := by
  have hn := hv.1.1
  have hap : 0 ≤ ap ∧ ap ≤ 9 := by have := hv.2.2.2.2.2.1; omega
  have hm1 := hm.thr (v := iI 0)
  have hz := hm.2.2.2.2.2.2
  obtain ⟨t, e, hA⟩ := M_start hv hm1
  have hA := hA.pre
  unfold fM_still
  simp only [nmM]
  rw [e, Option.bind_some]
  refine wh2_w (Q := fun x => ∃ s', x = some (iI (if stV n T S SP D < 101 then (stV n T S SP D : Int) else -2), s') ∧ MQn s s' (if stV n T S SP D < 101 then some [iI (ep n T ap (it n T S SP D (stV n T S SP D)))] else none)) (fun m x u => ∃ i : Nat, i ≤ 101 ∧ m = 101 - i ∧ x = iI (i : Int) ∧ MA s u n T S SP ap (it n T S SP D i) ∧ ∀ j, j < i → stP n T S SP D j = false) ?_ 100000 101 _ t (by omega) ⟨0, by omega, rfl, rfl, hA, fun j hj => by omega⟩
  rintro m x u ⟨i, h1, rfl, rfl, hu, hf⟩ c hc
  unfold fM_still_L11
  by_cases hi : i < 101
  · have bA : Bn n (it n T S SP D i) := fun j _ => hu.2.2.2.2.2.1 j
    rw [if_neg (by rw [iI_lt (by omega) (by omega) (by omega) (by omega)]; omega), M_packed (k := 187) hn hu.1.1 (fun j _ => by rw [show u.1 187 = _ from hu.2.2.2.1]) bA, Option.bind_some, hu.ep hv.1 hap, Option.bind_some]
    obtain ⟨u', e, hu'⟩ := M_week hv.1 hv.2.2.2.1 hu (rain := 0) (bits := 0) (by omega) (by omega)
    have bB : Bn n (it n T S SP D (i + 1)) := fun j _ => hu'.2.2.2.2.2.1 j
    rw [show iI (0 : Int) = iI ((0 : Nat) : Int) from rfl] at e ⊢
    rw [e, Option.bind_some, M_packed (k := 187) (D := it n T S SP D (i + 1)) hn hu'.1.1 (fun j _ => by rw [show u'.1 187 = _ from hu'.2.2.2.1]; rfl) bB, Option.bind_some, show iI ((0 : Nat) : Int) = iI 0 from rfl]
    simp only [lg_n (mkey_63 hn bB) (mkey_63 hn bA), iI_add, nmM]
    have key : (mkey (it n T S SP D (i + 1)) n = mkey (it n T S SP D i) n) ↔ stP n T S SP D i = true := by
      constructor
      · intro h; exact alB_t.mpr fun f hf => decide_eq_true (mkey_inj bB bA h f hf)
      · intro h; exact mkey_congr fun f hf => by have := alB_t.mp h f hf; simpa using this
    cases h0 : stP n T S SP D i
    · rw [if_neg (fun h => by rw [key.mp h] at h0; cases h0)]
      refine hc (101 - (i + 1)) _ _ (by omega) ⟨i + 1, by omega, rfl, by simp, hu', fun j hj => ?_⟩
      by_cases e2 : j = i
      · subst e2; exact h0
      · exact hf j (by omega)
    · rw [if_pos (key.mpr h0)]
      have hV : stV n T S SP D = i := ff_eq (by omega) (fun _ => h0) hf
      obtain ⟨u2, e2, r2, o2⟩ := M_tell1 (t := u') (v := iI (ep n T ap (it n T S SP D i)))
      rw [e2, Option.bind_some, hV, if_pos hi, if_pos hi]
      exact ⟨u2, rfl, (hu'.mq hz).row o2 r2⟩
  · have : i = 101 := by omega
    subst this
    have hV : stV n T S SP D = 101 := ff_eq (by omega) (fun h => by omega) hf
    rw [if_pos (by decide), hV, if_neg (by omega), if_neg (by omega)]
    exact ⟨u, rfl, hu.mq hz⟩
end ST2
theorem q_both {s : wM} {fW : Option (Int32 × wM)} {fM : wM → Option (Int32 × wM)} {A : Int32} {R : Option (List Int32)} (hI : wInv s) (h1 : ∃ s1, fW = some (A, s1) ∧ WQ s s1 R) (h2 : ∀ s1, Off KWr s s1 → ∃ s2, fM s1 = some (A, s2) ∧ MQn s1 s2 R) : ∃ r s1 s2, fW = some (r, s1) ∧ fM s1 = some (r, s2) ∧ wInv s2 := by
  obtain ⟨s1, e1, q1⟩ := h1
  obtain ⟨s2, e2, q2⟩ := h2 s1 q1.off.1
  exact ⟨A, s1, s2, e1, e2, wInv_q hI q1 q2⟩
theorem op27 : op_27 wInv := fun s hI => by
  obtain ⟨n, T, S, D, SP, ap, fi, bk, G, w, pl, kp, tx, se, l, hv, hw, hm, _⟩ := id hI
  exact q_both hI (W_still hv.1 hw.1) (fun s1 o => M_still hv.1 (hm.1.byW o))
