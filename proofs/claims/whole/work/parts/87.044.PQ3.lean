/-! payer -/
def pyB (V : Nat → Int32) : Nat → Nat
  | 0 => 0
  | f + 1 => if V f ≤ V (pyB V f) then pyB V f else f
def pyS (V : Nat → Int32) : Nat → Int32
  | 0 => iI 0
  | f + 1 => pyS V f + V f
theorem pyB_lt (V : Nat → Int32) : ∀ f, f ≤ 9 → pyB V f < 9
  | 0, _ => by simp [pyB]
  | f + 1, h => by have := pyB_lt V f (by omega); unfold pyB; split <;> omega
section P16
variable {s t : wM} {ρ A B : Type}
theorem wh2_p {f : A → B → (A → B → Option ρ) → Option ρ} (P : A → B → Prop) {Q : Option ρ → Prop} (hn : Q none) (st : ∀ a b k, P a b → (∀ a' b', P a' b' → Q (k a' b')) → Q (f a b k)) : ∀ n a b, P a b → Q (wh2 f n a b)
  | 0, _, _, _ => hn
  | n + 1, a, b, h => st a b _ h fun a' b' h' => wh2_p P hn st n a' b' h'
def F16 (s : wM) (o : Option wM) : Prop := ∀ t, o = some t → t.1 16 = s.1 16
theorem F16.none : F16 s none := fun t h => by cases h
theorem F16.some (h : t.1 16 = s.1 16) : F16 s (some t) := fun t' e => by cases e; exact h
theorem F16.ck {i : Int32} {n : Nat} {k : Option wM} (h : F16 s k) : F16 s (chk i n k) := by unfold chk; split; exact F16.none; exact h
theorem F16.ckD {i : Int32} {k : Option wM} (h : F16 s k) : F16 s (chkD i k) := by unfold chkD; split; exact F16.none; exact h
theorem F16.ckZ {i : Int32} {k : Option wM} (h : F16 s k) : F16 s (chkZ i k) := by unfold chkZ; split; exact h; exact F16.none
theorem F16.ite {c : Prop} [Decidable c] {a b : Option wM} (h1 : F16 s a) (h2 : F16 s b) : F16 s (if c then a else b) := by split; exact h1; exact h2
theorem F16.bind {o : Option wM} {k : wM → Option wM} (h1 : F16 s o) (h2 : ∀ t, t.1 16 = s.1 16 → F16 s (k t)) : F16 s (o.bind k) := by
  cases o with
  | none => exact F16.none
  | some t => exact h2 t (h1 t rfl)
theorem ms16 {u : wM} (hu : u.1 16 = s.1 16) : F16 s (fAh_measureSeep u) := by
  unfold fAh_measureSeep
  simp only [nmM]
  refine wh2_p (fun _ b => b.1 16 = s.1 16) F16.none (fun a b k hb hk => ?_) _ _ _ (by rw [rd_fne (by decide)]; exact hu)
  have J : ∀ v, F16 s (fAh_measureSeep_J63 k a v b) := fun v => by
    unfold fAh_measureSeep_J63 fAh_measureSeep_J94
    simp only [nmM]
    refine F16.ck (F16.ite (F16.ck (hk _ _ ?_)) (F16.ck (hk _ _ ?_))) <;> (rw [rd_ne (by decide), rd_ne (by decide)]; exact hb)
  unfold fAh_measureSeep_L10
  exact F16.ite (F16.some hb) (F16.ck (F16.ite (J _) (F16.ck (F16.ck (F16.ckD (J _))))))
theorem ls16 {u : wM} (hu : u.1 16 = s.1 16) : F16 s (fAh_letSeep u) := by
  unfold fAh_letSeep
  refine wh2_p (fun _ b => b.1 16 = s.1 16) F16.none (fun a b k hb hk => ?_) _ _ _ hu
  unfold fAh_letSeep_L2
  refine F16.ite ?_ (F16.ck ?_)
  · refine wh2_p (fun _ b => b.1 16 = s.1 16) F16.none (fun a b k hb hk => ?_) _ _ _ hb
    have J : ∀ v, F16 s (fAh_letSeep_J85 k a v b) := fun v => by
      unfold fAh_letSeep_J85 fAh_letSeep_J130
      simp only [nmM]
      refine F16.ck (F16.ite (hk _ _ hb) (F16.ck (F16.ck (F16.ck (hk _ _ ?_)))))
      rw [rd_ne (by decide), rd_ne (by decide)]; exact hb
    unfold fAh_letSeep_L49
    exact F16.ite (F16.some hb) (F16.ck (F16.ite (J _) (J _)))
  · unfold fAh_letSeep_J40
    simp only [nmM]
    refine F16.ite (F16.ck (hk _ _ ?_)) (F16.ck (hk _ _ ?_)) <;> (rw [rd_ne (by decide)]; exact hb)
theorem pass16 {x y : Int32} : F16 s (fAh_pass s x y) := by
  have J50 : ∀ v u, u.1 16 = s.1 16 → F16 s (fAh_pass_J50 x y v u) := fun v u hu => by
    unfold fAh_pass_J50
    simp only [nmM]
    refine F16.ckZ (wh2_p (fun _ b => b.1 16 = s.1 16) F16.none (fun a b k hb hk => ?_) _ _ _ (by rw [rd_ne (by decide)]; exact hu))
    have J150 : ∀ v u, u.1 16 = s.1 16 → F16 s (fAh_pass_J150 k x y a v u) := fun v u hu => by
      unfold fAh_pass_J150
      simp only [nmM]
      exact F16.ckZ (hk _ _ (by rw [rd_ne (by decide)]; exact hu))
    have J90 : ∀ v w, F16 s (fAh_pass_J90 k x y a v w b) := fun v w => by
      unfold fAh_pass_J90 fAh_pass_J149 fW_putToDepth
      simp only [nmM, Option.bind_some]
      have h2 : ∀ z z' : Int32, ∀ q : Nat, (wsI (wsI b 13 7 z) 14 q z').1 16 = s.1 16 := fun z z' q => by rw [rd_ne (by decide), rd_ne (by decide)]; exact hb
      exact F16.ck (F16.ite (J150 _ _ (h2 _ _ _)) (F16.ite (J150 _ _ (h2 _ _ _)) (J150 _ _ (h2 _ _ _))))
    unfold fAh_pass_L55
    exact F16.ite (F16.some hb) (F16.ck (F16.ite (J90 _ _) (J90 _ _)))
  have J12 : F16 s (fAh_pass_J12 x y s) := by
    unfold fAh_pass_J12
    rw [chkC9]
    simp only [nmM]
    refine F16.bind (ms16 (by rw [rd_cne (by decide)])) fun u hu => F16.bind (ls16 hu) fun v hv => F16.ite (J50 _ _ ?_) (J50 _ _ ?_) <;> (rw [rd_ne (by decide)]; exact hv)
  unfold fAh_pass
  exact F16.ite J12 (F16.ite (F16.some rfl) J12)
end P16
section PA3
variable {s t u : wM} {n : Nat} {T : Nat → Nat → Bool} {S : Nat → Nat → Int} {D SP : Nat → Int} {ap fi bk : Int} {G G' : Nat → Int32}
theorem wsG_congr {j : Nat} (h : G j = G' j) : ∀ i, wsG n T S SP ap fi D G i j = wsG n T S SP ap fi D G' i j
  | 0 => h
  | i + 1 => by
    show Gn _ _ _ _ _ _ _ = Gn _ _ _ _ _ _ _
    unfold Gn
    rw [wsG_congr h i]
def pyV (n : Nat) (T : Nat → Nat → Bool) (S : Nat → Nat → Int) (SP : Nat → Int) (ap fi : Int) (D : Nat → Int) (q : Nat) : Nat → Int32 := wsG n T S SP ap fi D (fun _ => iI 0) q
theorem WA.R16 {F : Nat → Int32} (h : WA s t n T S SP ap D) : WA s (wRo t 16 F) n T S SP ap D := by
  obtain ⟨h1, h2, h3, h4⟩ := h
  refine ⟨h1.of (wR_off (Off.refl t) fun j => rfl), ?_, wR_off h3 fun j => rfl, h4⟩
  unfold SET; rw [wR_ne (by decide)]; exact h2
theorem W_payer (hv : CV n T S D SP ap fi bk) (hw : CW s n T S D SP ap fi bk) {m : Int} (h3 : -2147483648 ≤ m) (h4 : m ≤ 2147483647) : ∃ s', fW_payer s (iI m) = some (iI (if 0 ≤ m ∧ m ≤ 100 then (if n = 0 then -2 else (pyB (pyV n T S SP ap fi D m.toNat) n : Int)) else -1), s') ∧ WQ s s' (if 0 ≤ m ∧ m ≤ 100 then (if n = 0 then none else some [pyV n T S SP ap fi D m.toNat (pyB (pyV n T S SP ap fi D m.toNat) n), pyS (pyV n T S SP ap fi D m.toNat) n]) else none) := by
  have hn := hv.1.1
  have hap : 0 ≤ ap ∧ ap ≤ 9 := by have := hv.2.2.2.2.2.1; omega
  unfold fW_payer
  rw [W_isWithin h3 h4 (by omega) (by omega) (by omega) (by omega), Option.bind_some, hw.1.1]
  simp only [bI_0, decide_eq_false_iff_not]
  by_cases c1 : 0 ≤ m ∧ m ≤ 100
  · rw [if_neg (by simpa using c1), if_pos c1, if_pos c1]
    by_cases c0 : n = 0
    · rw [if_pos (by rw [c0]; rfl), if_pos c0, if_pos c0]
      exact ⟨s, rfl, WQ.refl hw.2.2.2.2.2.2⟩
    · rw [if_neg (by rw [iI_eq (by omega) (by omega) (by omega) (by omega)]; omega), if_neg c0, if_neg c0]
      obtain ⟨q, rfl⟩ : ∃ q : Nat, m = q := ⟨m.toNat, by omega⟩
      simp only [Int.toNat_natCast]
      obtain ⟨t, e, hA, _⟩ := W_look hv hw
      rw [e, Option.bind_some]
      unfold fAh_clearPaid
      simp only [nmM, Option.bind_some]
      have e1 : wFillI t 16 9 (iI 0) = wRo t 16 (fun j => if j < 9 then iI 0 else t.1 16 j) := by
        unfold wFillI wRo
        simp only [Prod.mk.injEq, and_true]; funext a b
        by_cases h : a = 16
        · subst h; simp
        · simp [h]
      rw [e1]
      have hV : ∀ i j, j < 9 → wsG n T S SP ap fi D (fun j => if j < 9 then iI 0 else t.1 16 j) i j = pyV n T S SP ap fi D i j := fun i j hj => wsG_congr (if_pos hj) i
      generalize hG0 : (fun j => if j < 9 then iI 0 else t.1 16 j) = G0 at hV ⊢
      refine wh2_w (Q := fun x => ∃ s', x = some (iI (pyB (pyV n T S SP ap fi D q) n : Int), s') ∧ WQ s s' (some [pyV n T S SP ap fi D q (pyB (pyV n T S SP ap fi D q) n), pyS (pyV n T S SP ap fi D q) n])) (fun m x u => ∃ i : Nat, i ≤ q ∧ m = q - i ∧ x = iI (i : Int) ∧ WA s u n T S SP ap (it n T S SP D i) ∧ u.1 16 = wsG n T S SP ap fi D G0 i) ?_ 100000 q _ (wRo t 16 G0) (by omega) ⟨0, by omega, rfl, rfl, hA.R16, wRo_at⟩
      rintro m x u ⟨i, h1, rfl, rfl, hu, h16⟩ c hc
      unfold fW_payer_L45
      by_cases hi : i < q
      · rw [if_neg (by rw [iI_le (by omega) (by omega) (by omega) (by omega)]; omega)]
        obtain ⟨u', e, hu', _⟩ := W_week hv.1 hv.2.2.2.1 hu (rain := 0) (bits := 0) (by omega) (by omega)
        have h16' : u'.1 16 = u.1 16 := pass16 u' e
        rw [show iI (0 : Int) = iI ((0 : Nat) : Int) from rfl] at e ⊢
        rw [e, Option.bind_some, z1, hu'.2.2.1 11 1 rfl, hw.2.2.2.2.1, Ah_payInto hv.1 hu'.1 hu'.2.2.2.1 hap (Or.inr rfl), Option.bind_some, iI_add]
        exact hc (q - (i + 1)) _ _ (by omega) ⟨i + 1, by omega, rfl, by simp, hu'.R16, by rw [wRo_at, h16', h16]; rfl⟩
      · have : i = q := by omega
        subst this
        rw [if_pos (by rw [iI_le (by omega) (by omega) (by omega) (by omega)]; omega)]
        generalize hVq : pyV n T S SP ap fi D i = V
        have hVj : ∀ j, j < 9 → u.1 16 j = V j := fun j hj => by rw [h16, hV i j hj, hVq]
        have n7 : u.1 7 4 = iI (n : Int) := by rw [hu.2.2.1 7 4 rfl]; exact hw.1.1
        refine wh3_w (Q := fun x => ∃ s', x = some (iI (pyB V n : Int), s') ∧ WQ s s' (some [V (pyB V n), pyS V n])) (fun m x y z => ∃ f : Nat, f ≤ n ∧ m = n - f ∧ x = iI (pyB V f : Int) ∧ y = pyS V f ∧ z = iI (f : Int)) ?_ 100000 n _ _ _ (by omega) ⟨0, by omega, rfl, rfl, rfl, rfl⟩
        rintro m x y z ⟨f, h1, rfl, rfl, rfl, rfl⟩ c hc
        have hB := pyB_lt V f (by omega)
        unfold fW_payer_L95 fW_payer_J148
        rw [n7]
        by_cases hf : f < n
        · rw [if_neg (by rw [iI_le (by omega) (by omega) (by omega) (by omega)]; omega), chk_in (by omega) (by omega) (by omega), chk_in (by omega) (by omega) (by omega), iI_natc (by omega), iI_natc (by omega), hVj f (by omega), hVj _ hB, iI_add]
          have hk := hc (n - (f + 1)) _ _ _ (by omega) ⟨f + 1, by omega, rfl, rfl, rfl, rfl⟩
          by_cases h : V f ≤ V (pyB V f)
          · rw [if_pos h]
            rw [show pyB V (f + 1) = pyB V f from if_pos h] at hk; exact hk
          · rw [if_neg h]
            rw [show pyB V (f + 1) = f from if_neg h] at hk; exact hk
        · have : f = n := by omega
          subst this
          rw [if_pos (by rw [iI_le (by omega) (by omega) (by omega) (by omega)]; omega), chk_in (by omega) (by omega) (by omega), iI_natc (by omega), hVj _ hB]
          obtain ⟨u1, u2, k1, k2, k3, k4, k5⟩ := W_tell2 (t := u) (v := V (pyB V f)) (w := pyS V f)
          rw [k1, Option.bind_some, k2, Option.bind_some]
          exact ⟨u2, rfl, (hu.wq hv.2.2.2.2.1).row k4 k3 (by simp)⟩
  · rw [if_pos c1, if_neg c1, if_neg c1]
    exact ⟨s, rfl, WQ.refl hw.2.2.2.2.2.2⟩
end PA3
