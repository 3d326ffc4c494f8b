/-- the first i < n of which P holds, or n -/
def ff (P : Nat → Bool) : Nat → Nat
  | 0 => 0
  | n + 1 => if ff P n < n then ff P n else if P n then n else n + 1
theorem ff_le (P : Nat → Bool) : ∀ n, ff P n ≤ n
  | 0 => Nat.le_refl 0
  | n + 1 => by
    have := ff_le P n
    unfold ff
    split
    · omega
    · split <;> omega
theorem ff_lt (P : Nat → Bool) : ∀ n, ff P n < n → P (ff P n) = true
  | 0, h => by omega
  | n + 1, h => by
    unfold ff at h ⊢
    by_cases h1 : ff P n < n
    · rw [if_pos h1]; exact ff_lt P n h1
    · rw [if_neg h1] at h ⊢
      by_cases h2 : P n = true
      · rw [if_pos h2]; exact h2
      · rw [if_neg h2] at h; omega
theorem ff_bf (P : Nat → Bool) : ∀ n i, i < ff P n → P i = false
  | 0, i, h => by unfold ff at h; omega
  | n + 1, i, h => by
    have hl := ff_le P n
    unfold ff at h
    by_cases h1 : ff P n < n
    · rw [if_pos h1] at h; exact ff_bf P n i h
    · rw [if_neg h1] at h
      by_cases h2 : P n = true
      · rw [if_pos h2] at h; exact ff_bf P n i (by omega)
      · rw [if_neg h2] at h
        by_cases h3 : i = n
        · subst h3; simpa using h2
        · exact ff_bf P n i (by omega)
theorem ff_eq {P : Nat → Bool} {n i : Nat} (h1 : i ≤ n) (h2 : i < n → P i = true) (h3 : ∀ j, j < i → P j = false) : ff P n = i := by
  have a := ff_le P n
  have b := ff_bf P n
  have c := ff_lt P n
  by_cases h : ff P n < i
  · have := c (by omega); rw [h3 _ h] at this; cases this
  · by_cases h' : i < ff P n
    · have := b i h'; rw [h2 (by omega)] at this; cases this
    · omega
theorem lsm_nn {g : Nat → Nat → Int} (hg : ∀ a b, 0 ≤ g a b) : ∀ l, 0 ≤ lsm g l
  | [] => Int.le_refl 0
  | p :: l => by have := lsm_nn hg l; have := hg p.1 p.2; unfold lsm; omega
theorem lsm_z {g : Nat → Nat → Int} (hg : ∀ a b, 0 ≤ g a b) : ∀ l, lsm g l = 0 ↔ ∀ p, p ∈ l → g p.1 p.2 = 0
  | [] => by simp [lsm]
  | p :: l => by
    have h1 := lsm_nn hg l
    have h2 := hg p.1 p.2
    have ih := lsm_z hg l
    unfold lsm
    constructor
    · intro h q hq
      rcases List.mem_cons.mp hq with rfl | hq
      · omega
      · exact ih.mp (by omega) q hq
    · intro h
      have := h p List.mem_cons_self
      have := ih.mpr fun q hq => h q (List.mem_cons_of_mem _ hq)
      omega
theorem ep_0 {n : Nat} {T : Nat → Nat → Bool} {ap : Int} {D : Nat → Int} : ep n T ap D = 0 ↔ ∀ p (h : p < (prs n T).length), ev T ap D (prs n T)[p].1 (prs n T)[p].2 = false := by
  rw [← ep_lsm, lsm_z (fun a b => by split <;> omega)]
  constructor
  · intro h p hp
    have := h _ (List.getElem_mem hp)
    cases e : ev T ap D (prs n T)[p].1 (prs n T)[p].2 with
    | false => rfl
    | true => rw [e] at this; simp at this
  · intro h p hp
    obtain ⟨i, hi, rfl⟩ := List.mem_iff_getElem.mp hp
    rw [h i hi]; simp
theorem ep_nn {n : Nat} {T : Nat → Nat → Bool} {S : Nat → Nat → Int} (hS : Cty n T S) (ap : Int) (D : Nat → Int) : 0 ≤ ep n T ap D ∧ ep n T ap D ≤ 40 := by
  have := ep2_ep hS ap D
  have := ep_bd hS.1 T ap D
  omega
def it (n : Nat) (T : Nat → Nat → Bool) (S : Nat → Nat → Int) (SP D : Nat → Int) : Nat → Nat → Int
  | 0 => D
  | i + 1 => wk n T S SP (it n T S SP D i) 0 0
def WA (s t : wM) (n : Nat) (T : Nat → Nat → Bool) (S : Nat → Nat → Int) (SP : Nat → Int) (ap : Int) (D : Nat → Int) : Prop := AH t n T S SP ap D ∧ SET t n T S SP D ∧ Off KA s t ∧ Bd D 0 99 ∧ Z9 D
def KT : Nat → Nat → Bool := fun k j => k == 187 || k == 178 || (k == 161 && (j == 27 || j == 0))
def MA (s t : wM) (n : Nat) (T : Nat → Nat → Bool) (S : Nat → Nat → Int) (SP : Nat → Int) (ap : Int) (D : Nat → Int) : Prop := LM t n T S ∧ Rw t 164 SP ∧ t.1 168 0 = iI ap ∧ Rw t 187 D ∧ Off KT s t ∧ Bd D 0 99 ∧ Z9 D
section ST
variable {s t : wM} {n : Nat} {T : Nat → Nat → Bool} {S : Nat → Nat → Int} {D SP : Nat → Int} {ap fi bk : Int} {rain : Int} {bits : Nat}
theorem WA.wq (h : WA s t n T S SP ap D) (hz : Z9 SP) : WQ s t none := by
  obtain ⟨h1, h2, h3, h4, h5⟩ := h
  refine ⟨h3.mono fun k j hk => ?_, fun j hj => ?_⟩
  · simp only [KWq, KA, Bool.or_eq_false_iff, Bool.and_eq_false_iff, decide_eq_false_iff_not, beq_eq_false_iff_ne] at hk ⊢; omega
  · rw [show t.1 14 = _ from h1.2.2.2.2.1, show t.1 15 = _ from h1.2.2.2.2.2]
    show iI (D j) = iI 0 ∧ iI (SP j) = iI 0
    rw [h5 j hj, hz j hj]; exact ⟨rfl, rfl⟩
theorem WQ.row {u : wM} {l : List Int32} (h : WQ s t none) (o : Off KN t u) (r : RW u l) (hl : l.length ≤ 10) : WQ s u (some l) := by
  refine ⟨(h.1.mono fun k j hk => ?_).trans (o.mono fun k j hk => ?_), fun j hj => ?_, r, hl⟩
  · simp only [KWr, Bool.or_eq_false_iff] at hk; exact hk.1.1
  · simp only [KWr, KN, Bool.or_eq_false_iff] at hk ⊢; exact ⟨hk.1.2, hk.2⟩
  · rw [o 14 j rfl, o 15 j rfl]; exact h.2 j hj
theorem MA.mq (h : MA s t n T S SP ap D) (hz : ZM s) : MQn s t none := by
  obtain ⟨h1, h2, h3, h4, h5, h6, h7⟩ := h
  refine ⟨h5.mono fun k j hk => ?_, fun j hj => ?_⟩
  · simp only [KMq, KT, Bool.or_eq_false_iff, Bool.and_eq_false_iff, decide_eq_false_iff_not, beq_eq_false_iff_ne] at hk ⊢; omega
  · rw [h5 184 j rfl, show t.1 187 = _ from h4]
    show s.1 184 j = iI 0 ∧ iI (D j) = iI 0
    rw [h7 j hj]; exact ⟨(hz j hj).1, rfl⟩
theorem MQn.row {u : wM} {l : List Int32} (h : MQn s t none) (o : Off KMn t u) (r : RM u l) : MQn s u (some l) := by
  refine ⟨(h.1.mono fun k j hk => ?_).trans (o.mono fun k j hk => ?_), fun j hj => ?_, r⟩
  · simp only [KMr, Bool.or_eq_false_iff] at hk; exact hk.1.1
  · simp only [KMr, KMn, Bool.or_eq_false_iff] at hk ⊢; exact ⟨hk.1.2, hk.2⟩
  · rw [o 184 j rfl, o 187 j rfl]; exact h.2 j hj
/-- rows = 0, one entry -/
theorem M_tell1 {v : Int32} : ∃ u, fM_enters (wsI t 161 1 (iI 0)) v = some u ∧ RM u [v] ∧ Off KMn t u := by
  obtain ⟨u, e, r, o⟩ := M_enters (v := v) (M_rows0 (s := t)) (by simp)
  exact ⟨u, e, r, ((Off.refl t).set rfl).trans o⟩
theorem M_tell2 {v w : Int32} : ∃ u u2, fM_enters (wsI t 161 1 (iI 0)) v = some u ∧ fM_enters u w = some u2 ∧ RM u2 [v, w] ∧ Off KMn t u2 ∧ Off KMn t u := by
  obtain ⟨u, e, r, o⟩ := M_tell1 (t := t) (v := v)
  obtain ⟨u2, e2, r2, o2⟩ := M_enters (v := w) r (by simp)
  exact ⟨u, u2, e, e2, r2, o.trans o2, o⟩
theorem W_tell2 {v w : Int32} : ∃ u u2, fNum_tell t v = some u ∧ fNum_add u w = some u2 ∧ RW u2 [v, w] ∧ Off KN t u2 ∧ Off KN t u := by
  obtain ⟨u, e, r, o⟩ := Num_tell (s := t) (v := v)
  obtain ⟨u2, e2, r2, o2⟩ := Num_add (v := w) r (by simp)
  exact ⟨u, u2, e, e2, r2, o.trans o2, o⟩
theorem WQ.refl (hz : ZW s) : WQ s s none := ⟨Off.refl s, hz⟩
theorem MQn.thr (hz : ZM s) {v : Int32} : MQn s (wsI s 161 0 v) none := ⟨(Off.refl s).set rfl, fun j hj => by rw [rd_ne (by decide), rd_ne (by decide)]; exact hz j hj⟩
theorem W_look (hv : CV n T S D SP ap fi bk) (hw : CW s n T S D SP ap fi bk) : ∃ t, fAh_look s = some t ∧ WA s t n T S SP ap D ∧ t.1 13 8 = iI 0 := by
  obtain ⟨t, e, hA, h8, o⟩ := Ah_look hv.1 hw.1 hw.2.1 hv.2.2.1 hw.2.2.1 hv.2.2.2.2.1 hw.2.2.2.1 hw.2.2.2.2.2.2
  exact ⟨t, e, ⟨hA, Or.inl h8, o, hv.2.1, hv.2.2.1⟩, h8⟩
theorem W_week (hS : Cty n T S) (bS : Bd SP 0 9) (h : WA s t n T S SP ap D) (hr : -9 ≤ rain ∧ rain ≤ 9) (hb : bits < 512) : ∃ t', fAh_pass t (iI rain) (iI (bits : Int)) = some t' ∧ WA s t' n T S SP ap (wk n T S SP D rain bits) ∧ (t.1 13 8 = iI 0 → t'.1 13 7 = iI (lst n T S SP D rain bits)) ∧ t'.1 13 8 = bI (decide (rain = 0) && alB (fun f => decide (wk n T S SP D rain bits f = D f)) n) := by
  obtain ⟨t', e, hA, h7, h8, o⟩ := Ah_pass hS h.1 h.2.2.2.1 bS hr hb h.2.1
  exact ⟨t', e, ⟨hA, SET_pass h8, h.2.2.1.trans o, wk_bd h.2.2.2.1, wk_Z9 hS.1 h.2.2.2.2⟩, h7, h8⟩
theorem M_start (hv : CV n T S D SP ap fi bk) (hm : CM s n T S D SP ap fi bk) : ∃ t, fM_startsThen s = some t ∧ MA s t n T S SP ap D := by
  obtain ⟨C, hC⟩ := exRw s 187
  refine ⟨wRo s 187 (fun j => iI (D j)), ?_, hm.1.of (congrFun (wR_ne (by decide)) _) (wR_ne (by decide)) (wR_ne (by decide)), hm.2.2.1.ne (by decide), ?_, wR_Rw, wR_off (Off.refl s) fun j => rfl, hv.2.1, hv.2.2.1⟩
  · unfold fM_startsThen
    have e0 : s = wRo s 187 (fun x => iI (if x < 0 then D x else C x)) := (wR_id (by rw [show s.1 187 = _ from hC]; funext x; simp)).symm
    have e9 : wRo s 187 (fun j => iI (D j)) = wRo s 187 (fun x => iI (if x < 9 then D x else C x)) := by
      congr 1; funext x
      by_cases h : x < 9
      · rw [if_pos h]
      · rw [if_neg h, hv.2.2.1 x (by omega), ← (hm.2.2.2.2.2.2 x (by omega)).2, show s.1 187 = _ from hC]
    rw [e9]
    conv => lhs; arg 4; rw [e0]
    refine for2b (fun i => wRo s 187 (fun x => iI (if x < i then D x else C x))) (i0 := 0) (n := 9) (Nat.zero_le _) (by omega) (fun i _ hi c => ?_) (fun c => ?_)
    · unfold fM_startsThen_L2
      rw [if_neg (by rw [iI_le (by omega) (by omega) (by omega) (by omega)]; omega), chk_in (by omega) (by omega) (by omega), iI_natc (by omega), wR_ne (by decide), show s.1 163 = _ from hm.2.1, iI_add]
      simp only [nmM]
      rw [wsI_R (D := fun x => if x < i then D x else C x) wRo_at, wR_wR]
      congr 2; funext x; unfold uI
      by_cases h1 : x = i
      · subst h1; simp
      · simp only [h1, if_false]; congr 1
        by_cases h2 : x < i
        · rw [if_pos h2, if_pos (by omega)]
        · rw [if_neg h2, if_neg (by omega)]
    · unfold fM_startsThen_L2
      rw [if_pos (by decide)]
  · rw [wR_ne (by decide)]; exact hm.2.2.2.1
theorem M_week (hS : Cty n T S) (bS : Bd SP 0 9) (h : MA s t n T S SP ap D) (hr : -9 ≤ rain ∧ rain ≤ 9) (hb : bits < 512) : ∃ t', fM_weekGoes t 187 (iI rain) (iI (bits : Int)) = some t' ∧ MA s t' n T S SP ap (wk n T S SP D rain bits) := by
  obtain ⟨h1, h2, h3, h4, h5, h6, h7⟩ := h
  obtain ⟨t', e, r, _, o⟩ := M_weekGoes hS h1 h4 h6 h2 bS hr hb (by decide) (by decide) (by decide) (by decide) (by decide)
  refine ⟨t', e, h1.of (o 161 3 rfl) (o.row fun j => rfl) (o.row fun j => rfl), h2.of (o.row fun j => rfl), by rw [o 168 0 rfl]; exact h3, r, h5.trans (o.mono fun k j hk => ?_), wk_bd h6, wk_Z9 hS.1 h7⟩
  simp only [KT, KG, Bool.or_eq_false_iff, Bool.and_eq_false_iff, beq_eq_false_iff_ne] at hk ⊢; omega
theorem MA.ep (hS : Cty n T S) (hap : 0 ≤ ap ∧ ap ≤ 9) (h : MA s t n T S SP ap D) : fM_evenPairs t 187 = some (iI (ep n T ap D)) := M_evenPairs hS h.1 h.2.2.2.1 h.2.2.2.2.2.1 h.2.2.1 hap
theorem WA.ep (hS : Cty n T S) (hap : 0 ≤ ap ∧ ap ≤ 9) (h : WA s t n T S SP ap D) : fAh_evenPairs t = some (iI (ep n T ap D)) := Ah_evenPairs hS h.1 h.2.2.2.1 hap
end ST
