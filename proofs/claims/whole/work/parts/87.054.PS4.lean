/-! roads -/
def rch (n : Nat) (T : Nat → Nat → Bool) (to : Nat) : Nat → Nat → Bool
  | 0, g => decide (g = to)
  | k + 1, g => rch n T to k g || (List.range n).any fun h => T g h && rch n T to k h
section RC
variable {n to : Nat} {T : Nat → Nat → Bool} {S : Nat → Nat → Int}
theorem rch_s {k g : Nat} : rch n T to (k + 1) g = true ↔ rch n T to k g = true ∨ ∃ h, h < n ∧ T g h = true ∧ rch n T to k h = true := by
  show (rch n T to k g || (List.range n).any fun h => T g h && rch n T to k h) = true ↔ _
  rw [Bool.or_eq_true, List.any_eq_true]
  simp only [List.mem_range, Bool.and_eq_true]
theorem rch_mono {g k : Nat} : ∀ {j : Nat}, k ≤ j → rch n T to k g = true → rch n T to j g = true
  | 0, h, hr => by rw [show k = 0 by omega] at hr; exact hr
  | j + 1, h, hr => by
    by_cases e : k = j + 1
    · rw [← e]; exact hr
    · exact rch_s.mpr (Or.inl (rch_mono (by omega) hr))
theorem rch_lt (hS : Cty n T S) (ht : to < n) {g : Nat} : ∀ {k : Nat}, rch n T to k g = true → g < n
  | 0, h => by simp [rch] at h; omega
  | k + 1, h => by
    rcases rch_s.mp h with h | ⟨y, h1, h2, h3⟩
    · exact rch_lt hS ht h
    · exact (hS.2.2.1 g y h2).1
theorem cnt_lt {P Q : Nat → Bool} {n i : Nat} (h : ∀ j, j < n → P j = true → Q j = true) (hi : i < n) (hP : P i = false) (hQ : Q i = true) : cnt P n < cnt Q n := by
  have mono : ∀ m, m ≤ n → cnt P m ≤ cnt Q m := fun m => by
    induction m with
    | zero => intro _; simp [cnt]
    | succ m ih =>
      intro hm
      have := ih (by omega)
      have := h m (by omega)
      unfold cnt
      cases hp : P m
      · simp; split <;> omega
      · rw [this hp]; simp; omega
  have : ∀ m, i < m → m ≤ n → cnt P m < cnt Q m := fun m => by
    induction m with
    | zero => intro h1; omega
    | succ m ih =>
      intro h1 h2
      unfold cnt
      by_cases e : i = m
      · subst e
        have := mono i (by omega)
        rw [hP, hQ]; simp; omega
      · have := ih (by omega) (by omega)
        have := h m (by omega)
        cases hp : P m
        · simp; split <;> omega
        · rw [this hp]; simp; omega
  exact this n hi (Nat.le_refl n)
def stb (n : Nat) (T : Nat → Nat → Bool) (to k : Nat) : Prop := ∀ g, g < n → rch n T to (k + 1) g = true → rch n T to k g = true
theorem stb_all (hS : Cty n T S) (ht : to < n) {k : Nat} (h : stb n T to k) {g : Nat} : ∀ {j : Nat}, rch n T to j g = true → rch n T to k g = true
  | 0, hr => rch_mono (Nat.zero_le k) hr
  | j + 1, hr => by
    have hg := rch_lt hS ht hr
    rcases rch_s.mp hr with hr | ⟨y, h1, h2, h3⟩
    · exact stb_all hS ht h hr
    · exact h g hg (rch_s.mpr (Or.inr ⟨y, h1, h2, stb_all hS ht h h3⟩))
theorem stb_ex (ht : to < n) : ∀ k, (∃ j, j < k ∧ stb n T to j) ∨ k + 1 ≤ cnt (rch n T to k) n
  | 0 => by
    right
    have := cnt_lt (P := fun _ => false) (Q := rch n T to 0) (n := n) (i := to) (fun j _ h => by cases h) ht rfl (by simp [rch])
    omega
  | k + 1 => by
    rcases stb_ex ht k with ⟨j, h1, h2⟩ | h
    · exact Or.inl ⟨j, by omega, h2⟩
    · by_cases hs : stb n T to k
      · exact Or.inl ⟨k, by omega, hs⟩
      · right
        have : ∃ g, g < n ∧ rch n T to (k + 1) g = true ∧ ¬ rch n T to k g = true := Classical.byContradiction fun hn => hs fun g hg hr => Classical.byContradiction fun hr2 => hn ⟨g, hg, hr, hr2⟩
        obtain ⟨g, h1, h2, h3⟩ := this
        have := cnt_lt (P := rch n T to k) (Q := rch n T to (k + 1)) (n := n) (i := g) (fun j _ h => rch_s.mpr (Or.inl h)) h1 (by simpa using h3) h2
        omega
theorem rch_n (hS : Cty n T S) (ht : to < n) {j g : Nat} (h : rch n T to j g = true) : rch n T to (n - 1) g = true := by
  rcases stb_ex (T := T) ht n with ⟨k, h1, h2⟩ | h'
  · exact rch_mono (by omega) (stb_all hS ht h2 h)
  · have := cnt_le (rch n T to n) n; omega
def dd (n : Nat) (T : Nat → Nat → Bool) (to g : Nat) : Nat := ff (fun k => rch n T to k g) n
theorem dd_le (g : Nat) : dd n T to g ≤ n := ff_le _ _
theorem dd_r {g : Nat} (h : dd n T to g < n) : rch n T to (dd n T to g) g = true := ff_lt (fun k => rch n T to k g) n h
theorem dd_least {g k : Nat} (h : rch n T to k g = true) : dd n T to g ≤ k := by
  by_cases e : k < dd n T to g
  · have : rch n T to k g = false := ff_bf (fun k => rch n T to k g) n k e
    rw [h] at this; cases this
  · omega
theorem dd_lt (hS : Cty n T S) (ht : to < n) {g k : Nat} (h : rch n T to k g = true) : dd n T to g < n := by
  have := dd_least (rch_n hS ht h); omega
theorem dd_to (ht : to < n) : dd n T to to = 0 := by have := dd_least (n := n) (T := T) (to := to) (g := to) (k := 0) (by simp [rch]); omega
theorem dd_0 {g : Nat} (ht : to < n) (h : dd n T to g = 0) : g = to := by
  have := dd_r (n := n) (T := T) (to := to) (g := g) (by omega)
  rw [h] at this; simpa [rch] using this
theorem dd_step (hS : Cty n T S) (ht : to < n) {g h : Nat} (hT : T g h = true) (hd : dd n T to h < n) : dd n T to g ≤ dd n T to h + 1 := dd_least (rch_s.mpr (Or.inr ⟨h, (hS.2.2.1 g h hT).2.1, hT, dd_r hd⟩))
theorem dd_prev (hS : Cty n T S) (ht : to < n) {g k : Nat} (h : dd n T to g = k + 1) (hk : k + 1 < n) : ∃ y, y < n ∧ T g y = true ∧ dd n T to y = k := by
  have hr := dd_r (n := n) (T := T) (to := to) (g := g) (by omega)
  rw [h] at hr
  rcases rch_s.mp hr with h1 | ⟨y, h1, h2, h3⟩
  · have := dd_least h1; omega
  · have a := dd_least h3
    have b := dd_step hS ht h2 (by omega)
    exact ⟨y, h1, h2, by omega⟩
end RC
/-- what the program's row of steps holds while round far goes on -/
def wv (n : Nat) (T : Nat → Nat → Bool) (to far : Nat) (A : Nat → Bool) (g : Nat) : Int := if dd n T to g ≤ far ∧ dd n T to g < n then (dd n T to g : Int) else if A g then (far : Int) + 1 else -1
def aR (n : Nat) (T : Nat → Nat → Bool) (to far i g : Nat) : Bool := (List.range i).any fun f => decide (dd n T to f = far) && T f g
section RD
variable {s t u : wM} {n to : Nat} {T : Nat → Nat → Bool} {S : Nat → Nat → Int} {D SP : Nat → Int} {ap fi bk : Int}
theorem aR_s {far i g : Nat} : aR n T to far (i + 1) g = (aR n T to far i g || (decide (dd n T to i = far) && T i g)) := by
  unfold aR; rw [List.range_succ, List.any_append]; simp
theorem wv_next (hS : Cty n T S) (ht : to < n) {far g : Nat} (hf : far < n) (hg : g < n) : wv n T to far (aR n T to far n) g = wv n T to (far + 1) (fun _ => false) g := by
  have hA : aR n T to far n g = true ↔ ∃ f, f < n ∧ dd n T to f = far ∧ T f g = true := by
    unfold aR; rw [List.any_eq_true]; simp only [List.mem_range, Bool.and_eq_true, decide_eq_true_eq]
  unfold wv
  by_cases h1 : dd n T to g ≤ far ∧ dd n T to g < n
  · rw [if_pos h1, if_pos (by omega)]
  · rw [if_neg h1]
    by_cases h2 : aR n T to far n g = true
    · obtain ⟨f, k1, k2, k3⟩ := hA.mp h2
      have hT : T g f = true := by rw [hS.2.1]; exact k3
      have hr : rch n T to (far + 1) g = true := rch_s.mpr (Or.inr ⟨f, k1, hT, by rw [← k2]; exact dd_r (by omega)⟩)
      have a := dd_lt hS ht hr
      have b := dd_least hr
      rw [if_pos h2, if_pos (by omega)]; omega
    · rw [if_neg h2]
      by_cases h3 : dd n T to g ≤ far + 1 ∧ dd n T to g < n
      · obtain ⟨y, k1, k2, k3⟩ := dd_prev hS ht (g := g) (k := far) (by omega) (by omega)
        exact absurd (hA.mpr ⟨y, k1, k3, by rw [hS.2.1]; exact k2⟩) h2
      · rw [if_neg h3]; simp
theorem wv_bd {far g : Nat} {A : Nat → Bool} (hn : n ≤ 9) (hf : far < 9) : -1 ≤ wv n T to far A g ∧ wv n T to far A g ≤ 9 := by
  have := dd_le (n := n) (T := T) (to := to) g
  unfold wv
  split
  · omega
  · split <;> omega
theorem Gr_around {i far : Nat} (hS : Cty n T S) (hG : GW s n T) (hf : far < n) (hi : i < n) (hd : dd n T to i = far) (h : ∀ g, g < n → s.1 30 g = iI (wv n T to far (aR n T to far i) g)) : ∃ t, fGr_measureAround s (iI (i : Int)) (iI ((far : Int) + 1)) = some t ∧ (∀ g, g < n → t.1 30 g = iI (wv n T to far (aR n T to far (i + 1)) g)) ∧ Off (fun k _ => k == 30) s t := by
  have hn := hS.1
  unfold fGr_measureAround
  refine wh2_w (Q := fun x => ∃ t, x = some t ∧ (∀ g, g < n → t.1 30 g = iI (wv n T to far (aR n T to far (i + 1)) g)) ∧ Off (fun k _ => k == 30) s t) (fun m x t => ∃ j : Nat, j ≤ n ∧ m = n - j ∧ x = iI (j : Int) ∧ (∀ g, g < n → t.1 30 g = iI (wv n T to far (fun g => aR n T to far i g || (decide (g < j) && T i g)) g)) ∧ Off (fun k _ => k == 30) s t) ?_ 100000 n _ s (by omega) ⟨0, by omega, rfl, rfl, fun g hg => by rw [h g hg]; unfold wv; simp, Off.refl s⟩
  rintro m x t ⟨j, h1, rfl, rfl, g1, ho⟩ c hc
  have hGt : GW t n T := hG.of (ho 28 2 rfl) (ho.row fun j => rfl)
  unfold fGr_measureAround_L2 fGr_measureAround_J41
  rw [hGt.1]
  by_cases hj : j < n
  · have hb : (bt (T i) n).testBit j = T i j := by rw [bt_bit]; simp [hj]
    have hwb := wv_bd (T := T) (to := to) (g := j) (A := fun g => aR n T to far i g || (decide (g < j) && T i g)) hn (show far < 9 by omega)
    rw [if_neg (by rw [iI_le (by omega) (by omega) (by omega) (by omega)]; omega), chk_in (by omega) (by omega) (by omega), iI_natc (by omega), hGt.2 i hi, chk_in (by omega) (by omega) (by omega), iI_natc (by omega), g1 j hj, iI_add]
    simp only [has_bit (bt_lt9 (T i) hn) (show j < 9 by omega), hb, nmM, iI_eq (a := wv n T to far (fun g => aR n T to far i g || (decide (g < j) && T i g)) j) (b := -1) (by omega) (by omega) (by omega) (by omega)]
    have other : ∀ g, g ≠ j → wv n T to far (fun g => aR n T to far i g || (decide (g < j + 1) && T i g)) g = wv n T to far (fun g => aR n T to far i g || (decide (g < j) && T i g)) g := fun g hg => by
      have e9 : decide (g < j + 1) = decide (g < j) := by simp; omega
      unfold wv
      simp only [e9]
    by_cases hT : T i j = true
    · rw [if_pos hT]
      by_cases hw : wv n T to far (fun g => aR n T to far i g || (decide (g < j) && T i g)) j = -1
      · rw [if_pos hw]
        refine hc (n - (j + 1)) _ _ (by omega) ⟨j + 1, by omega, rfl, by simp, fun g hg => ?_, ho.set rfl⟩
        rw [rd_if]
        by_cases e : g = j
        · subst e
          rw [if_pos rfl]
          congr 1
          unfold wv at hw ⊢
          by_cases k1 : dd n T to g ≤ far ∧ dd n T to g < n
          · rw [if_pos k1] at hw; omega
          · rw [if_neg k1, if_pos (by simp [hT])]
        · rw [if_neg e, g1 g hg, other g e]
      · rw [if_neg hw]
        refine hc (n - (j + 1)) _ _ (by omega) ⟨j + 1, by omega, rfl, by simp, fun g hg => ?_, ho⟩
        rw [g1 g hg]
        by_cases e : g = j
        · subst e
          congr 1
          unfold wv at hw ⊢
          by_cases k1 : dd n T to g ≤ far ∧ dd n T to g < n
          · rw [if_pos k1, if_pos k1]
          · rw [if_neg k1] at hw ⊢
            rw [if_neg k1]
            by_cases k2 : (aR n T to far i g || (decide (g < g) && T i g)) = true
            · rw [if_pos k2, if_pos (by simp [hT])]
            · rw [if_neg k2] at hw; exact absurd rfl hw
        · rw [other g e]
    · rw [if_neg hT]
      refine hc (n - (j + 1)) _ _ (by omega) ⟨j + 1, by omega, rfl, by simp, fun g hg => ?_, ho⟩
      rw [g1 g hg]
      by_cases e : g = j
      · subst e
        congr 1
        unfold wv
        simp [hT]
      · rw [other g e]
  · have : j = n := by omega
    subst this
    rw [if_pos (by rw [iI_le (by omega) (by omega) (by omega) (by omega)]; omega)]
    refine ⟨t, rfl, fun g hg => ?_, ho⟩
    rw [g1 g hg]
    congr 1
    unfold wv
    rw [aR_s, hd]
    simp [hg]
theorem Gr_measure (hS : Cty n T S) (ht : to < n) (hG : GW s n T) : ∃ t, fGr_measureTo s (iI (to : Int)) = some t ∧ (∀ g, g < n → t.1 30 g = iI (if dd n T to g < n then (dd n T to g : Int) else -1)) ∧ Off (fun k _ => k == 30) s t := by
  have hn := hS.1
  unfold fGr_measureTo
  simp only [nmM]
  rw [chk_in (by omega) (by omega) (by omega), iI_natc (by omega)]
  have h0 : ∀ g, g < n → (wsI (wFillI s 30 9 (iI (-1))) 30 to (iI 0)).1 30 g = iI (wv n T to 0 (fun _ => false) g) := fun g hg => by
    rw [rd_if, rd_f]
    unfold wv
    by_cases e : g = to
    · subst e; rw [if_pos rfl, dd_to ht, if_pos (by omega)]; rfl
    · rw [if_neg e, if_pos (by omega), if_neg (fun h : dd n T to g ≤ 0 ∧ dd n T to g < n => e (dd_0 (T := T) ht (by omega)))]; simp
  have o0 : Off (fun k _ => k == 30) s (wsI (wFillI s 30 9 (iI (-1))) 30 to (iI 0)) := (Off.fil (Off.refl s) fun j => rfl).set rfl
  refine wh2_w (Q := fun x => ∃ t, x = some t ∧ (∀ g, g < n → t.1 30 g = iI (if dd n T to g < n then (dd n T to g : Int) else -1)) ∧ Off (fun k _ => k == 30) s t) (fun m x t => ∃ far : Nat, far ≤ n ∧ m = n - far ∧ x = iI (far : Int) ∧ (∀ g, g < n → t.1 30 g = iI (wv n T to far (fun _ => false) g)) ∧ Off (fun k _ => k == 30) s t) ?_ 100000 n _ _ (by omega) ⟨0, by omega, rfl, rfl, h0, o0⟩
  rintro m x t ⟨far, h1, rfl, rfl, g1, ho⟩ c hc
  have hGt : GW t n T := hG.of (ho 28 2 rfl) (ho.row fun j => rfl)
  unfold fGr_measureTo_L17
  rw [hGt.1]
  by_cases hf : far < n
  · rw [if_neg (by rw [iI_le (by omega) (by omega) (by omega) (by omega)]; omega)]
    refine wh2_w (Q := fun x => ∃ t, x = some t ∧ (∀ g, g < n → t.1 30 g = iI (if dd n T to g < n then (dd n T to g : Int) else -1)) ∧ Off (fun k _ => k == 30) s t) (fun m x t => ∃ i : Nat, i ≤ n ∧ m = n - i ∧ x = iI (i : Int) ∧ (∀ g, g < n → t.1 30 g = iI (wv n T to far (aR n T to far i) g)) ∧ Off (fun k _ => k == 30) s t) ?_ 100000 n _ t (by omega) ⟨0, by omega, rfl, rfl, fun g hg => by rw [g1 g hg]; unfold wv aR; simp, ho⟩
    rintro m x t ⟨i, h1, rfl, rfl, g1, ho⟩ c2 hc2
    have hGt : GW t n T := hG.of (ho 28 2 rfl) (ho.row fun j => rfl)
    unfold fGr_measureTo_L27 fGr_measureTo_J53
    rw [hGt.1]
    by_cases hi : i < n
    · have hwb := wv_bd (T := T) (to := to) (g := i) (A := aR n T to far i) hn (show far < 9 by omega)
      rw [if_neg (by rw [iI_le (by omega) (by omega) (by omega) (by omega)]; omega), chk_in (by omega) (by omega) (by omega), iI_natc (by omega), g1 i hi, iI_add, iI_add]
      simp only [iI_eq (a := wv n T to far (aR n T to far i) i) (b := (far : Int)) (by omega) (by omega) (by omega) (by omega)]
      have key : wv n T to far (aR n T to far i) i = (far : Int) ↔ dd n T to i = far := by
        unfold wv
        constructor
        · intro h
          by_cases k1 : dd n T to i ≤ far ∧ dd n T to i < n
          · rw [if_pos k1] at h; omega
          · rw [if_neg k1] at h
            split at h <;> omega
        · intro h; rw [if_pos (by omega)]; omega
      by_cases hd : dd n T to i = far
      · obtain ⟨t2, e2, g2, o2⟩ := Gr_around hS hGt hf hi hd g1
        rw [if_pos (key.mpr hd), e2, Option.bind_some]
        exact hc2 (n - (i + 1)) _ _ (by omega) ⟨i + 1, by omega, rfl, by simp, g2, ho.trans o2⟩
      · rw [if_neg (fun h => hd (key.mp h))]
        refine hc2 (n - (i + 1)) _ _ (by omega) ⟨i + 1, by omega, rfl, by simp, fun g hg => ?_, ho⟩
        rw [g1 g hg]
        unfold wv
        rw [aR_s]; simp [hd]
    · have : i = n := by omega
      subst this
      rw [if_pos (by rw [iI_le (by omega) (by omega) (by omega) (by omega)]; omega), iI_add]
      exact hc (i - (far + 1)) _ _ (by omega) ⟨far + 1, by omega, rfl, by simp, fun g hg => by rw [g1 g hg, wv_next hS ht hf hg], ho⟩
  · have : far = n := by omega
    subst this
    rw [if_pos (by rw [iI_le (by omega) (by omega) (by omega) (by omega)]; omega)]
    refine ⟨t, rfl, fun g hg => ?_, ho⟩
    rw [g1 g hg]
    congr 1
    unfold wv
    by_cases k : dd far T to g < far
    · rw [if_pos (by omega), if_pos k]
    · rw [if_neg (by omega), if_neg k]; simp
/-- the next farm of the road -/
def pNx (n : Nat) (T : Nat → Nat → Bool) (to now left : Nat) : Nat := ff (fun g => T now g && decide (dd n T to g = left)) n
def rdL (n : Nat) (T : Nat → Nat → Bool) (to : Nat) : Nat → Nat → List Int32
  | 0, _ => []
  | l + 1, now => iI ((pNx n T to now (l + 1) : Nat) : Int) :: rdL n T to l (pNx n T to now (l + 1))
theorem pNx_ok (hS : Cty n T S) (ht : to < n) {now left : Nat} (h : dd n T to now = left + 1) (hl : left + 1 < n) : pNx n T to now left < n ∧ T now (pNx n T to now left) = true ∧ dd n T to (pNx n T to now left) = left := by
  obtain ⟨y, h1, h2, h3⟩ := dd_prev hS ht h hl
  have hlt : pNx n T to now left < n := by
    have hle : pNx n T to now left ≤ n := ff_le _ _
    by_cases e : pNx n T to now left < n
    · exact e
    · have := ff_bf (fun g => T now g && decide (dd n T to g = left)) n y (by show y < pNx n T to now left; omega)
      simp [h2, h3] at this
  have := ff_lt (fun g => T now g && decide (dd n T to g = left)) n hlt
  simp only [Bool.and_eq_true, decide_eq_true_eq] at this
  exact ⟨hlt, this⟩
theorem rdL_len {l now : Nat} : (rdL n T to l now).length = l := by
  induction l generalizing now with
  | zero => rfl
  | succ l ih => simp [rdL, ih]
theorem Gr_nearer {now left : Nat} (hS : Cty n T S) (ht : to < n) (hG : GW s n T) (h30 : ∀ g, g < n → s.1 30 g = iI (if dd n T to g < n then (dd n T to g : Int) else -1)) (hnow : now < n) (h : dd n T to now = left + 1) (hl : left + 1 < n) : fGr_nearer s (iI (now : Int)) (iI (left : Int)) = some (iI ((pNx n T to now left : Nat) : Int)) := by
  have hn := hS.1
  obtain ⟨p1, p2, p3⟩ := pNx_ok hS ht h hl
  have step : ∀ i : Nat, i < n → ∀ k, fGr_nearer_L2 (iI (now : Int)) (iI (left : Int)) s (iI (i : Int)) k = if T now i && decide (dd n T to i = left) then some (iI (i : Int)) else k (iI ((i : Int) + 1)) := fun i hi k => by
    have hd := dd_le (n := n) (T := T) (to := to) i
    have hb : (bt (T now) n).testBit i = T now i := by rw [bt_bit]; simp [hi]
    unfold fGr_nearer_L2 fGr_nearer_J36
    rw [hG.1, if_neg (by rw [iI_le (by omega) (by omega) (by omega) (by omega)]; omega), chk_in (by omega) (by omega) (by omega), iI_natc (by omega), hG.2 now hnow, chk_in (by omega) (by omega) (by omega), iI_natc (by omega), h30 i hi, iI_add]
    simp only [has_bit (bt_lt9 (T now) hn) (show i < 9 by omega), hb]
    by_cases hT : T now i = true
    · rw [if_pos hT]
      by_cases k1 : dd n T to i = left
      · rw [if_pos (by rw [if_pos (by omega), k1]), if_pos (by simp [hT, k1])]
      · rw [if_neg, if_neg (by simp [k1])]
        intro e
        rw [iI_eq (by split <;> omega) (by split <;> omega) (by omega) (by omega)] at e
        split at e <;> omega
    · rw [if_neg hT, if_neg (by simp [hT])]
  unfold fGr_nearer
  refine for1 (i0 := 0) (n := pNx n T to now left) (Nat.zero_le _) (by omega) (fun i _ hi k => ?_) (fun k => ?_)
  · rw [step i (by omega) k]
    exact if_neg (by have := ff_bf (fun g => T now g && decide (dd n T to g = left)) n i hi; simpa using this)
  · rw [step _ p1 k]; exact if_pos (by simp [p2, p3])
def roA (n : Nat) (T : Nat → Nat → Bool) (x y : Int) : Int := if 0 ≤ x ∧ x < n ∧ 0 ≤ y ∧ y < n then (if dd n T y.toNat x.toNat < n then (dd n T y.toNat x.toNat : Int) else -2) else -1
def roR (n : Nat) (T : Nat → Nat → Bool) (x y : Int) : Option (List Int32) := if 0 ≤ x ∧ x < n ∧ 0 ≤ y ∧ y < n then (if dd n T y.toNat x.toNat < n then some (rdL n T y.toNat (dd n T y.toNat x.toNat - 1) x.toNat) else none) else none
theorem W_road (hv : CV n T S D SP ap fi bk) (hw : CW s n T S D SP ap fi bk) {x y : Int} (h1 : -2147483648 ≤ x) (h2 : x ≤ 2147483647) (h3 : -2147483648 ≤ y) (h4 : y ≤ 2147483647) : ∃ s', fW_road s (iI x) (iI y) = some (iI (roA n T x y), s') ∧ WQ s s' (roR n T x y) := by
  have hn := hv.1.1
  unfold fW_road fW_road_J22 roA roR
  rw [Land_has hn hw.1 h1 h2, Option.bind_some, Land_has hn hw.1 h3 h4, Option.bind_some]
  simp only [bI_0, decide_eq_false_iff_not]
  by_cases c1 : 0 ≤ x ∧ x < n
  · by_cases c2 : 0 ≤ y ∧ y < n
    · obtain ⟨a, rfl⟩ : ∃ q : Nat, x = q := ⟨x.toNat, by omega⟩
      obtain ⟨b, rfl⟩ : ∃ q : Nat, y = q := ⟨y.toNat, by omega⟩
      simp only [Int.toNat_natCast]
      have hcc : 0 ≤ (a : Int) ∧ (a : Int) < n ∧ 0 ≤ (b : Int) ∧ (b : Int) < n := by omega
      rw [if_neg (by simpa using c1), if_neg (by simpa using c2), if_pos hcc, if_pos hcc]
      obtain ⟨t, e, hG, o⟩ := Gr_look hv.1 hw.1
      obtain ⟨t2, e2, g2, o2⟩ := Gr_measure (to := b) hv.1 (by omega) hG
      have hG2 : GW t2 n T := hG.of (o2 28 2 rfl) (o2.row fun j => rfl)
      have oq : WQ s t2 none := KGr.wq hw.2.2.2.2.2.2 (o.trans (o2.mono fun k j hk => by simp only [KGr, Bool.and_eq_false_iff, decide_eq_false_iff_not, beq_eq_false_iff_ne] at hk ⊢; omega))
      rw [e, Option.bind_some, e2, Option.bind_some, chk_in (by omega) (by omega) (by omega), iI_natc (by omega), g2 a (by omega)]
      by_cases hd : dd n T b a < n
      · rw [if_pos hd, if_pos hd, if_pos hd, if_neg (by rw [iI_eq (by omega) (by omega) (by omega) (by omega)]; omega)]
        obtain ⟨t3, e3, r3, o3⟩ := Num_clear (s := t2)
        rw [e3, Option.bind_some, iI_sub]
        simp only [nmI]
        by_cases hd0 : dd n T b a = 0
        · rw [hd0]
          refine wh3_w (Q := fun x => ∃ s', x = some (iI ((0 : Nat) : Int), s') ∧ WQ s s' (some (rdL n T b (0 - 1) a))) (fun m x y u => y = iI (((0 : Nat) : Int) - 1) ∧ u = t3) ?_ 100000 0 _ _ t3 (by omega) ⟨rfl, rfl⟩
          rintro m x y u ⟨rfl, rfl⟩ c hc
          unfold fW_road_L76
          rw [if_pos (by decide)]
          exact ⟨u, rfl, oq.row o3 r3 (by show ([] : List Int32).length ≤ 10; simp)⟩
        · obtain ⟨l, hl⟩ : ∃ l, dd n T b a = l + 1 := ⟨dd n T b a - 1, by omega⟩
          refine wh3_w (Q := fun x => ∃ s', x = some (iI (dd n T b a : Int), s') ∧ WQ s s' (some (rdL n T b (dd n T b a - 1) a))) (fun m x y u => ∃ left now : Nat, ∃ L, left ≤ l ∧ m = left ∧ x = iI (now : Int) ∧ y = iI (left : Int) ∧ now < n ∧ dd n T b now = left + 1 ∧ L ++ rdL n T b left now = rdL n T b (dd n T b a - 1) a ∧ RW u L ∧ Off KN t2 u) ?_ 100000 l _ _ t3 (by omega) ⟨l, a, [], by omega, rfl, rfl, iI_congr (by omega), by omega, hl, by simp [hl], r3, o3⟩
          rintro m x y u ⟨left, now, L, k1, rfl, rfl, rfl, k2, k3, k4, k5, k6⟩ c hc
          have hlen : L.length + m = l := by have := congrArg List.length k4; rw [List.length_append, rdL_len, rdL_len] at this; omega
          unfold fW_road_L76
          by_cases h0 : m = 0
          · subst h0
            rw [if_pos (by decide)]
            refine ⟨u, rfl, oq.row k6 ?_ (by rw [rdL_len]; omega)⟩
            rw [← k4]; simp [rdL]; exact k5
          · obtain ⟨q, rfl⟩ : ∃ q, m = q + 1 := ⟨m - 1, by omega⟩
            obtain ⟨p1, p2, p3⟩ := pNx_ok hv.1 (show b < n by omega) k3 (by omega)
            rw [if_neg (by rw [iI_le (by omega) (by omega) (by omega) (by omega)]; omega), Gr_nearer hv.1 (show b < n by omega) (hG2.of (k6 28 2 rfl) (k6.row fun j => rfl)) (fun g hg => by rw [k6 30 g rfl]; exact g2 g hg) k2 k3 (by omega), Option.bind_some]
            obtain ⟨u2, e5, r5, o5⟩ := Num_add (v := iI ((pNx n T b now (q + 1) : Nat) : Int)) k5 (by omega)
            rw [e5, Option.bind_some, iI_add]
            exact hc q _ _ _ (by omega) ⟨q, pNx n T b now (q + 1), _, by omega, rfl, rfl, iI_congr (by omega), p1, p3, by rw [← k4]; simp [rdL], r5, k6.trans o5⟩
      · rw [if_neg hd, if_neg hd, if_neg hd, if_pos rfl]
        exact ⟨t2, rfl, oq⟩
    · rw [if_neg (by simpa using c1), if_pos c2, if_neg (by omega), if_neg (by omega)]
      exact ⟨s, rfl, WQ.refl hw.2.2.2.2.2.2⟩
  · rw [if_pos c1, if_neg (by omega), if_neg (by omega)]
    exact ⟨s, rfl, WQ.refl hw.2.2.2.2.2.2⟩
end RD
