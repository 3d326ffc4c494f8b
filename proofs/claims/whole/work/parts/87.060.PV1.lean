/-! finding depths by buckets, one by one -/
abbrev Dp : Type := Nat → Int
def mvR (T : Nat → Nat → Bool) (a : Nat) : Nat → List (Nat × Nat)
  | 0 => []
  | b + 1 => mvR T a b ++ (if T a b then [(a, b)] else [])
def mvL (T : Nat → Nat → Bool) (n : Nat) : Nat → List (Nat × Nat)
  | 0 => []
  | a + 1 => mvL T n a ++ mvR T a n
def mvs (n : Nat) (T : Nat → Nat → Bool) : List (Nat × Nat) := mvL T n n
theorem mem_mvR {T : Nat → Nat → Bool} {a : Nat} {p : Nat × Nat} : ∀ {b : Nat}, p ∈ mvR T a b ↔ p.1 = a ∧ p.2 < b ∧ T a p.2 = true
  | 0 => by simp [mvR]
  | b + 1 => by
    simp only [mvR, List.mem_append, mem_mvR (b := b)]
    obtain ⟨x, y⟩ := p
    constructor
    · rintro (h | h)
      · exact ⟨h.1, by omega, h.2.2⟩
      · split at h
        · rename_i hT
          simp only [List.mem_singleton, Prod.mk.injEq] at h
          obtain ⟨rfl, rfl⟩ := h
          exact ⟨rfl, by simp, hT⟩
        · cases h
    · rintro ⟨h1, h2, h3⟩
      simp only at h1 h2 h3
      by_cases e : y = b
      · subst e; right; rw [if_pos h3]; simp [h1]
      · left; exact ⟨h1, by simp only; omega, h3⟩
theorem mem_mvL {T : Nat → Nat → Bool} {n : Nat} {p : Nat × Nat} : ∀ {a : Nat}, p ∈ mvL T n a ↔ p.1 < a ∧ p.2 < n ∧ T p.1 p.2 = true
  | 0 => by simp [mvL]
  | a + 1 => by
    simp only [mvL, List.mem_append, mem_mvL (a := a), mem_mvR]
    constructor
    · rintro (h | ⟨h1, h2, h3⟩)
      · exact ⟨by omega, h.2⟩
      · rw [h1]; exact ⟨by omega, h2, h3⟩
    · intro h
      by_cases e : p.1 = a
      · right; rw [e] at h; exact ⟨e, h.2⟩
      · left; exact ⟨by omega, h.2⟩
theorem mem_mvs {T : Nat → Nat → Bool} {n : Nat} {p : Nat × Nat} : p ∈ mvs n T ↔ p.1 < n ∧ p.2 < n ∧ T p.1 p.2 = true := mem_mvL
theorem mvR_len {n : Nat} {T : Nat → Nat → Bool} {S : Nat → Nat → Int} (hS : Cty n T S) (a : Nat) : ∀ b, (mvR T a b).length ≤ b ∧ (a < b → (mvR T a b).length + 1 ≤ b)
  | 0 => by simp [mvR]
  | b + 1 => by
    have ih := mvR_len hS a b
    have hd : T a a = false := by
      cases h : T a a with
      | false => rfl
      | true => have := hS.2.2.1 a a h; omega
    simp only [mvR, List.length_append]
    by_cases e : a = b
    · subst e
      rw [hd]; simp; omega
    · split
      · simp; omega
      · simp; omega
theorem mvL_len {n : Nat} {T : Nat → Nat → Bool} {S : Nat → Nat → Int} (hS : Cty n T S) : ∀ a, a ≤ n → (mvL T n a).length ≤ 8 * a
  | 0, _ => by simp [mvL]
  | a + 1, h => by
    have ih := mvL_len hS a (by omega)
    have h2 := (mvR_len hS a n).2 (by omega)
    have hn := hS.1
    simp only [mvL, List.length_append]
    omega
theorem mvs_len {n : Nat} {T : Nat → Nat → Bool} {S : Nat → Nat → Int} (hS : Cty n T S) : (mvs n T).length ≤ 72 := by
  have := mvL_len hS n (Nat.le_refl n)
  have := hS.1
  unfold mvs; omega
def inL (n : Nat) (L : List Dp) (τ : Dp) : Bool := L.any fun σ => decide (wkey σ n = wkey τ n)
def stB2 (n : Nat) (T : Nat → Nat → Bool) (bk : Int) (D0 : Dp) (L : List Dp) (h : Nat) (p : Nat × Nat) : List Dp :=
  if h < L.length ∧ cc T bk (L.getD h D0) p.1 p.2 = true ∧ inL n L (mv bk (L.getD h D0) p.1 p.2) = false then L ++ [mv bk (L.getD h D0) p.1 p.2] else L
def prB (n : Nat) (T : Nat → Nat → Bool) (bk : Int) (D0 : Dp) (h : Nat) (L : List Dp) (l : List (Nat × Nat)) : List Dp := l.foldl (fun L p => stB2 n T bk D0 L h p) L
def bfs (n : Nat) (T : Nat → Nat → Bool) (bk : Int) (D0 : Dp) : Nat → List Dp
  | 0 => [D0]
  | h + 1 => prB n T bk D0 h (bfs n T bk D0 h) (mvs n T)
def Gl (n : Nat) (T : Nat → Nat → Bool) (bk : Int) (D0 : Dp) (h m : Nat) : List Dp := prB n T bk D0 h (bfs n T bk D0 h) ((mvs n T).take m)
def cG (n : Nat) (T : Nat → Nat → Bool) (bk : Int) (D0 : Dp) (h m : Nat) : Nat := (Gl n T bk D0 h m).length
def Us (n : Nat) (T : Nat → Nat → Bool) (bk : Int) (D0 : Dp) (i : Nat) : Dp := (bfs n T bk D0 i).getD i D0
section BF
variable {n : Nat} {T : Nat → Nat → Bool} {S : Nat → Nat → Int} {bk : Int} {D0 : Dp}
theorem pre_getD {L L' : List Dp} {i : Nat} (h : L <+: L') (hi : i < L.length) : L'.getD i D0 = L.getD i D0 := by
  obtain ⟨t, rfl⟩ := h
  rw [List.getD_eq_getElem?_getD, List.getD_eq_getElem?_getD, List.getElem?_append_left hi]
theorem st_pre {L : List Dp} {h : Nat} {p : Nat × Nat} : L <+: stB2 n T bk D0 L h p := by
  unfold stB2; split
  · exact List.prefix_append _ _
  · exact List.prefix_refl _
theorem pr_pre {h : Nat} : ∀ {l : List (Nat × Nat)} {L : List Dp}, L <+: prB n T bk D0 h L l
  | [], L => List.prefix_refl _
  | p :: l, L => List.IsPrefix.trans st_pre (pr_pre (l := l))
theorem pr_snoc {h : Nat} {L : List Dp} {l : List (Nat × Nat)} {p : Nat × Nat} : prB n T bk D0 h L (l ++ [p]) = stB2 n T bk D0 (prB n T bk D0 h L l) h p := by
  unfold prB; rw [List.foldl_append]; rfl
theorem pr_app {h : Nat} {L : List Dp} {l l' : List (Nat × Nat)} : prB n T bk D0 h L (l ++ l') = prB n T bk D0 h (prB n T bk D0 h L l) l' := by
  unfold prB; rw [List.foldl_append]
theorem Gl_0 {h : Nat} : Gl n T bk D0 h 0 = bfs n T bk D0 h := by unfold Gl; simp [prB]
theorem Gl_M {h m : Nat} (hm : (mvs n T).length ≤ m) : Gl n T bk D0 h m = bfs n T bk D0 (h + 1) := by unfold Gl; rw [List.take_of_length_le hm]; rfl
theorem Gl_s {h m : Nat} (hm : m < (mvs n T).length) : Gl n T bk D0 h (m + 1) = stB2 n T bk D0 (Gl n T bk D0 h m) h (mvs n T)[m] := by
  unfold Gl; rw [List.take_succ_eq_append_getElem hm, pr_snoc]
theorem Gl_mono {h m m' : Nat} (hm : m ≤ m') : Gl n T bk D0 h m <+: Gl n T bk D0 h m' := by
  unfold Gl
  obtain ⟨t, ht⟩ : (mvs n T).take m <+: (mvs n T).take m' := List.take_prefix_take_left hm
  rw [← ht, pr_app]; exact pr_pre
theorem bfs_mono {h : Nat} : ∀ {h' : Nat}, h ≤ h' → bfs n T bk D0 h <+: bfs n T bk D0 h'
  | 0, hh => by rw [show h = 0 by omega]; exact List.prefix_refl _
  | h' + 1, hh => by
    by_cases e : h = h' + 1
    · rw [e]; exact List.prefix_refl _
    · exact List.IsPrefix.trans (bfs_mono (h' := h') (by omega)) pr_pre
theorem bfs_Gl {h m : Nat} : bfs n T bk D0 h <+: Gl n T bk D0 h m := pr_pre
theorem Gl_bfs {h m : Nat} : Gl n T bk D0 h m <+: bfs n T bk D0 (h + 1) := by
  rw [← Gl_M (Nat.le_refl _)]
  by_cases hm : m ≤ (mvs n T).length
  · exact Gl_mono hm
  · rw [Gl_M (show (mvs n T).length ≤ m by omega), Gl_M (Nat.le_refl _)]; exact List.prefix_refl _
theorem pr_idle {h : Nat} : ∀ {l : List (Nat × Nat)} {L : List Dp}, L.length ≤ h → prB n T bk D0 h L l = L
  | [], L, _ => rfl
  | p :: l, L, hl => by
    show prB n T bk D0 h (stB2 n T bk D0 L h p) l = L
    have : stB2 n T bk D0 L h p = L := if_neg (by omega)
    rw [this]; exact pr_idle hl
theorem bfs_stop {i : Nat} (hi : (bfs n T bk D0 i).length ≤ i) : ∀ {h : Nat}, i ≤ h → bfs n T bk D0 h = bfs n T bk D0 i
  | 0, hh => by rw [show i = 0 by omega]
  | h + 1, hh => by
    by_cases e : i = h + 1
    · rw [e]
    · have ih := bfs_stop hi (h := h) (by omega)
      show prB n T bk D0 h (bfs n T bk D0 h) (mvs n T) = _
      rw [pr_idle (by rw [ih]; omega), ih]
theorem rng {h m i : Nat} (hi : i < cG n T bk D0 h m) : i < (bfs n T bk D0 i).length := by
  by_cases hc : i < (bfs n T bk D0 i).length
  · exact hc
  · exfalso
    have hp : cG n T bk D0 h m ≤ (bfs n T bk D0 (h + 1)).length := Gl_bfs.length_le
    by_cases hh : i ≤ h + 1
    · rw [bfs_stop (by omega) hh] at hp; omega
    · have := (bfs_mono (n := n) (T := T) (bk := bk) (D0 := D0) (show h + 1 ≤ i by omega)).length_le; omega
theorem U_eq {h m i : Nat} (hi : i < cG n T bk D0 h m) : (Gl n T bk D0 h m).getD i D0 = Us n T bk D0 i := by
  have hr := rng hi
  unfold Us
  by_cases hh : i ≤ h
  · exact pre_getD (List.IsPrefix.trans (bfs_mono hh) bfs_Gl) hr
  · exact (pre_getD (List.IsPrefix.trans Gl_bfs (bfs_mono (show h + 1 ≤ i by omega))) hi).symm
theorem inL_iff {h m : Nat} {τ : Dp} : inL n (Gl n T bk D0 h m) τ = true ↔ ∃ i, i < cG n T bk D0 h m ∧ wkey (Us n T bk D0 i) n = wkey τ n := by
  unfold inL
  rw [List.any_eq_true]
  simp only [decide_eq_true_eq]
  constructor
  · rintro ⟨σ, hσ, he⟩
    obtain ⟨i, hi, rfl⟩ := List.mem_iff_getElem.mp hσ
    refine ⟨i, hi, ?_⟩
    rw [← U_eq hi, List.getD_eq_getElem?_getD, List.getElem?_eq_getElem hi]; exact he
  · rintro ⟨i, hi, he⟩
    refine ⟨(Gl n T bk D0 h m)[i]'hi, List.getElem_mem _, ?_⟩
    rw [← U_eq hi, List.getD_eq_getElem?_getD, List.getElem?_eq_getElem hi] at he; exact he
theorem cG_0 {h : Nat} : cG n T bk D0 h 0 = (bfs n T bk D0 h).length := by unfold cG; rw [Gl_0]
theorem cG_M {h m : Nat} (hm : (mvs n T).length ≤ m) : cG n T bk D0 h m = cG n T bk D0 (h + 1) 0 := by rw [cG_0]; unfold cG; rw [Gl_M hm]
theorem cG_mono {h m h' m' : Nat} (hh : h < h' ∨ h = h' ∧ m ≤ m') : cG n T bk D0 h m ≤ cG n T bk D0 h' m' := by
  rcases hh with hh | ⟨rfl, hm⟩
  · exact (List.IsPrefix.trans Gl_bfs (List.IsPrefix.trans (bfs_mono (show h + 1 ≤ h' by omega)) bfs_Gl)).length_le
  · exact (Gl_mono hm).length_le
theorem U_0 : Us n T bk D0 0 = D0 := rfl
theorem cG_pos {h m : Nat} : 1 ≤ cG n T bk D0 h m := by
  have : cG n T bk D0 0 0 ≤ cG n T bk D0 h m := cG_mono (by omega)
  rw [cG_0] at this
  simp [bfs] at this; omega
/-- one pair of the search: what it adds -/
theorem cG_s {h m : Nat} (hm : m < (mvs n T).length) (hh : h < cG n T bk D0 h m) : (cc T bk (Us n T bk D0 h) (mvs n T)[m].1 (mvs n T)[m].2 = false ∧ cG n T bk D0 h (m + 1) = cG n T bk D0 h m) ∨ (cc T bk (Us n T bk D0 h) (mvs n T)[m].1 (mvs n T)[m].2 = true ∧ (∃ i, i < cG n T bk D0 h m ∧ wkey (Us n T bk D0 i) n = wkey (mv bk (Us n T bk D0 h) (mvs n T)[m].1 (mvs n T)[m].2) n) ∧ cG n T bk D0 h (m + 1) = cG n T bk D0 h m) ∨ (cc T bk (Us n T bk D0 h) (mvs n T)[m].1 (mvs n T)[m].2 = true ∧ (∀ i, i < cG n T bk D0 h m → wkey (Us n T bk D0 i) n ≠ wkey (mv bk (Us n T bk D0 h) (mvs n T)[m].1 (mvs n T)[m].2) n) ∧ cG n T bk D0 h (m + 1) = cG n T bk D0 h m + 1 ∧ Us n T bk D0 (cG n T bk D0 h m) = mv bk (Us n T bk D0 h) (mvs n T)[m].1 (mvs n T)[m].2) := by
  have hG := Gl_s (bk := bk) (D0 := D0) (h := h) hm
  unfold stB2 at hG
  rw [U_eq hh] at hG
  generalize hτ : mv bk (Us n T bk D0 h) (mvs n T)[m].1 (mvs n T)[m].2 = τ at hG ⊢
  cases hc : cc T bk (Us n T bk D0 h) (mvs n T)[m].1 (mvs n T)[m].2
  · left
    rw [if_neg (by rw [hc]; simp)] at hG
    exact ⟨rfl, by unfold cG; rw [hG]⟩
  · right
    cases hi : inL n (Gl n T bk D0 h m) τ
    · right
      rw [if_pos ⟨hh, hc, hi⟩] at hG
      have h1 : cG n T bk D0 h (m + 1) = cG n T bk D0 h m + 1 := by unfold cG; rw [hG]; simp
      refine ⟨rfl, fun i hi' he => ?_, h1, ?_⟩
      · rw [inL_iff.mpr ⟨i, hi', he⟩] at hi; cases hi
      · rw [← U_eq (h := h) (m := m + 1) (by omega), hG, List.getD_eq_getElem?_getD]
        unfold cG
        rw [List.getElem?_append_right (Nat.le_refl _)]
        simp
    · left
      rw [if_neg (by rw [hi]; simp)] at hG
      exact ⟨rfl, inL_iff.mp hi, by unfold cG; rw [hG]⟩
theorem cG_idle {h m m' : Nat} (hh : cG n T bk D0 h m ≤ h) (hm : m ≤ m') : cG n T bk D0 h m' = cG n T bk D0 h m := by
  have h0 : (bfs n T bk D0 h).length ≤ h := Nat.le_trans bfs_Gl.length_le hh
  unfold cG Gl
  rw [pr_idle h0, pr_idle h0]
def VS (n : Nat) (D0 : Dp) (σ : Dp) : Prop := Bd σ 0 99 ∧ ∀ j, n ≤ j → σ j = D0 j
theorem VS.bn {σ : Dp} (h : VS n D0 σ) : Bn n σ := fun j _ => h.1 j
theorem VS.mvd {σ : Dp} {a b : Nat} (hS : Cty n T S) (hb : 0 ≤ bk) (h : VS n D0 σ) (hc : cc T bk σ a b = true) : VS n D0 (mv bk σ a b) := by
  have hn := cc_ne hS hc
  refine ⟨mv_bd hn.1 h.1 hn.2.2.2.1 hn.2.2.2.2 hb, fun j hj => ?_⟩
  unfold mv uI
  rw [if_neg (by omega), if_neg (by omega)]; exact h.2 j hj
/-- valid, and each told once -/
theorem U_ok (hS : Cty n T S) (hb : 0 ≤ bk) (h0 : Bd D0 0 99) : ∀ h m, (∀ i, i < cG n T bk D0 h m → VS n D0 (Us n T bk D0 i)) ∧ (∀ i j, i < j → j < cG n T bk D0 h m → wkey (Us n T bk D0 i) n ≠ wkey (Us n T bk D0 j) n) := by
  intro h
  induction h with
  | zero =>
    intro m
    induction m with
    | zero =>
      rw [cG_0]
      refine ⟨fun i hi => ?_, fun i j hij hj => ?_⟩
      · simp [bfs] at hi; subst hi; rw [U_0]; exact ⟨h0, fun j _ => rfl⟩
      · simp [bfs] at hj; omega
    | succ m ih => exact U_ok_s hS hb h0 ih
  | succ h ihh =>
    intro m
    induction m with
    | zero => rw [← cG_M (Nat.le_refl _)]; exact ihh _
    | succ m ih => exact U_ok_s hS hb h0 ih
where
  U_ok_s {h m : Nat} (hS : Cty n T S) (hb : 0 ≤ bk) (h0 : Bd D0 0 99) (ih : (∀ i, i < cG n T bk D0 h m → VS n D0 (Us n T bk D0 i)) ∧ (∀ i j, i < j → j < cG n T bk D0 h m → wkey (Us n T bk D0 i) n ≠ wkey (Us n T bk D0 j) n)) : (∀ i, i < cG n T bk D0 h (m + 1) → VS n D0 (Us n T bk D0 i)) ∧ (∀ i j, i < j → j < cG n T bk D0 h (m + 1) → wkey (Us n T bk D0 i) n ≠ wkey (Us n T bk D0 j) n) := by
    by_cases hm : m < (mvs n T).length
    · by_cases hh : h < cG n T bk D0 h m
      · rcases cG_s hm hh with ⟨_, he⟩ | ⟨_, _, he⟩ | ⟨hc, hn, he, hu⟩
        · rw [he]; exact ih
        · rw [he]; exact ih
        · rw [he]
          refine ⟨fun i hi => ?_, fun i j hij hj => ?_⟩
          · by_cases e : i = cG n T bk D0 h m
            · rw [e, hu]; exact (ih.1 h hh).mvd hS hb hc
            · exact ih.1 i (by omega)
          · by_cases e : j = cG n T bk D0 h m
            · rw [e, hu]; exact hn i (by omega)
            · exact ih.2 i j hij (by omega)
      · rw [cG_idle (show cG n T bk D0 h m ≤ h by omega) (show m ≤ m + 1 by omega)]; exact ih
    · have : cG n T bk D0 h (m + 1) = cG n T bk D0 h m := by rw [cG_M (by omega), cG_M (show (mvs n T).length ≤ m by omega)]
      rw [this]; exact ih
end BF
