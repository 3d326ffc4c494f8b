section BP
variable {n : Nat} {T : Nat → Nat → Bool} {S : Nat → Nat → Int} {bk : Int} {D0 : Dp}
/-- from which one j was found -/
def par (n : Nat) (T : Nat → Nat → Bool) (bk : Int) (D0 : Dp) (j : Nat) : Nat := ff (fun k => decide (j < cG n T bk D0 (k + 1) 0)) (j - 1)
def pm (n : Nat) (T : Nat → Nat → Bool) (bk : Int) (D0 : Dp) (j : Nat) : Nat := ff (fun m => decide (j < cG n T bk D0 (par n T bk D0 j) (m + 1))) ((mvs n T).length - 1)
theorem par_lt {j : Nat} (hj : 1 ≤ j) : par n T bk D0 j < j := by have : par n T bk D0 j ≤ j - 1 := ff_le _ _; omega
theorem par_ok {j h m : Nat} (hj : 1 ≤ j) (hr : j < cG n T bk D0 h m) : cG n T bk D0 (par n T bk D0 j) 0 ≤ j ∧ j < cG n T bk D0 (par n T bk D0 j + 1) 0 := by
  have hb : j < cG n T bk D0 j 0 := by rw [cG_0]; exact rng hr
  have hle : par n T bk D0 j ≤ j - 1 := ff_le _ _
  constructor
  · by_cases h0 : par n T bk D0 j = 0
    · rw [h0, cG_0]; simp [bfs]; omega
    · have := ff_bf (fun k => decide (j < cG n T bk D0 (k + 1) 0)) (j - 1) (par n T bk D0 j - 1) (by show _ < par n T bk D0 j; omega)
      simp only [decide_eq_false_iff_not] at this
      rw [show par n T bk D0 j - 1 + 1 = par n T bk D0 j by omega] at this
      omega
  · by_cases e : par n T bk D0 j < j - 1
    · have : decide (j < cG n T bk D0 (par n T bk D0 j + 1) 0) = true := ff_lt (fun k => decide (j < cG n T bk D0 (k + 1) 0)) (j - 1) e
      exact of_decide_eq_true this
    · rw [show par n T bk D0 j = j - 1 by omega, show j - 1 + 1 = j by omega]; exact hb
theorem cG_s1 {h m : Nat} : cG n T bk D0 h (m + 1) ≤ cG n T bk D0 h m + 1 := by
  by_cases hm : m < (mvs n T).length
  · by_cases hh : h < cG n T bk D0 h m
    · rcases cG_s hm hh with ⟨_, he⟩ | ⟨_, _, he⟩ | ⟨_, _, he, _⟩ <;> omega
    · rw [cG_idle (show cG n T bk D0 h m ≤ h by omega) (show m ≤ m + 1 by omega)]; omega
  · rw [cG_M (show (mvs n T).length ≤ m + 1 by omega), cG_M (show (mvs n T).length ≤ m by omega)]; omega
theorem pm_ok {j h m : Nat} (hj : 1 ≤ j) (hr : j < cG n T bk D0 h m) : ∃ hm : pm n T bk D0 j < (mvs n T).length, cG n T bk D0 (par n T bk D0 j) (pm n T bk D0 j) = j ∧ cc T bk (Us n T bk D0 (par n T bk D0 j)) (mvs n T)[pm n T bk D0 j].1 (mvs n T)[pm n T bk D0 j].2 = true ∧ Us n T bk D0 j = mv bk (Us n T bk D0 (par n T bk D0 j)) (mvs n T)[pm n T bk D0 j].1 (mvs n T)[pm n T bk D0 j].2 := by
  obtain ⟨h1, h2⟩ := par_ok hj hr
  have hk := par_lt (n := n) (T := T) (bk := bk) (D0 := D0) hj
  generalize hpk : par n T bk D0 j = k at h1 h2 hk ⊢
  have hM : 1 ≤ (mvs n T).length := by
    by_cases e : (mvs n T).length = 0
    · rw [← cG_M (m := 0) (by omega)] at h2; omega
    · omega
  have hple : pm n T bk D0 j ≤ (mvs n T).length - 1 := ff_le _ _
  have hlt : j < cG n T bk D0 k (pm n T bk D0 j + 1) := by
    by_cases e : pm n T bk D0 j < (mvs n T).length - 1
    · have : decide (j < cG n T bk D0 (par n T bk D0 j) (pm n T bk D0 j + 1)) = true := ff_lt (fun m => decide (j < cG n T bk D0 (par n T bk D0 j) (m + 1))) ((mvs n T).length - 1) e
      rw [hpk] at this
      exact of_decide_eq_true this
    · rw [show pm n T bk D0 j = (mvs n T).length - 1 by omega, show (mvs n T).length - 1 + 1 = (mvs n T).length by omega, cG_M (Nat.le_refl _)]; exact h2
  have hge : cG n T bk D0 k (pm n T bk D0 j) ≤ j := by
    by_cases e : pm n T bk D0 j = 0
    · rw [e]; exact h1
    · have := ff_bf (fun m => decide (j < cG n T bk D0 (par n T bk D0 j) (m + 1))) ((mvs n T).length - 1) (pm n T bk D0 j - 1) (by show _ < pm n T bk D0 j; omega)
      simp only [decide_eq_false_iff_not, hpk] at this
      rw [show pm n T bk D0 j - 1 + 1 = pm n T bk D0 j by omega] at this
      omega
  have hs := cG_s1 (n := n) (T := T) (bk := bk) (D0 := D0) (h := k) (m := pm n T bk D0 j)
  have he : cG n T bk D0 k (pm n T bk D0 j) = j := by omega
  refine ⟨by omega, he, ?_⟩
  rcases cG_s (n := n) (T := T) (bk := bk) (D0 := D0) (h := k) (m := pm n T bk D0 j) (by omega) (by omega) with ⟨_, h'⟩ | ⟨_, _, h'⟩ | ⟨k1, _, _, k4⟩
  · omega
  · omega
  · rw [he] at k4; exact ⟨k1, k4⟩
/-- what can come from one is found once it is gone through -/
theorem closed {i m : Nat} (hi : i < cG n T bk D0 i 0) (hm : m < (mvs n T).length) (hc : cc T bk (Us n T bk D0 i) (mvs n T)[m].1 (mvs n T)[m].2 = true) : ∃ q, q < cG n T bk D0 (i + 1) 0 ∧ wkey (Us n T bk D0 q) n = wkey (mv bk (Us n T bk D0 i) (mvs n T)[m].1 (mvs n T)[m].2) n := by
  have hi' : i < cG n T bk D0 i m := Nat.lt_of_lt_of_le hi (cG_mono (by omega))
  have hle : cG n T bk D0 i (m + 1) ≤ cG n T bk D0 (i + 1) 0 := cG_mono (by omega)
  rcases cG_s hm hi' with ⟨h, _⟩ | ⟨_, ⟨q, h1, h2⟩, _⟩ | ⟨_, _, h3, h4⟩
  · rw [hc] at h; cases h
  · have : cG n T bk D0 i m ≤ cG n T bk D0 i (m + 1) := cG_mono (by omega)
    exact ⟨q, by omega, h2⟩
  · exact ⟨cG n T bk D0 i m, by omega, by rw [h4]⟩
theorem VS_eq {σ τ : Dp} (h1 : VS n D0 σ) (h2 : VS n D0 τ) (h : wkey σ n = wkey τ n) : σ = τ := by
  funext j
  by_cases hj : j < n
  · exact wkey_inj h1.bn h2.bn h j hj
  · rw [h1.2 j (by omega), h2.2 j (by omega)]
theorem cc_back {σ : Dp} {a b : Nat} (hS : Cty n T S) (hb : 1 ≤ bk) (hσ : Bd σ 0 99) (hc : cc T bk σ a b = true) : cc T bk (mv bk σ a b) b a = true ∧ mv bk (mv bk σ a b) b a = σ := by
  have h := cc_ne hS hc
  have ha := hσ a
  have hbb := hσ b
  have hT : T a b = true := by unfold cc at hc; simp at hc; exact hc.1.1
  refine ⟨?_, mv_back _ _ h.1⟩
  unfold cc
  rw [hS.2.1, hT]
  unfold mv
  rw [uI_at, uI_ne h.1.symm, uI_ne h.1, uI_at]
  simp; omega
theorem mv_uni {σ : Dp} {a b a' b' : Nat} (hb : 1 ≤ bk) (h1 : a ≠ b) (h2 : a' ≠ b') (e : mv bk σ a b = mv bk σ a' b') : a = a' ∧ b = b' := by
  have ea := congrFun e a
  have eb := congrFun e b
  unfold mv uI at ea eb
  by_cases k1 : a = a'
  · subst k1
    refine ⟨rfl, ?_⟩
    by_cases k2 : b = b'
    · exact k2
    · simp [h1, h1.symm, k2] at eb
      omega
  · exfalso
    by_cases k2 : a = b'
    · subst k2
      simp [h1, k1] at ea
      omega
    · simp [h1, k1, k2] at ea
      omega
/-- of those around j the first found is the one that it came from -/
theorem par_least (hS : Cty n T S) (hb : 1 ≤ bk) (h0 : Bd D0 0 99) {j h m i q : Nat} (hj : 1 ≤ j) (hr : j < cG n T bk D0 h m) (hq : q < (mvs n T).length) (hc : cc T bk (Us n T bk D0 j) (mvs n T)[q].1 (mvs n T)[q].2 = true) (hi : i < j) (he : wkey (Us n T bk D0 i) n = wkey (mv bk (Us n T bk D0 j) (mvs n T)[q].1 (mvs n T)[q].2) n) : par n T bk D0 j ≤ i := by
  have ok := U_ok hS (show 0 ≤ bk by omega) h0 h m
  have vj := ok.1 j hr
  have vi := ok.1 i (by omega)
  have hmem := mem_mvs.mp (List.getElem_mem hq)
  have hne := (hS.2.2.1 _ _ hmem.2.2)
  have ei : Us n T bk D0 i = mv bk (Us n T bk D0 j) (mvs n T)[q].1 (mvs n T)[q].2 := VS_eq vi (vj.mvd hS (by omega) hc) he
  obtain ⟨b1, b2⟩ := cc_back hS hb vj.1 hc
  rw [← ei] at b1 b2
  by_cases hlt : i < par n T bk D0 j
  · exfalso
    obtain ⟨p1, p2⟩ := par_ok hj hr
    have hmem' : ((mvs n T)[q].2, (mvs n T)[q].1) ∈ mvs n T := mem_mvs.mpr ⟨hmem.2.1, hmem.1, by rw [hS.2.1]; exact hmem.2.2⟩
    obtain ⟨q', hq', e'⟩ := List.mem_iff_getElem.mp hmem'
    have hir : i < cG n T bk D0 i 0 := by rw [cG_0]; exact rng (show i < cG n T bk D0 h m by omega)
    obtain ⟨r, r1, r2⟩ := closed hir hq' (by rw [e']; exact b1)
    rw [e'] at r2
    simp only at r2
    rw [b2] at r2
    have hle : cG n T bk D0 (i + 1) 0 ≤ cG n T bk D0 (par n T bk D0 j) 0 := by
      by_cases e : i + 1 = par n T bk D0 j
      · rw [e]; exact Nat.le_refl _
      · exact cG_mono (by omega)
    exact ok.2 r j (by omega) hr r2
  · omega
/-- the way back is the way there, turned -/
theorem par_turn (hS : Cty n T S) (hb : 1 ≤ bk) (h0 : Bd D0 0 99) {j h m : Nat} (hj : 1 ≤ j) (hr : j < cG n T bk D0 h m) : ∃ q, ∃ hq : q < (mvs n T).length, ∃ hp : pm n T bk D0 j < (mvs n T).length, cc T bk (Us n T bk D0 j) (mvs n T)[q].1 (mvs n T)[q].2 = true ∧ mv bk (Us n T bk D0 j) (mvs n T)[q].1 (mvs n T)[q].2 = Us n T bk D0 (par n T bk D0 j) ∧ (mvs n T)[q].1 = (mvs n T)[pm n T bk D0 j].2 ∧ (mvs n T)[q].2 = (mvs n T)[pm n T bk D0 j].1 := by
  obtain ⟨hp, p1, p2, p3⟩ := pm_ok hj hr
  have hmem := mem_mvs.mp (List.getElem_mem hp)
  have hk := par_lt (n := n) (T := T) (bk := bk) (D0 := D0) hj
  have vk := (U_ok hS (show 0 ≤ bk by omega) h0 h m).1 (par n T bk D0 j) (by omega)
  obtain ⟨b1, b2⟩ := cc_back hS hb vk.1 p2
  rw [← p3] at b1 b2
  have hmem' : ((mvs n T)[pm n T bk D0 j].2, (mvs n T)[pm n T bk D0 j].1) ∈ mvs n T := mem_mvs.mpr ⟨hmem.2.1, hmem.1, by rw [hS.2.1]; exact hmem.2.2⟩
  obtain ⟨q, hq, e⟩ := List.mem_iff_getElem.mp hmem'
  refine ⟨q, hq, hp, ?_, ?_, ?_, ?_⟩
  · rw [e]; exact b1
  · rw [e]; exact b2
  · rw [e]
  · rw [e]
def pthF (n : Nat) (T : Nat → Nat → Bool) (bk : Int) (D0 : Dp) : Nat → Nat → List (Nat × Nat)
  | 0, _ => []
  | f + 1, j => if j = 0 then [] else pthF n T bk D0 f (par n T bk D0 j) ++ [(mvs n T).getD (pm n T bk D0 j) (0, 0)]
def pth (n : Nat) (T : Nat → Nat → Bool) (bk : Int) (D0 : Dp) (j : Nat) : List (Nat × Nat) := pthF n T bk D0 j j
theorem pthF_eq : ∀ {f j : Nat}, j ≤ f → pthF n T bk D0 f j = pth n T bk D0 j
  | 0, j, h => by rw [show j = 0 by omega]; rfl
  | f + 1, j, h => by
    by_cases e : j = 0
    · subst e; unfold pth pthF; simp
    · have hk := par_lt (n := n) (T := T) (bk := bk) (D0 := D0) (show 1 ≤ j by omega)
      obtain ⟨q, rfl⟩ : ∃ q, j = q + 1 := ⟨j - 1, by omega⟩
      unfold pth
      rw [show pthF n T bk D0 (f + 1) (q + 1) = if q + 1 = 0 then [] else pthF n T bk D0 f (par n T bk D0 (q + 1)) ++ [(mvs n T).getD (pm n T bk D0 (q + 1)) (0, 0)] from rfl, show pthF n T bk D0 (q + 1) (q + 1) = if q + 1 = 0 then [] else pthF n T bk D0 q (par n T bk D0 (q + 1)) ++ [(mvs n T).getD (pm n T bk D0 (q + 1)) (0, 0)] from rfl, if_neg e, if_neg e, pthF_eq (show par n T bk D0 (q + 1) ≤ f by omega), pthF_eq (show par n T bk D0 (q + 1) ≤ q by omega)]
theorem pth_0 : pth n T bk D0 0 = [] := rfl
theorem pth_s {j : Nat} (hj : 1 ≤ j) : pth n T bk D0 j = pth n T bk D0 (par n T bk D0 j) ++ [(mvs n T).getD (pm n T bk D0 j) (0, 0)] := by
  obtain ⟨q, rfl⟩ : ∃ q, j = q + 1 := ⟨j - 1, by omega⟩
  have hk := par_lt (n := n) (T := T) (bk := bk) (D0 := D0) hj
  rw [show pth n T bk D0 (q + 1) = if q + 1 = 0 then [] else pthF n T bk D0 q (par n T bk D0 (q + 1)) ++ [(mvs n T).getD (pm n T bk D0 (q + 1)) (0, 0)] from rfl, if_neg (by omega), pthF_eq (by omega)]
def fr (n : Nat) (T : Nat → Nat → Bool) (bk : Int) (D0 : Dp) (j : Nat) : Nat := (pth n T bk D0 j).length
theorem fr_0 : fr n T bk D0 0 = 0 := rfl
theorem fr_s {j : Nat} (hj : 1 ≤ j) : fr n T bk D0 j = fr n T bk D0 (par n T bk D0 j) + 1 := by unfold fr; rw [pth_s hj]; simp
theorem fr_le : ∀ j, fr n T bk D0 j ≤ j := fun j => by
  induction j using Nat.strongRecOn with
  | ind j ih =>
    by_cases e : j = 0
    · subst e; rw [fr_0]; omega
    · have hk := par_lt (n := n) (T := T) (bk := bk) (D0 := D0) (show 1 ≤ j by omega)
      have := ih _ hk
      rw [fr_s (by omega)]; omega
/-- how many are found by fewer than b buckets -/
def Eb (n : Nat) (T : Nat → Nat → Bool) (bk : Int) (D0 : Dp) : Nat → Nat
  | 0 => 0
  | b + 1 => cG n T bk D0 (Eb n T bk D0 b) 0
theorem fr_ge : ∀ b {j h m : Nat}, j < cG n T bk D0 h m → Eb n T bk D0 b ≤ j → b ≤ fr n T bk D0 j
  | 0, _, _, _, _, _ => Nat.zero_le _
  | b + 1, j, h, m, hr, hj => by
    have h1 : 1 ≤ j := Nat.le_trans cG_pos hj
    obtain ⟨p1, p2⟩ := par_ok h1 hr
    have hk := par_lt (n := n) (T := T) (bk := bk) (D0 := D0) h1
    rw [fr_s h1]
    have : Eb n T bk D0 b ≤ par n T bk D0 j := by
      by_cases e : par n T bk D0 j < Eb n T bk D0 b
      · have hj' : cG n T bk D0 (Eb n T bk D0 b) 0 ≤ j := hj
        have : cG n T bk D0 (par n T bk D0 j + 1) 0 ≤ cG n T bk D0 (Eb n T bk D0 b) 0 := by
          by_cases e2 : par n T bk D0 j + 1 = Eb n T bk D0 b
          · rw [e2]; exact Nat.le_refl _
          · exact cG_mono (by omega)
        omega
      · omega
    have := fr_ge b (j := par n T bk D0 j) (h := h) (m := m) (by omega) this
    omega
theorem fr_lt : ∀ b {j : Nat}, j < Eb n T bk D0 b → fr n T bk D0 j < b
  | 0, _, h => by simp [Eb] at h
  | b + 1, j, hj => by
    by_cases e : j = 0
    · subst e; rw [fr_0]; omega
    · have hj' : j < cG n T bk D0 (Eb n T bk D0 b) 0 := hj
      obtain ⟨p1, p2⟩ := par_ok (show 1 ≤ j by omega) hj'
      rw [fr_s (by omega)]
      have : par n T bk D0 j < Eb n T bk D0 b := by
        by_cases e2 : par n T bk D0 j < Eb n T bk D0 b
        · exact e2
        · exfalso
          have : cG n T bk D0 (Eb n T bk D0 b) 0 ≤ cG n T bk D0 (par n T bk D0 j) 0 := by
            by_cases e3 : Eb n T bk D0 b = par n T bk D0 j
            · rw [e3]; exact Nat.le_refl _
            · exact cG_mono (by omega)
          omega
      have := fr_lt b this
      omega
end BP
