theorem wsI_Rr {s : wM} {k j : Nat} {v : Int32} {F : Nat → Int32} : wsI (wRo s k F) k j v = wRo s k (fun i => if i = j then v else F i) := by
  unfold wsI wRo; simp only [Prod.mk.injEq, and_true]; funext a b
  by_cases e : a = k
  · subst e; simp
  · simp [e]
theorem wsI_asR {s : wM} {k j : Nat} {v : Int32} : wsI s k j v = wRo s k (fun i => if i = j then v else s.1 k i) := by
  unfold wsI wRo; simp only [Prod.mk.injEq, and_true]; funext a b
  by_cases e : a = k
  · subst e; simp
  · simp [e]
/-- pairs even with f, of those in l -/
def lpy (T : Nat → Nat → Bool) (ap : Int) (D : Nat → Int) (l : List (Nat × Nat)) (f : Nat) : Int := lsm (fun a b => if ev T ap D a b = true then (if a = f then 1 else 0) + (if b = f then 1 else 0) else 0) l
theorem lpy_cnt {n : Nat} {T : Nat → Nat → Bool} {S : Nat → Nat → Int} {ap : Int} {D : Nat → Int} (hS : Cty n T S) (f : Nat) : lpy T ap D (prs n T) f = if f < n then (cnt (ev T ap D f) n : Int) else 0 := by
  unfold lpy prs
  rw [lsm_prL]
  have hd : ∀ a, ev T ap D a a = false := fun a => by
    have ht : T a a = false := by
      cases h : T a a with
      | false => rfl
      | true => have := hS.2.2.1 a a h; omega
    simp [ev, ht]
  have h := sm_tri (fun a b => if a = f ∧ ev T ap D a b = true then 1 else 0) (fun a => by rw [hd]; simp) n
  have e : sm (fun a => sm (fun b => if a = f ∧ ev T ap D a b = true then 1 else 0) n) n = if f < n then (cnt (ev T ap D f) n : Int) else 0 := by
    have : ∀ m, sm (fun a => sm (fun b => if a = f ∧ ev T ap D a b = true then (1 : Int) else 0) n) m = if f < m then (cnt (ev T ap D f) n : Int) else 0 := by
      intro m
      induction m with
      | zero => simp [sm]
      | succ m ih =>
        simp only [sm, ih]
        by_cases h1 : f < m
        · rw [if_pos h1, if_pos (by omega), sm_congr (n := n) (g := fun _ => 0) (fun j _ => if_neg (by omega)), sm_zero]; omega
        · rw [if_neg h1]
          by_cases h2 : m = f
          · subst h2; simp [sm_cnt]
          · rw [if_neg (by omega), sm_congr (n := n) (g := fun _ => 0) (fun j _ => if_neg (by omega)), sm_zero]; omega
    exact this n
  rw [← e, ← h]
  refine sm_congr fun a ha => sm_congr fun b hb => ?_
  by_cases h1 : a < b
  · by_cases hT : T a b = true
    · have hs := ev_symm hS.2.1 ap D a b
      simp only [h1, hT, true_and, if_true, ← hs]
      by_cases h2 : ev T ap D a b = true
      · simp [h2]
      · simp [h2]
    · have hT' : T b a = false := by rw [hS.2.1]; simpa using hT
      have z1 : ev T ap D a b = false := by unfold ev; simp [hT]
      have z2 : ev T ap D b a = false := by unfold ev; simp [hT']
      simp [h1, hT, z1, z2]
  · simp [h1]
def Gn (n : Nat) (T : Nat → Nat → Bool) (ap : Int) (D : Nat → Int) (fi : Int) (G : Nat → Int32) : Nat → Int32 := fun j => if j < n then G j + iI (fi * (cnt (ev T ap D j) n : Int)) else G j
section PY
variable {s : wM} {n : Nat} {T : Nat → Nat → Bool} {S : Nat → Nat → Int} {D SP : Nat → Int} {ap fi bk : Int} {rain : Int} {bits : Nat} {k : Nat} {G : Nat → Int32} {w : Int32} {pl : List PI} {kp : Nat → KI} {tx : List Nat} {se : List (Nat × Nat)}
theorem addz (x : Int32) : x + iI 0 = x := by rw [iI_0]; simp
theorem Ah_payInto (hS : Cty n T S) (hA : AH s n T S SP ap D) (bD : Bd D 0 99) (hap : 0 ≤ ap ∧ ap ≤ 9) (hk : k = 10 ∨ k = 16) : fAh_payInto s k (iI fi) = some (wRo s k (Gn n T ap D fi (s.1 k))) := by
  have hn := hS.1
  have hl := prs_len T hn
  have hA' : ∀ F, AH (wRo s k F) n T S SP ap D := fun F => hA.of (wR_off (Off.refl s) fun j => by rcases hk with rfl | rfl <;> rfl)
  have h17 : (17 : Nat) ≠ k := by omega
  have h18 : (18 : Nat) ≠ k := by omega
  unfold fAh_payInto
  have e0 : s = wRo s k (fun j => s.1 k j + iI (fi * lpy T ap D ((prs n T).take 0) j)) := (wR_id (by funext j; simp [lpy, lsm, addz])).symm
  conv => lhs; arg 4; rw [e0]
  refine for2b (fun i => wRo s k (fun j => s.1 k j + iI (fi * lpy T ap D ((prs n T).take i) j))) (i0 := 0) (n := (prs n T).length) (Nat.zero_le _) (by omega) (fun i _ hi c => ?_) (fun c => ?_)
  · obtain ⟨q1, q2, q3⟩ := (hA' (fun j => s.1 k j + iI (fi * lpy T ap D ((prs n T).take i) j))).2.2.2.1 i hi
    obtain ⟨r1, r2, r3⟩ := prs_get hS hi
    unfold fAh_payInto_L2 fAh_payInto_J42
    rw [(hA' _).2.2.1, if_neg (by rw [iI_le (by omega) (by omega) (by omega) (by omega)]; omega), Ah_isEven hS (hA' _) bD hap hi, Option.bind_some]
    have ht : ∀ x, lpy T ap D ((prs n T).take (i + 1)) x = lpy T ap D ((prs n T).take i) x + (if ev T ap D (prs n T)[i].1 (prs n T)[i].2 = true then (if (prs n T)[i].1 = x then 1 else 0) + (if (prs n T)[i].2 = x then 1 else 0) else 0) := fun x => lsm_take _ _ _ hi
    simp only [bI_0, iI_add]
    by_cases h : ev T ap D (prs n T)[i].1 (prs n T)[i].2 = true
    · rw [if_neg (by rw [h]; decide), chk_in (by omega) (by omega) (by omega), iI_natc (by omega), q1, chk_in (by omega) (by omega) (by omega), iI_natc (by omega)]
      simp only [nmM]
      rw [wsI_Rr, wR_ne h18, show s.1 18 i = iI ((prs n T)[i].2 : Int) by rw [wR_ne h18] at q2; exact q2, chk_in (by omega) (by omega) (by omega), iI_natc (by omega), wsI_Rr]
      congr 2
      funext x
      rw [ht x, wRo_at, wRo_at, if_pos h]
      by_cases e1 : x = (prs n T)[i].2
      · subst e1
        rw [if_pos rfl, if_neg (by omega), if_neg (by omega), if_pos rfl, Int32.add_assoc, iI_add]
        congr 2; rw [Int.mul_add]; omega
      · rw [if_neg e1]
        by_cases e2 : x = (prs n T)[i].1
        · subst e2
          rw [if_pos rfl, if_pos rfl, if_neg (by omega), Int32.add_assoc, iI_add]
          congr 2; rw [Int.mul_add]; omega
        · rw [if_neg e2, if_neg (fun h => e2 h.symm), if_neg (fun h => e1 h.symm)]
          simp
    · rw [if_pos (by simpa using h)]
      congr 2
      funext x
      rw [ht x, if_neg h, Int.add_zero]
  · unfold fAh_payInto_L2
    rw [(hA' _).2.2.1, if_pos (by rw [iI_le (by omega) (by omega) (by omega) (by omega)]; omega), List.take_length]
    congr 2
    funext j
    rw [lpy_cnt hS]
    unfold Gn
    by_cases h : j < n
    · rw [if_pos h, if_pos h]
    · rw [if_neg h, if_neg h]; simp [addz]
end PY
