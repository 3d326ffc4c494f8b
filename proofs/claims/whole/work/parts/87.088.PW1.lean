/-! texts: lines, the reader -/
abbrev Ln : Type := Int × Int × Int
def up (g : Nat → Ln) (k : Nat) (x : Ln) : Nat → Ln := fun i => if i = k then x else g i
theorem up_at {g : Nat → Ln} {k : Nat} {x : Ln} : up g k x k = x := if_pos rfl
theorem up_of {g : Nat → Ln} {k i : Nat} {x : Ln} (h : i ≠ k) : up g k x i = g i := if_neg h
def KRd : Nat → Nat → Bool := fun k _ => decide (3 ≤ k) && decide (k ≤ 6)
def LLs (s : wM) (k : Nat) (g : Nat → Ln) : Prop := s.1 3 3 = iI (k : Int) ∧ ∀ i, i < k → s.1 4 i = iI (g i).1 ∧ s.1 5 i = iI (g i).2.1 ∧ s.1 6 i = iI (g i).2.2
def RS (s : wM) (st f st0 k : Nat) (g : Nat → Ln) : Prop := s.1 3 6 = iI (st : Int) ∧ s.1 3 4 = iI (f : Int) ∧ s.1 3 5 = iI (st0 : Int) ∧ LLs s k g
section RD
variable {s t : wM} {st st' f st0 k ch : Nat} {g : Nat → Ln} {a b z : Int}
theorem RS.go (h : RS s st f st0 k g) (st' : Nat) : RS (wsI s 3 6 (iI (st' : Int))) st' f st0 k g :=
  ⟨rd_at, by rw [rd_of (by decide)]; exact h.2.1, by rw [rd_of (by decide)]; exact h.2.2.1, by rw [rd_of (by decide)]; exact h.2.2.2.1, fun i hi => by rw [rd_ne (by decide), rd_ne (by decide), rd_ne (by decide)]; exact h.2.2.2.2 i hi⟩
theorem RS.push (h : RS s st f st0 k g) : RS (wsI (wsI (wsI (wsI (wsI s 4 k (iI a)) 5 k (iI b)) 6 k (iI z)) 3 3 (iI ((k : Int) + 1))) 3 6 (iI (st' : Int))) st' f st0 (k + 1) (up g k (a, b, z)) := by
  refine RS.go (st := st) ⟨?_, ?_, ?_, ?_, fun i hi => ?_⟩ st'
  · rw [rd_of (by decide), rd_ne (by decide), rd_ne (by decide), rd_ne (by decide)]; exact h.1
  · rw [rd_of (by decide), rd_ne (by decide), rd_ne (by decide), rd_ne (by decide)]; exact h.2.1
  · rw [rd_of (by decide), rd_ne (by decide), rd_ne (by decide), rd_ne (by decide)]; exact h.2.2.1
  · rw [rd_at]; simp
  · rw [rd_ne (show (4 : Nat) ≠ 3 by decide), rd_ne (show (4 : Nat) ≠ 6 by decide), rd_ne (show (4 : Nat) ≠ 5 by decide), rd_ne (show (5 : Nat) ≠ 3 by decide), rd_ne (show (5 : Nat) ≠ 6 by decide), rd_ne (show (6 : Nat) ≠ 3 by decide)]
    by_cases e : i = k
    · subst e; rw [rd_at, rd_at, rd_at, up_at]; exact ⟨rfl, rfl, rfl⟩
    · rw [rd_of e, rd_of e, rd_of e, up_of e, rd_ne (show (5 : Nat) ≠ 4 by decide), rd_ne (show (6 : Nat) ≠ 5 by decide), rd_ne (show (6 : Nat) ≠ 4 by decide)]
      exact h.2.2.2.2 i (by omega)
theorem RS.set5 (h : RS s st f st0 (k + 1) (up g k (a, b, z))) (v : Int) (st' : Nat) : RS (wsI (wsI s 5 k (iI v)) 3 6 (iI (st' : Int))) st' f st0 (k + 1) (up g k (a, v, z)) := by
  refine RS.go (st := st) ⟨?_, ?_, ?_, ?_, fun i hi => ?_⟩ st'
  · rw [rd_ne (by decide)]; exact h.1
  · rw [rd_ne (by decide)]; exact h.2.1
  · rw [rd_ne (by decide)]; exact h.2.2.1
  · rw [rd_ne (by decide)]; exact h.2.2.2.1
  · have hi' := h.2.2.2.2 i hi
    rw [rd_ne (show (4 : Nat) ≠ 5 by decide), rd_ne (show (6 : Nat) ≠ 5 by decide)]
    by_cases e : i = k
    · subst e; rw [up_at] at hi' ⊢; rw [rd_at]; exact ⟨hi'.1, rfl, hi'.2.2⟩
    · rw [up_of e] at hi' ⊢; rw [rd_of e]; exact hi'
theorem RS.set6 (h : RS s st f st0 (k + 1) (up g k (a, b, z))) (v : Int) (st' : Nat) : RS (wsI (wsI s 6 k (iI v)) 3 6 (iI (st' : Int))) st' f st0 (k + 1) (up g k (a, b, v)) := by
  refine RS.go (st := st) ⟨?_, ?_, ?_, ?_, fun i hi => ?_⟩ st'
  · rw [rd_ne (by decide)]; exact h.1
  · rw [rd_ne (by decide)]; exact h.2.1
  · rw [rd_ne (by decide)]; exact h.2.2.1
  · rw [rd_ne (by decide)]; exact h.2.2.2.1
  · have hi' := h.2.2.2.2 i hi
    rw [rd_ne (show (4 : Nat) ≠ 6 by decide), rd_ne (show (5 : Nat) ≠ 6 by decide)]
    by_cases e : i = k
    · subst e; rw [up_at] at hi' ⊢; rw [rd_at]; exact ⟨hi'.1, hi'.2.1, rfl⟩
    · rw [up_of e] at hi' ⊢; rw [rd_of e]; exact hi'
theorem Rd_isDigit (hc : ch < 256) : fRd_isDigit s (iI (ch : Int)) = some (bI (decide (48 ≤ ch ∧ ch ≤ 57))) := by
  unfold fRd_isDigit fRd_isDigit_J16 fRd_isDigit_J17
  by_cases c1 : ch < 48
  · rw [if_pos (by rw [iI_lt (by omega) (by omega) (by omega) (by omega)]; omega), chkZ_0, bI_n (by omega)]
  · rw [if_neg (by rw [iI_lt (by omega) (by omega) (by omega) (by omega)]; omega)]
    by_cases c2 : 57 < ch
    · rw [if_pos (by rw [iI_lt (by omega) (by omega) (by omega) (by omega)]; omega), chkZ_0, bI_n (by omega)]
    · rw [if_neg (by rw [iI_lt (by omega) (by omega) (by omega) (by omega)]; omega), chkZ_1, bI_d (by omega)]
theorem Rd_beginLine (h : RS s st f st0 k g) (hk : k < 40) : ∃ t, fRd_beginLine s (iI a) (iI b) (iI z) (iI (st' : Int)) = some (iI 1, t) ∧ RS t st' f st0 (k + 1) (up g k (a, b, z)) ∧ Off KRd s t := by
  have h3 := h.2.2.2.1
  unfold fRd_beginLine
  rw [h3, if_neg (by rw [iI_eq (by omega) (by omega) (by omega) (by omega)]; omega), chk_in (by omega) (by omega) (by omega), iI_natc (by omega), nmM_e, rd_ne (by decide), h3, chk_in (by omega) (by omega) (by omega), iI_natc (by omega), nmM_e, rd_ne (by decide), rd_ne (by decide), h3, chk_in (by omega) (by omega) (by omega), iI_natc (by omega), nmM_e, rd_ne (by decide), rd_ne (by decide), rd_ne (by decide), h3, iI_add, nmM_e, nmM_e]
  exact ⟨_, rfl, h.push, ((((Off.refl s).set rfl).set rfl).set rfl |>.set rfl).set rfl⟩
theorem Rd_goesOn {w nx : Nat} (hc : ch < 256) (hw : w < 256) (h : RS s st f st0 k g) : ∃ t, fRd_goesOn s (iI (ch : Int)) (iI (w : Int)) (iI (nx : Int)) = some (bI (decide (ch = 59 ∨ ch = w)), t) ∧ RS t (if ch = 59 then st0 else nx) f st0 k g ∧ Off KRd s t := by
  unfold fRd_goesOn fRd_goesOn_J15 fRd_goesOn_J29 fRd_goesOn_J34
  simp only [nmM_e]
  by_cases c1 : ch = 59
  · rw [if_pos (by rw [c1]; rfl), if_pos (by rw [c1]; rfl), chkZ_1, h.2.2.1, bI_d (by omega), if_pos c1]
    exact ⟨_, rfl, h.go _, (Off.refl s).set rfl⟩
  · rw [if_neg (by rw [iI_eq (by omega) (by omega) (by omega) (by omega)]; omega), if_neg (by rw [iI_eq (by omega) (by omega) (by omega) (by omega)]; omega), if_neg c1]
    by_cases c2 : ch = w
    · rw [if_pos (by rw [c2]), chkZ_1, bI_d (by omega)]
      exact ⟨_, rfl, h.go _, (Off.refl s).set rfl⟩
    · rw [if_neg (by rw [iI_eq (by omega) (by omega) (by omega) (by omega)]; omega), chkZ_0, bI_n (by omega)]
      exact ⟨_, rfl, h.go _, (Off.refl s).set rfl⟩
theorem k1 (h : s.1 3 3 = iI ((k + 1 : Nat) : Int)) : s.1 3 3 - iI 1 = iI (k : Int) := by rw [h, iI_sub]; exact iI_congr (by omega)
theorem Rd_last {lo : Nat} (hc : ch < 256) (hlo : lo < 58) (h : RS s st f st0 (k + 1) (up g k (a, b, z))) (hk : k < 40) : (lo ≤ ch ∧ ch ≤ 57 → ∃ t, fRd_takeLastDigit s (iI (ch : Int)) (iI (lo : Int)) = some (iI 1, t) ∧ RS t 12 f st0 (k + 1) (up g k (a, b, (ch : Int) - 48)) ∧ Off KRd s t) ∧ (¬ (lo ≤ ch ∧ ch ≤ 57) → fRd_takeLastDigit s (iI (ch : Int)) (iI (lo : Int)) = some (iI 0, s)) := by
  unfold fRd_takeLastDigit fRd_takeLastDigit_J11
  refine ⟨fun c => ?_, fun c => ?_⟩
  · rw [if_neg (by rw [iI_lt (by omega) (by omega) (by omega) (by omega)]; omega), if_pos (by rw [iI_le (by omega) (by omega) (by omega) (by omega)]; omega), k1 h.2.2.2.1, chk_in (by omega) (by omega) (by omega), iI_natc (by omega), iI_sub, nmM_e, nmM_e]
    exact ⟨_, rfl, h.set6 _ 12, ((Off.refl s).set rfl).set rfl⟩
  · by_cases c1 : ch < lo
    · rw [if_pos (by rw [iI_lt (by omega) (by omega) (by omega) (by omega)]; omega)]
    · rw [if_neg (by rw [iI_lt (by omega) (by omega) (by omega) (by omega)]; omega), if_neg (by rw [iI_le (by omega) (by omega) (by omega) (by omega)]; omega)]
theorem Rd_other {nx : Nat} (hc : ch < 256) (hf : f ≤ 9) (h : RS s st f st0 (k + 1) (up g k (a, b, z))) (hk : k < 40) : (97 ≤ ch ∧ ch < 97 + f → ∃ t, fRd_takeOther s (iI (ch : Int) - iI 97) (iI (nx : Int)) = some (iI 1, t) ∧ RS t nx f st0 (k + 1) (up g k (a, (ch : Int) - 97, z)) ∧ Off KRd s t) ∧ (¬ (97 ≤ ch ∧ ch < 97 + f) → fRd_takeOther s (iI (ch : Int) - iI 97) (iI (nx : Int)) = some (iI 0, s)) := by
  unfold fRd_takeOther fRd_takeOther_J12
  rw [iI_sub, h.2.1]
  refine ⟨fun c => ?_, fun c => ?_⟩
  · rw [if_neg (by rw [iI_lt (by omega) (by omega) (by omega) (by omega)]; omega), if_pos (by rw [iI_lt (by omega) (by omega) (by omega) (by omega)]; omega), k1 h.2.2.2.1, chk_in (by omega) (by omega) (by omega), iI_natc (by omega), nmM_e, nmM_e]
    exact ⟨_, rfl, h.set5 _ nx, ((Off.refl s).set rfl).set rfl⟩
  · by_cases c1 : (ch : Int) - 97 < 0
    · rw [if_pos (by rw [iI_lt (by omega) (by omega) (by omega) (by omega)]; omega)]
    · rw [if_neg (by rw [iI_lt (by omega) (by omega) (by omega) (by omega)]; omega), if_neg (by rw [iI_lt (by omega) (by omega) (by omega) (by omega)]; omega)]
theorem Rd_beginPair {nx : Nat} (hc : ch < 256) (hf : f ≤ 9) (h : RS s st f st0 k g) (hk : k < 40) : (97 ≤ ch ∧ ch < 97 + f → ∃ t, fRd_beginPair s (iI (ch : Int) - iI 97) (iI z) (iI (nx : Int)) = some (iI 1, t) ∧ RS t nx f st0 (k + 1) (up g k ((ch : Int) - 97, 0, z)) ∧ Off KRd s t) ∧ (¬ (97 ≤ ch ∧ ch < 97 + f) → fRd_beginPair s (iI (ch : Int) - iI 97) (iI z) (iI (nx : Int)) = some (iI 0, s)) := by
  unfold fRd_beginPair fRd_beginPair_J27 fRd_beginPair_J28
  rw [iI_sub, h.2.1, chkZ_0]
  refine ⟨fun c => ?_, fun c => ?_⟩
  · obtain ⟨t, e, r, o⟩ := Rd_beginLine (st' := nx) (a := (ch : Int) - 97) (b := 0) (z := z) h hk
    rw [if_neg (by rw [iI_lt (by omega) (by omega) (by omega) (by omega)]; omega), if_neg (by rw [iI_le (by omega) (by omega) (by omega) (by omega)]; omega), e, Option.bind_some]
    dsimp only
    rw [if_neg (by decide), chkZ_1]
    exact ⟨t, rfl, r, o⟩
  · by_cases c1 : (ch : Int) - 97 < 0
    · rw [if_pos (by rw [iI_lt (by omega) (by omega) (by omega) (by omega)]; omega)]
    · rw [if_neg (by rw [iI_lt (by omega) (by omega) (by omega) (by omega)]; omega), if_pos (by rw [iI_le (by omega) (by omega) (by omega) (by omega)]; omega)]
end RD
