/-! lines told abstractly -/
def dg (c : Nat → Nat) (L lo p : Nat) : Prop := p < L ∧ lo ≤ c p ∧ c p ≤ 57
def isC (c : Nat → Nat) (L p x : Nat) : Prop := p < L ∧ c p = x
def ltr (c : Nat → Nat) (L f p : Nat) : Prop := p < L ∧ 97 ≤ c p ∧ c p < 97 + f
section PARSE
variable (c : Nat → Nat) (L : Nat)
noncomputable def fTail (q : Nat) (d : Int) : Option Ln × Nat := by
  classical exact if isC c L q 43 then (if dg c L 48 (q + 1) then (some (-1, d, (c (q + 1) : Int) - 48), q + 2) else (none, q + 1)) else (some (-1, d, 0), q)
noncomputable def clN (f p : Nat) : Option Ln × Nat := by
  classical exact if dg c L 48 p then (if f = 9 then (none, p) else if dg c L 48 (p + 1) then fTail c L (p + 2) (10 * ((c p : Int) - 48) + ((c (p + 1) : Int) - 48)) else fTail c L (p + 1) ((c p : Int) - 48)) else if ltr c L f p then (if ltr c L f (p + 1) ∧ c (p + 1) ≠ c p then (if isC c L (p + 2) 47 then (if dg c L 48 (p + 3) then (some ((c p : Int) - 97, (c (p + 1) : Int) - 97, (c (p + 3) : Int) - 48), p + 4) else (none, p + 3)) else (some ((c p : Int) - 97, (c (p + 1) : Int) - 97, 0), p + 2)) else (none, p + 1)) else (none, p)
noncomputable def nlN (f p : Nat) : Option Ln × Nat := by
  classical exact if ltr c L f p then (if isC c L (p + 1) 62 then (if ltr c L f (p + 2) then (if isC c L (p + 3) 42 then (if dg c L 49 (p + 4) then (some ((c p : Int) - 97, (c (p + 2) : Int) - 97, (c (p + 4) : Int) - 48), p + 5) else (none, p + 4)) else (some ((c p : Int) - 97, (c (p + 2) : Int) - 97, 1), p + 3)) else (none, p + 2)) else (none, p + 1)) else (none, p)
def nf (x : Ln) (f : Nat) : Nat := if x.1 = -1 then f + 1 else f
/-- line by line from p, k lines told: where the fault is, and the lines -/
def rdLn (pr : Nat → Nat → Option Ln × Nat) : Nat → Nat → Nat → Nat → (Nat → Ln) → Option Nat × Nat × (Nat → Ln)
  | 0, p, _, k, g => (some p, k, g)
  | m + 1, p, f, k, g => match (pr f p).1 with
    | none => (some (pr f p).2, k, g)
    | some x => if (pr f p).2 < L ∧ c (pr f p).2 = 59 then rdLn pr m ((pr f p).2 + 1) (nf x f) (k + 1) (up g k x) else if (pr f p).2 = L then (none, k + 1, up g k x) else (some (pr f p).2, k + 1, up g k x)
end PARSE
section RDL
variable {c : Nat → Nat} {L : Nat} {pr : Nat → Nat → Option Ln × Nat} {m p f k q : Nat} {g : Nat → Ln} {x : Ln}
theorem rdLn_no (h : pr f p = (none, q)) : rdLn c L pr (m + 1) p f k g = (some q, k, g) := by simp only [rdLn, h]
theorem rdLn_on (h : pr f p = (some x, q)) (h1 : q < L) (h2 : c q = 59) : rdLn c L pr (m + 1) p f k g = rdLn c L pr m (q + 1) (nf x f) (k + 1) (up g k x) := by simp only [rdLn, h]; rw [if_pos ⟨h1, h2⟩]
theorem rdLn_end (h : pr f p = (some x, L)) : rdLn c L pr (m + 1) p f k g = (none, k + 1, up g k x) := by simp only [rdLn, h]; rw [if_neg (by omega), if_pos trivial]
theorem rdLn_bad (h : pr f p = (some x, q)) (h1 : q < L) (h2 : c q ≠ 59) : rdLn c L pr (m + 1) p f k g = (some q, k + 1, up g k x) := by simp only [rdLn, h]; rw [if_neg (fun e => h2 e.2), if_neg (by omega)]
end RDL
section TK
variable {s t : wM} {st st' f st0 k ch : Nat} {g : Nat → Ln} {a b z : Int}
theorem tk0d (h : RS s 0 f st0 k g) (hc : 48 ≤ ch ∧ ch ≤ 57) (hf : f < 9) (hk : k < 40) : ∃ t, fRd_takes s (iI (ch : Int)) = some (iI 1, t) ∧ RS t 1 (f + 1) st0 (k + 1) (up g k (-1, (ch : Int) - 48, 0)) ∧ Off KRd s t := by
  have h' : RS (wsI s 3 4 (iI ((f : Int) + 1))) 0 (f + 1) st0 k g := ⟨by rw [rd_of (by decide)]; exact h.1, by rw [rd_at]; simp, by rw [rd_of (by decide)]; exact h.2.2.1, by rw [rd_of (by decide)]; exact h.2.2.2.1, fun i hi => by rw [rd_ne (by decide), rd_ne (by decide), rd_ne (by decide)]; exact h.2.2.2.2 i hi⟩
  obtain ⟨t, e, r, o⟩ := Rd_beginLine (st' := 1) (a := -1) (b := (ch : Int) - 48) (z := 0) h' hk
  have e' : fRd_beginLine (wsI s 3 4 (iI ((f : Int) + 1))) (iI (-1)) (iI ((ch : Int) - 48)) (iI 0) (iI 1) = some (iI 1, t) := e
  unfold fRd_takes fRd_takes_J96 fRd_beginFarm
  rw [h.1, if_pos (by decide), Rd_isDigit (by omega), Option.bind_some, bI_d hc, if_neg (by decide), h.2.1, if_neg (by rw [iI_eq (by omega) (by omega) (by omega) (by omega)]; omega), iI_sub, iI_add, nmM_e, e', Option.bind_some]
  dsimp only
  rw [chkZ_1, Option.bind_some]
  dsimp only
  rw [chkZ_1]
  exact ⟨t, rfl, r, ((Off.refl s).set rfl).trans o⟩
theorem tk0x (h : RS s 0 9 st0 k g) (hc : 48 ≤ ch ∧ ch ≤ 57) : fRd_takes s (iI (ch : Int)) = some (iI 0, s) := by
  unfold fRd_takes fRd_takes_J96 fRd_beginFarm
  rw [h.1, if_pos (by decide), Rd_isDigit (by omega), Option.bind_some, bI_d hc, if_neg (by decide), h.2.1, if_pos (by decide), Option.bind_some]
  dsimp only
  rw [chkZ_0]
theorem tk0l (h : RS s 0 f st0 k g) (hd : ¬ (48 ≤ ch ∧ ch ≤ 57)) (hc : 97 ≤ ch ∧ ch < 97 + f) (hf : f ≤ 9) (hk : k < 40) : ∃ t, fRd_takes s (iI (ch : Int)) = some (iI 1, t) ∧ RS t 4 f st0 (k + 1) (up g k ((ch : Int) - 97, 0, 0)) ∧ Off KRd s t := by
  obtain ⟨t, e, r, o⟩ := (Rd_beginPair (nx := 4) (z := 0) (by omega) hf h hk).1 hc
  have e' : fRd_beginPair s (iI (ch : Int) - iI 97) (iI 0) (iI 4) = some (iI 1, t) := e
  unfold fRd_takes fRd_takes_J96
  rw [h.1, if_pos (by decide), Rd_isDigit (by omega), Option.bind_some, bI_n hd, if_pos (by decide), e', Option.bind_some]
  dsimp only
  rw [chkZ_1]
  exact ⟨t, rfl, r, o⟩
theorem tk0n (h : RS s 0 f st0 k g) (h256 : ch < 256) (hd : ¬ (48 ≤ ch ∧ ch ≤ 57)) (hc : ¬ (97 ≤ ch ∧ ch < 97 + f)) (hf : f ≤ 9) (hk : k < 40) : fRd_takes s (iI (ch : Int)) = some (iI 0, s) := by
  have e := (Rd_beginPair (nx := 4) (z := 0) h256 hf h hk).2 hc
  have e' : fRd_beginPair s (iI (ch : Int) - iI 97) (iI 0) (iI 4) = some (iI 0, s) := e
  unfold fRd_takes fRd_takes_J96
  rw [h.1, if_pos (by decide), Rd_isDigit h256, Option.bind_some, bI_n hd, if_pos (by decide), e', Option.bind_some]
  dsimp only
  rw [chkZ_0]
theorem tk1d (h : RS s 1 f st0 (k + 1) (up g k (a, b, z))) (hc : 48 ≤ ch ∧ ch ≤ 57) (hk : k < 40) : ∃ t, fRd_takes s (iI (ch : Int)) = some (iI 1, t) ∧ RS t 2 f st0 (k + 1) (up g k (a, 10 * b + ((ch : Int) - 48), z)) ∧ Off KRd s t := by
  have h5 := (h.2.2.2.2 k (by omega)).2.1
  rw [up_at] at h5
  unfold fRd_takes fRd_takes_J123 fRd_takeSecondDigit
  rw [h.1, if_neg (by decide), if_pos (by decide), Rd_isDigit (by omega), Option.bind_some, bI_d hc, if_neg (by decide), k1 h.2.2.2.1, chk_in (by omega) (by omega) (by omega), iI_natc (by omega), h5, iI_sub, iI_mul, iI_add, nmM_e, nmM_e, Option.bind_some]
  dsimp only
  rw [chkZ_1]
  exact ⟨_, rfl, h.set5 _ 2, ((Off.refl s).set rfl).set rfl⟩
/-- a line that could end here -/
def Fin' (s : wM) (f st0 k : Nat) (g : Nat → Ln) (w : Nat) : Prop := fRd_mayEnd s = some (iI 1) ∧ ∀ ch, ch < 256 → ∃ t, fRd_takes s (iI (ch : Int)) = some (bI (decide (ch = 59 ∨ ch = w)), t) ∧ Off KRd s t ∧ (ch = 59 → RS t st0 f st0 k g)
theorem bIZ {ρ : Type} {b : Bool} {k : Option ρ} : chkZ (bI b) k = k := by cases b; exact chkZ_0; exact chkZ_1
theorem tk1g (h : RS s 1 f st0 k g) (h256 : ch < 256) (hd : ¬ (48 ≤ ch ∧ ch ≤ 57)) : ∃ t, fRd_takes s (iI (ch : Int)) = some (bI (decide (ch = 59 ∨ ch = 43)), t) ∧ RS t (if ch = 59 then st0 else 3) f st0 k g ∧ Off KRd s t := by
  obtain ⟨t, e, r, o⟩ := Rd_goesOn (w := 43) (nx := 3) h256 (by omega) h
  have e' : fRd_goesOn s (iI (ch : Int)) (iI 43) (iI 3) = some (bI (decide (ch = 59 ∨ ch = 43)), t) := e
  unfold fRd_takes fRd_takes_J123
  rw [h.1, if_neg (by decide), if_pos (by decide), Rd_isDigit h256, Option.bind_some, bI_n hd, if_pos (by decide), e', Option.bind_some]
  dsimp only
  rw [bIZ]
  exact ⟨t, rfl, r, o⟩
theorem tk2g (h : RS s 2 f st0 k g) (h256 : ch < 256) : ∃ t, fRd_takes s (iI (ch : Int)) = some (bI (decide (ch = 59 ∨ ch = 43)), t) ∧ RS t (if ch = 59 then st0 else 3) f st0 k g ∧ Off KRd s t := by
  obtain ⟨t, e, r, o⟩ := Rd_goesOn (w := 43) (nx := 3) h256 (by omega) h
  have e' : fRd_goesOn s (iI (ch : Int)) (iI 43) (iI 3) = some (bI (decide (ch = 59 ∨ ch = 43)), t) := e
  unfold fRd_takes
  rw [h.1, if_neg (by decide), if_neg (by decide), if_pos (by decide), e', Option.bind_some]
  dsimp only
  rw [bIZ]
  exact ⟨t, rfl, r, o⟩
theorem tk5g (h : RS s 5 f st0 k g) (h256 : ch < 256) : ∃ t, fRd_takes s (iI (ch : Int)) = some (bI (decide (ch = 59 ∨ ch = 47)), t) ∧ RS t (if ch = 59 then st0 else 6) f st0 k g ∧ Off KRd s t := by
  obtain ⟨t, e, r, o⟩ := Rd_goesOn (w := 47) (nx := 6) h256 (by omega) h
  have e' : fRd_goesOn s (iI (ch : Int)) (iI 47) (iI 6) = some (bI (decide (ch = 59 ∨ ch = 47)), t) := e
  unfold fRd_takes
  rw [h.1, if_neg (by decide), if_neg (by decide), if_neg (by decide), if_neg (by decide), if_neg (by decide), if_pos (by decide), e', Option.bind_some]
  dsimp only
  rw [bIZ]
  exact ⟨t, rfl, r, o⟩
theorem tk10g (h : RS s 10 f st0 k g) (h256 : ch < 256) : ∃ t, fRd_takes s (iI (ch : Int)) = some (bI (decide (ch = 59 ∨ ch = 42)), t) ∧ RS t (if ch = 59 then st0 else 11) f st0 k g ∧ Off KRd s t := by
  obtain ⟨t, e, r, o⟩ := Rd_goesOn (w := 42) (nx := 11) h256 (by omega) h
  have e' : fRd_goesOn s (iI (ch : Int)) (iI 42) (iI 11) = some (bI (decide (ch = 59 ∨ ch = 42)), t) := e
  unfold fRd_takes
  rw [h.1, if_neg (by decide), if_neg (by decide), if_neg (by decide), if_neg (by decide), if_neg (by decide), if_neg (by decide), if_neg (by decide), if_neg (by decide), if_neg (by decide), if_neg (by decide), if_pos (by decide), e', Option.bind_some]
  dsimp only
  rw [bIZ]
  exact ⟨t, rfl, r, o⟩
theorem tk12g (h : RS s 12 f st0 k g) (h256 : ch < 256) : ∃ t, fRd_takes s (iI (ch : Int)) = some (bI (decide (ch = 59 ∨ ch = 59)), t) ∧ RS t (if ch = 59 then st0 else st0) f st0 k g ∧ Off KRd s t := by
  obtain ⟨t, e, r, o⟩ := Rd_goesOn (w := 59) (nx := st0) h256 (by omega) h
  have e' : fRd_goesOn s (iI (ch : Int)) (iI 59) (s.1 3 5) = some (bI (decide (ch = 59 ∨ ch = 59)), t) := by rw [h.2.2.1]; exact e
  unfold fRd_takes
  rw [h.1, if_neg (by decide), if_neg (by decide), if_neg (by decide), if_neg (by decide), if_neg (by decide), if_neg (by decide), if_neg (by decide), if_neg (by decide), if_neg (by decide), if_neg (by decide), if_neg (by decide), if_neg (by decide), e', Option.bind_some]
  dsimp only
  rw [bIZ]
  exact ⟨t, rfl, r, o⟩
/-- the last digit is due (states 3, 6, 11) -/
theorem tkL (hst : st = 3 ∧ st' = 48 ∨ st = 6 ∧ st' = 48 ∨ st = 11 ∧ st' = 49) (h : RS s st f st0 (k + 1) (up g k (a, b, z))) (h256 : ch < 256) (hk : k < 40) : (st' ≤ ch ∧ ch ≤ 57 → ∃ t, fRd_takes s (iI (ch : Int)) = some (iI 1, t) ∧ RS t 12 f st0 (k + 1) (up g k (a, b, (ch : Int) - 48)) ∧ Off KRd s t) ∧ (¬ (st' ≤ ch ∧ ch ≤ 57) → fRd_takes s (iI (ch : Int)) = some (iI 0, s)) := by
  have hl := Rd_last (lo := st') h256 (by omega) h hk
  have e : fRd_takes s (iI (ch : Int)) = (fRd_takeLastDigit s (iI (ch : Int)) (iI (st' : Int))).bind fun q_2 => chkZ q_2.1 (some (q_2.1, q_2.2)) := by
    unfold fRd_takes fRd_takes_J133
    rw [h.1]
    rcases hst with ⟨rfl, rfl⟩ | ⟨rfl, rfl⟩ | ⟨rfl, rfl⟩
    · rw [if_neg (by decide), if_neg (by decide), if_neg (by decide), if_pos (by decide)]; rfl
    · rw [if_neg (by decide), if_neg (by decide), if_neg (by decide), if_neg (by decide), if_neg (by decide), if_neg (by decide), if_pos (by decide)]; rfl
    · rw [if_neg (by decide), if_neg (by decide), if_neg (by decide), if_neg (by decide), if_neg (by decide), if_neg (by decide), if_neg (by decide), if_neg (by decide), if_neg (by decide), if_neg (by decide), if_neg (by decide), if_pos (by decide)]; rfl
  rw [e]
  refine ⟨fun c => ?_, fun c => ?_⟩
  · obtain ⟨t, e, r, o⟩ := hl.1 c
    rw [e, Option.bind_some]
    dsimp only
    rw [chkZ_1]
    exact ⟨t, rfl, r, o⟩
  · rw [hl.2 c, Option.bind_some]
    dsimp only
    rw [chkZ_0]
theorem tk4 (h : RS s 4 f st0 (k + 1) (up g k (a, b, z))) (ha : 0 ≤ a ∧ a < 9) (h256 : ch < 256) (hf : f ≤ 9) (hk : k < 40) : ((97 ≤ ch ∧ ch < 97 + f) ∧ (ch : Int) - 97 ≠ a → ∃ t, fRd_takes s (iI (ch : Int)) = some (iI 1, t) ∧ RS t 5 f st0 (k + 1) (up g k (a, (ch : Int) - 97, z)) ∧ Off KRd s t) ∧ (¬ ((97 ≤ ch ∧ ch < 97 + f) ∧ (ch : Int) - 97 ≠ a) → fRd_takes s (iI (ch : Int)) = some (iI 0, s)) := by
  have ho := Rd_other (nx := 5) h256 hf h hk
  have h4 := (h.2.2.2.2 k (by omega)).1
  rw [up_at] at h4
  unfold fRd_takes fRd_takes_J175 fRd_takes_J176
  rw [h.1, if_neg (by decide), if_neg (by decide), if_neg (by decide), if_neg (by decide), if_pos (by decide), k1 h.2.2.2.1, chk_in (by omega) (by omega) (by omega), iI_natc (by omega), h4, chkZ_0]
  by_cases c : (ch : Int) - 97 = a
  · rw [if_pos (by rw [iI_sub, c])]
    exact ⟨fun h => absurd c h.2, fun _ => rfl⟩
  · rw [if_neg (by rw [iI_sub, iI_eq (by omega) (by omega) (by omega) (by omega)]; exact c)]
    refine ⟨fun c1 => ?_, fun c1 => ?_⟩
    · obtain ⟨t, e, r, o⟩ := ho.1 c1.1
      have e' : fRd_takeOther s (iI (ch : Int) - iI 97) (iI 5) = some (iI 1, t) := e
      rw [e', Option.bind_some]
      dsimp only
      rw [if_neg (by decide), chkZ_1]
      exact ⟨t, rfl, r, o⟩
    · have e' : fRd_takeOther s (iI (ch : Int) - iI 97) (iI 5) = some (iI 0, s) := ho.2 fun h => c1 ⟨h, c⟩
      rw [e', Option.bind_some]
      dsimp only
      rw [if_pos (by decide), chkZ_0]
theorem tk7 (h : RS s 7 f st0 k g) (h256 : ch < 256) (hf : f ≤ 9) (hk : k < 40) : (97 ≤ ch ∧ ch < 97 + f → ∃ t, fRd_takes s (iI (ch : Int)) = some (iI 1, t) ∧ RS t 8 f st0 (k + 1) (up g k ((ch : Int) - 97, 0, 1)) ∧ Off KRd s t) ∧ (¬ (97 ≤ ch ∧ ch < 97 + f) → fRd_takes s (iI (ch : Int)) = some (iI 0, s)) := by
  have hb := Rd_beginPair (nx := 8) (z := 1) h256 hf h hk
  unfold fRd_takes
  rw [h.1, if_neg (by decide), if_neg (by decide), if_neg (by decide), if_neg (by decide), if_neg (by decide), if_neg (by decide), if_neg (by decide), if_pos (by decide)]
  refine ⟨fun c => ?_, fun c => ?_⟩
  · obtain ⟨t, e, r, o⟩ := hb.1 c
    have e' : fRd_beginPair s (iI (ch : Int) - iI 97) (iI 1) (iI 8) = some (iI 1, t) := e
    rw [e', Option.bind_some]
    dsimp only
    rw [chkZ_1]
    exact ⟨t, rfl, r, o⟩
  · have e' : fRd_beginPair s (iI (ch : Int) - iI 97) (iI 1) (iI 8) = some (iI 0, s) := hb.2 c
    rw [e', Option.bind_some]
    dsimp only
    rw [chkZ_0]
theorem tk8 (h : RS s 8 f st0 k g) (h256 : ch < 256) : ∃ t, fRd_takes s (iI (ch : Int)) = some (bI (decide (ch = 62)), t) ∧ RS t 9 f st0 k g ∧ Off KRd s t := by
  unfold fRd_takes fRd_takes_J216
  rw [h.1, if_neg (by decide), if_neg (by decide), if_neg (by decide), if_neg (by decide), if_neg (by decide), if_neg (by decide), if_neg (by decide), if_neg (by decide), if_pos (by decide), nmM_e, chkZ_1, chkZ_0]
  refine ⟨wsI s 3 6 (iI 9), ?_, h.go 9, (Off.refl s).set rfl⟩
  by_cases c : ch = 62
  · rw [if_pos (by rw [c]; rfl), bI_d c]
  · rw [if_neg (by rw [iI_eq (by omega) (by omega) (by omega) (by omega)]; omega), bI_n c]
theorem tk9 (h : RS s 9 f st0 (k + 1) (up g k (a, b, z))) (h256 : ch < 256) (hf : f ≤ 9) (hk : k < 40) : (97 ≤ ch ∧ ch < 97 + f → ∃ t, fRd_takes s (iI (ch : Int)) = some (iI 1, t) ∧ RS t 10 f st0 (k + 1) (up g k (a, (ch : Int) - 97, z)) ∧ Off KRd s t) ∧ (¬ (97 ≤ ch ∧ ch < 97 + f) → fRd_takes s (iI (ch : Int)) = some (iI 0, s)) := by
  have ho := Rd_other (nx := 10) h256 hf h hk
  unfold fRd_takes
  rw [h.1, if_neg (by decide), if_neg (by decide), if_neg (by decide), if_neg (by decide), if_neg (by decide), if_neg (by decide), if_neg (by decide), if_neg (by decide), if_neg (by decide), if_pos (by decide)]
  refine ⟨fun c => ?_, fun c => ?_⟩
  · obtain ⟨t, e, r, o⟩ := ho.1 c
    have e' : fRd_takeOther s (iI (ch : Int) - iI 97) (iI 10) = some (iI 1, t) := e
    rw [e', Option.bind_some]
    dsimp only
    rw [chkZ_1]
    exact ⟨t, rfl, r, o⟩
  · have e' : fRd_takeOther s (iI (ch : Int) - iI 97) (iI 10) = some (iI 0, s) := ho.2 c
    rw [e', Option.bind_some]
    dsimp only
    rw [chkZ_0]
theorem mE1 (h : RS s st f st0 k g) (hst : st = 1 ∨ st = 2 ∨ st = 5 ∨ st = 10 ∨ st = 12) : fRd_mayEnd s = some (iI 1) := by
  unfold fRd_mayEnd fRd_mayEnd_J42 fRd_mayEnd_J47
  rw [h.1, chkZ_1]
  rcases hst with rfl | rfl | rfl | rfl | rfl <;> rfl
theorem mE0 (h : RS s st f st0 k g) (hst : st = 0 ∨ st = 3 ∨ st = 4 ∨ st = 6 ∨ st = 7 ∨ st = 8 ∨ st = 9 ∨ st = 11) : fRd_mayEnd s = some (iI 0) := by
  unfold fRd_mayEnd fRd_mayEnd_J42 fRd_mayEnd_J47
  rw [h.1, chkZ_0]
  rcases hst with rfl | rfl | rfl | rfl | rfl | rfl | rfl | rfl <;> rfl
end TK
