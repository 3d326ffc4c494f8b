section WL
variable {s t u : wM} {c : Nat → Nat} {L M p q j f st0 st k m : Nat} {g : Nat → Ln} {a b z d : Int} {x : Ln}
theorem rdT (hL : L ≤ 80) (hp : p < L) (hs : s.1 2 p = iI (c p : Int)) (e : fRd_takes s (iI (c p : Int)) = some (iI 1, t)) (N : Nat) : wh2 (fRd_readUpTo_L34 (iI (M : Int)) (iI (L : Int))) (N + 1) (iI (p : Int)) s = wh2 (fRd_readUpTo_L34 (iI (M : Int)) (iI (L : Int))) N (iI ((p + 1 : Nat) : Int)) t := by
  show fRd_readUpTo_L34 (iI (M : Int)) (iI (L : Int)) (iI (p : Int)) s _ = _
  unfold fRd_readUpTo_L34
  rw [if_neg (by rw [iI_le (by omega) (by omega) (by omega) (by omega)]; omega), chk_in (by omega) (by omega) (by omega), iI_natc (by omega), hs, e, Option.bind_some]
  dsimp only
  rw [if_neg (by decide), iI_add, show ((p + 1 : Nat) : Int) = (p : Int) + 1 by omega]
theorem rdF' (hL : L ≤ 80) (hp : p < L) (hs : s.1 2 p = iI (c p : Int)) (e : fRd_takes s (iI (c p : Int)) = some (iI 0, t)) (N : Nat) : wh2 (fRd_readUpTo_L34 (iI (M : Int)) (iI (L : Int))) (N + 1) (iI (p : Int)) s = some (iI (p : Int), t) := by
  show fRd_readUpTo_L34 (iI (M : Int)) (iI (L : Int)) (iI (p : Int)) s _ = _
  unfold fRd_readUpTo_L34
  rw [if_neg (by rw [iI_le (by omega) (by omega) (by omega) (by omega)]; omega), chk_in (by omega) (by omega) (by omega), iI_natc (by omega), hs, e, Option.bind_some]
  dsimp only
  rw [if_pos (by decide)]
theorem rdE (hL : L ≤ 80) (hM : M ≤ 80) {sz : Nat} (hz : sz ≤ 80) (h1 : s.1 1 1 = iI (sz : Int)) {v : Bool} (e : fRd_mayEnd s = some (bI v)) (N : Nat) : wh2 (fRd_readUpTo_L34 (iI (M : Int)) (iI (L : Int))) (N + 1) (iI (L : Int)) s = some (iI (if v = true ∧ sz ≤ M then -1 else (L : Int)), s) := by
  show fRd_readUpTo_L34 (iI (M : Int)) (iI (L : Int)) (iI (L : Int)) s _ = _
  unfold fRd_readUpTo_L34 fRd_readUpTo_J82 fRd_readUpTo_J83
  rw [if_pos (by rw [iI_le (by omega) (by omega) (by omega) (by omega)]; omega), h1, e, Option.bind_some]
  simp only [bI_0]
  by_cases c1 : M < sz
  · rw [if_pos (by rw [iI_lt (by omega) (by omega) (by omega) (by omega)]; omega), if_neg (by omega)]
  · rw [if_neg (by rw [iI_lt (by omega) (by omega) (by omega) (by omega)]; omega)]
    cases v
    · rw [if_pos rfl, if_neg (by simp)]
    · rw [if_neg (by simp), if_pos ⟨rfl, by omega⟩]
def Adv (L M : Nat) (s t : wM) (p j : Nat) : Prop := Off KRd s t ∧ ∀ N, wh2 (fRd_readUpTo_L34 (iI (M : Int)) (iI (L : Int))) (N + j) (iI (p : Int)) s = wh2 (fRd_readUpTo_L34 (iI (M : Int)) (iI (L : Int))) N (iI ((p + j : Nat) : Int)) t
theorem Adv.refl : Adv L M s s p 0 := ⟨Off.refl s, fun N => rfl⟩
def CHs (s : wM) (c : Nat → Nat) (L : Nat) : Prop := L ≤ 80 ∧ (∀ i, i < L → s.1 2 i = iI (c i : Int)) ∧ ∀ i, c i < 256
theorem CHs.of (h : CHs s c L) (o : Off KRd s t) : CHs t c L := ⟨h.1, fun i hi => by rw [o 2 i rfl]; exact h.2.1 i hi, h.2.2⟩
theorem Adv.step (h : Adv L M s t p j) (hc : CHs s c L) (hp : p + j < L) (e : fRd_takes t (iI (c (p + j) : Int)) = some (iI 1, u)) (o : Off KRd t u) : Adv L M s u p (j + 1) := by
  refine ⟨h.1.trans o, fun N => ?_⟩
  rw [show N + (j + 1) = (N + 1) + j by omega, h.2 (N + 1), rdT hc.1 hp ((hc.of h.1).2.1 _ hp) e N]
  rfl
/-- here the reading ends with a fault -/
def Stk (c : Nat → Nat) (L : Nat) (t : wM) (q : Nat) : Prop := (q = L → fRd_mayEnd t = some (iI 0)) ∧ (q < L → ∃ u, Off KRd t u ∧ fRd_takes t (iI (c q : Int)) = some (iI 0, u))
/-- here a line may end -/
def Fnl (c : Nat → Nat) (L st0 : Nat) (t : wM) (q f k : Nat) (g : Nat → Ln) : Prop := fRd_mayEnd t = some (iI 1) ∧ LLs t k g ∧ (q < L → (c q = 59 → ∃ u, Off KRd t u ∧ fRd_takes t (iI (c q : Int)) = some (iI 1, u) ∧ RS u st0 f st0 k g) ∧ (c q ≠ 59 → ∃ u, Off KRd t u ∧ fRd_takes t (iI (c q : Int)) = some (iI 0, u)))
theorem Fnl.mk' {w nx : Nat} (h : RS t st f st0 k g) (hst : st = 1 ∨ st = 2 ∨ st = 5 ∨ st = 10 ∨ st = 12) (hn : ¬ isC c L q w ∨ w = 59) (ht : q < L → ∃ u, fRd_takes t (iI (c q : Int)) = some (bI (decide (c q = 59 ∨ c q = w)), u) ∧ RS u (if c q = 59 then st0 else nx) f st0 k g ∧ Off KRd t u) : Fnl c L st0 t q f k g := by
  refine ⟨mE1 h hst, h.2.2.2, fun hq => ?_⟩
  obtain ⟨u, e, r, o⟩ := ht hq
  refine ⟨fun h59 => ?_, fun h59 => ?_⟩
  · rw [if_pos h59] at r
    exact ⟨u, o, by rw [e, bI_d (Or.inl h59)], r⟩
  · refine ⟨u, o, ?_⟩
    rw [e, bI_n]
    rintro (h1 | h1)
    · exact h59 h1
    · rcases hn with hn | hn
      · exact hn ⟨hq, h1⟩
      · exact h59 (h1.trans hn)
def WLine (c : Nat → Nat) (L M st0 : Nat) (pr : Nat → Nat → Option Ln × Nat) (s : wM) (p f k : Nat) (g : Nat → Ln) : Prop := ∃ j t, Adv L M s t p j ∧ p + j ≤ L ∧ ((pr f p = (none, p + j) ∧ Stk c L t (p + j)) ∨ ∃ x, pr f p = (some x, p + j) ∧ 1 ≤ j ∧ Fnl c L st0 t (p + j) (nf x f) (k + 1) (up g k x))
theorem gt1 (h : RS u (if 43 = 59 then st0 else st) f st0 k g) : RS u st f st0 k g := by rw [if_neg (by decide)] at h; exact h
/-- a farm's depth is read: its spring, if it has one -/
theorem W_farmTail (hc : CHs s c L) (hk : k < 40) (ha : Adv L M s t p j) (hj : p + j ≤ L) (hj1 : 1 ≤ j) (h : RS t st (f + 1) 0 (k + 1) (up g k (-1, d, 0))) (hst : st = 1 ∧ ¬ dg c L 48 (p + j) ∨ st = 2) {pr : Nat → Nat → Option Ln × Nat} (hp : pr f p = fTail c L (p + j) d) : WLine c L M 0 pr s p f k g := by
  have hct := hc.of ha.1
  have hg : p + j < L → ∃ u, fRd_takes t (iI (c (p + j) : Int)) = some (bI (decide (c (p + j) = 59 ∨ c (p + j) = 43)), u) ∧ RS u (if c (p + j) = 59 then 0 else 3) (f + 1) 0 (k + 1) (up g k (-1, d, 0)) ∧ Off KRd t u := fun hq => by
    rcases hst with ⟨rfl, hd⟩ | rfl
    · exact tk1g h (hct.2.2 _) fun h' => hd ⟨hq, h'⟩
    · exact tk2g h (hct.2.2 _)
  have hst' : st = 1 ∨ st = 2 ∨ st = 5 ∨ st = 10 ∨ st = 12 := by omega
  have hnf : ∀ y z : Int, nf (-1, y, z) f = f + 1 := fun y z => if_pos rfl
  unfold fTail at hp
  by_cases c1 : isC c L (p + j) 43
  · obtain ⟨u, e, r, o⟩ := hg c1.1
    rw [c1.2] at r
    rw [bI_d (Or.inr c1.2)] at e
    have r3 : RS u 3 (f + 1) 0 (k + 1) (up g k (-1, d, 0)) := gt1 r
    have hau := ha.step hc c1.1 e o
    rw [if_pos c1] at hp
    by_cases c2 : dg c L 48 (p + j + 1)
    · obtain ⟨v, e2, r2, o2⟩ := (tkL (st' := 48) (Or.inl ⟨rfl, rfl⟩) r3 (hct.2.2 (p + j + 1)) hk).1 c2.2
      rw [if_pos c2] at hp
      refine ⟨j + 1 + 1, v, hau.step hc c2.1 e2 o2, c2.1, Or.inr ⟨_, hp, by omega, ?_⟩⟩
      rw [hnf]
      exact Fnl.mk' (w := 59) (nx := 0) r2 (by omega) (Or.inr rfl) fun hq => tk12g r2 (hct.2.2 _)
    · rw [if_neg c2] at hp
      refine ⟨j + 1, u, hau, c1.1, Or.inl ⟨hp, fun _ => mE0 r3 (by omega), fun hq => ⟨u, Off.refl u, (tkL (st' := 48) (Or.inl ⟨rfl, rfl⟩) r3 (hct.2.2 _) hk).2 fun h' => c2 ⟨hq, h'⟩⟩⟩⟩
  · rw [if_neg c1] at hp
    refine ⟨j, t, ha, hj, Or.inr ⟨_, hp, hj1, ?_⟩⟩
    rw [hnf]
    exact Fnl.mk' h hst' (Or.inl c1) hg
theorem W_cline (hc : CHs s c L) (hk : k < 40) (hf : f ≤ 9) (hp : p ≤ L) (h : RS s 0 f 0 k g) : WLine c L M 0 (clN c L) s p f k g := by
  have h256 := hc.2.2
  by_cases c1 : dg c L 48 p
  · by_cases c9 : f = 9
    · subst c9
      refine ⟨0, s, Adv.refl, hp, Or.inl ⟨?_, fun e => ?_, fun _ => ⟨s, Off.refl s, tk0x h c1.2⟩⟩⟩
      · unfold clN; rw [if_pos c1, if_pos rfl]; rfl
      · have := c1.1; omega
    · obtain ⟨t1, e1, r1, o1⟩ := tk0d h c1.2 (by omega) hk
      have a1 : Adv L M s t1 p 1 := Adv.refl.step hc c1.1 e1 o1
      by_cases c2 : dg c L 48 (p + 1)
      · obtain ⟨t2, e2, r2, o2⟩ := tk1d r1 c2.2 hk
        refine W_farmTail hc hk (a1.step hc c2.1 e2 o2) c2.1 (by omega) r2 (Or.inr rfl) ?_
        unfold clN; rw [if_pos c1, if_neg c9, if_pos c2]
      · refine W_farmTail hc hk a1 c1.1 (by omega) r1 (Or.inl ⟨rfl, c2⟩) ?_
        unfold clN; rw [if_pos c1, if_neg c9, if_neg c2]
  · by_cases c2 : ltr c L f p
    · obtain ⟨t1, e1, r1, o1⟩ := tk0l h (fun h' => c1 ⟨c2.1, h'⟩) c2.2 hf hk
      have a1 : Adv L M s t1 p 1 := Adv.refl.step hc c2.1 e1 o1
      have hb := c2.2
      have hnf : ∀ y z : Int, nf ((c p : Int) - 97, y, z) f = f := fun y z => if_neg (by show ¬ ((c p : Int) - 97 = -1); omega)
      have h4 := tk4 (ch := c (p + 1)) r1 (by omega) (h256 _) hf hk
      by_cases c3 : ltr c L f (p + 1) ∧ c (p + 1) ≠ c p
      · obtain ⟨t2, e2, r2, o2⟩ := h4.1 ⟨c3.1.2, by have := c3.2; omega⟩
        have a2 : Adv L M s t2 p 2 := a1.step hc c3.1.1 e2 o2
        have hg : p + 2 < L → ∃ u, fRd_takes t2 (iI (c (p + 2) : Int)) = some (bI (decide (c (p + 2) = 59 ∨ c (p + 2) = 47)), u) ∧ RS u (if c (p + 2) = 59 then 0 else 6) f 0 (k + 1) (up g k ((c p : Int) - 97, (c (p + 1) : Int) - 97, 0)) ∧ Off KRd t2 u := fun _ => tk5g r2 (h256 _)
        by_cases c4 : isC c L (p + 2) 47
        · obtain ⟨t3, e3, r3, o3⟩ := hg c4.1
          rw [c4.2, if_neg (by decide)] at r3
          rw [bI_d (Or.inr c4.2)] at e3
          have a3 : Adv L M s t3 p 3 := a2.step hc c4.1 e3 o3
          have hl := tkL (ch := c (p + 3)) (st' := 48) (Or.inr (Or.inl ⟨rfl, rfl⟩)) r3 (h256 _) hk
          by_cases c5 : dg c L 48 (p + 3)
          · obtain ⟨t4, e4, r4, o4⟩ := hl.1 c5.2
            refine ⟨4, t4, a3.step hc c5.1 e4 o4, c5.1, Or.inr ⟨((c p : Int) - 97, (c (p + 1) : Int) - 97, (c (p + 3) : Int) - 48), ?_, by omega, ?_⟩⟩
            · unfold clN; rw [if_neg c1, if_pos c2, if_pos c3, if_pos c4, if_pos c5]
            · rw [hnf]
              exact Fnl.mk' (w := 59) (nx := 0) r4 (by omega) (Or.inr rfl) fun hq => tk12g r4 (h256 _)
          · refine ⟨3, t3, a3, c4.1, Or.inl ⟨?_, fun _ => mE0 r3 (by omega), fun hq => ⟨t3, Off.refl t3, hl.2 fun h' => c5 ⟨hq, h'⟩⟩⟩⟩
            unfold clN; rw [if_neg c1, if_pos c2, if_pos c3, if_pos c4, if_neg c5]
        · refine ⟨2, t2, a2, c3.1.1, Or.inr ⟨((c p : Int) - 97, (c (p + 1) : Int) - 97, 0), ?_, by omega, ?_⟩⟩
          · unfold clN; rw [if_neg c1, if_pos c2, if_pos c3, if_neg c4]
          · rw [hnf]
            exact Fnl.mk' r2 (by omega) (Or.inl c4) hg
      · refine ⟨1, t1, a1, c2.1, Or.inl ⟨?_, fun _ => mE0 r1 (by omega), fun hq => ⟨t1, Off.refl t1, h4.2 fun h' => c3 ⟨⟨hq, h'.1⟩, by have := h'.2; omega⟩⟩⟩⟩
        unfold clN; rw [if_neg c1, if_pos c2, if_neg c3]
    · refine ⟨0, s, Adv.refl, hp, Or.inl ⟨?_, fun _ => mE0 h (by omega), fun hq => ⟨s, Off.refl s, tk0n h (h256 _) (fun h' => c1 ⟨hq, h'⟩) (fun h' => c2 ⟨hq, h'⟩) hf hk⟩⟩⟩
      unfold clN; rw [if_neg c1, if_neg c2]; rfl
theorem W_nline (hc : CHs s c L) (hk : k < 40) (hp : p ≤ L) (h : RS s 7 9 7 k g) : WLine c L M 7 (nlN c L) s p 9 k g := by
  have h256 := hc.2.2
  have h7 := tk7 (ch := c p) h (h256 _) (by omega) hk
  by_cases c1 : ltr c L 9 p
  · obtain ⟨t1, e1, r1, o1⟩ := h7.1 c1.2
    have a1 : Adv L M s t1 p 1 := Adv.refl.step hc c1.1 e1 o1
    have hb := c1.2
    have hnf : ∀ y z : Int, nf ((c p : Int) - 97, y, z) 9 = 9 := fun y z => if_neg (by show ¬ ((c p : Int) - 97 = -1); omega)
    obtain ⟨t2, e2, r2, o2⟩ := tk8 (ch := c (p + 1)) r1 (h256 _)
    by_cases c2 : isC c L (p + 1) 62
    · rw [bI_d c2.2] at e2
      have a2 : Adv L M s t2 p 2 := a1.step hc c2.1 e2 o2
      have h9 := tk9 (ch := c (p + 2)) r2 (h256 _) (by omega) hk
      by_cases c3 : ltr c L 9 (p + 2)
      · obtain ⟨t3, e3, r3, o3⟩ := h9.1 c3.2
        have a3 : Adv L M s t3 p 3 := a2.step hc c3.1 e3 o3
        have hg : p + 3 < L → ∃ u, fRd_takes t3 (iI (c (p + 3) : Int)) = some (bI (decide (c (p + 3) = 59 ∨ c (p + 3) = 42)), u) ∧ RS u (if c (p + 3) = 59 then 7 else 11) 9 7 (k + 1) (up g k ((c p : Int) - 97, (c (p + 2) : Int) - 97, 1)) ∧ Off KRd t3 u := fun _ => tk10g r3 (h256 _)
        by_cases c4 : isC c L (p + 3) 42
        · obtain ⟨t4, e4, r4, o4⟩ := hg c4.1
          rw [c4.2, if_neg (by decide)] at r4
          rw [bI_d (Or.inr c4.2)] at e4
          have a4 : Adv L M s t4 p 4 := a3.step hc c4.1 e4 o4
          have hl := tkL (ch := c (p + 4)) (st' := 49) (Or.inr (Or.inr ⟨rfl, rfl⟩)) r4 (h256 _) hk
          by_cases c5 : dg c L 49 (p + 4)
          · obtain ⟨t5, e5, r5, o5⟩ := hl.1 c5.2
            refine ⟨5, t5, a4.step hc c5.1 e5 o5, c5.1, Or.inr ⟨((c p : Int) - 97, (c (p + 2) : Int) - 97, (c (p + 4) : Int) - 48), ?_, by omega, ?_⟩⟩
            · unfold nlN; rw [if_pos c1, if_pos c2, if_pos c3, if_pos c4, if_pos c5]
            · rw [hnf]
              exact Fnl.mk' (w := 59) (nx := 7) r5 (by omega) (Or.inr rfl) fun hq => tk12g r5 (h256 _)
          · refine ⟨4, t4, a4, c4.1, Or.inl ⟨?_, fun _ => mE0 r4 (by omega), fun hq => ⟨t4, Off.refl t4, hl.2 fun h' => c5 ⟨hq, h'⟩⟩⟩⟩
            unfold nlN; rw [if_pos c1, if_pos c2, if_pos c3, if_pos c4, if_neg c5]
        · refine ⟨3, t3, a3, c3.1, Or.inr ⟨((c p : Int) - 97, (c (p + 2) : Int) - 97, 1), ?_, by omega, ?_⟩⟩
          · unfold nlN; rw [if_pos c1, if_pos c2, if_pos c3, if_neg c4]
          · rw [hnf]
            exact Fnl.mk' r3 (by omega) (Or.inl c4) hg
      · refine ⟨2, t2, a2, c2.1, Or.inl ⟨?_, fun _ => mE0 r2 (by omega), fun hq => ⟨t2, Off.refl t2, h9.2 fun h' => c3 ⟨hq, h'⟩⟩⟩⟩
        unfold nlN; rw [if_pos c1, if_pos c2, if_neg c3]
    · refine ⟨1, t1, a1, c1.1, Or.inl ⟨?_, fun _ => mE0 r1 (by omega), fun hq => ⟨t2, o2, ?_⟩⟩⟩
      · unfold nlN; rw [if_pos c1, if_neg c2]
      · rw [e2, bI_n fun h' => c2 ⟨hq, h'⟩]
  · refine ⟨0, s, Adv.refl, hp, Or.inl ⟨?_, fun _ => mE0 h (by omega), fun hq => ⟨s, Off.refl s, h7.2 fun h' => c1 ⟨hq, h'⟩⟩⟩⟩
    unfold nlN; rw [if_neg c1]; rfl
end WL
