section PA
variable {s t : wM} {n : Nat} {T : Nat → Nat → Bool} {S : Nat → Nat → Int} {D SP : Nat → Int} {ap fi bk : Int} {G : Nat → Int32} {w v : Int32} {pl : List PI} {kp : Nat → KI} {tx : List Nat} {se : List (Nat × Nat)} {l : List Int32}
theorem chkC3 {ρ : Type} {k : Option ρ} : chkC (iI 0) (iI 0) (iI 3) 3 3 k = k := by unfold chkC; rw [if_pos (by decide)]
theorem n3 : (iI 3).toNatClampNeg = 3 := rfl
/-- a snapshot is taken -/
theorem Sn_take {k : Nat} (hk : 36 ≤ k) (hk2 : k ≤ 156) : ∃ t, fSn_take s k = some t ∧ (∀ j, t.1 (k + 1) j = if j < 9 then s.1 8 j else s.1 (k + 1) j) ∧ (∀ j, t.1 (k + 2) j = if j < 9 then s.1 9 j else s.1 (k + 2) j) ∧ (∀ j, t.1 (k + 3) j = if j < 9 then s.1 10 j else s.1 (k + 3) j) ∧ (∀ j, t.1 (k + 4) j = if j < 3 then s.1 11 j else s.1 (k + 4) j) ∧ t.1 k 4 = s.1 7 5 ∧ t.1 k 5 = s.1 7 4 ∧ Off (fun a _ => decide (k ≤ a) && decide (a ≤ k + 4)) s t := by
  unfold fSn_take
  rw [chkC9, z0, n9]
  simp only [nmM]
  rw [chkC9, chkC9, chkC3, n3]
  refine ⟨_, rfl, fun j => ?_, fun j => ?_, fun j => ?_, fun j => ?_, ?_, ?_, ?_⟩
  · rw [rd_ne (by omega), rd_ne (by omega), rd_cne (by omega), rd_cne (by omega), rd_cne (by omega), rd_c]
  · rw [rd_ne (by omega), rd_ne (by omega), rd_cne (by omega), rd_cne (by omega), rd_c, rd_cne (by omega), rd_cne (by omega)]
  · rw [rd_ne (by omega), rd_ne (by omega), rd_cne (by omega), rd_c, rd_cne (by omega), rd_cne (by omega), rd_cne (by omega), rd_cne (by omega)]
  · rw [rd_ne (by omega), rd_ne (by omega), rd_c, rd_cne (by omega), rd_cne (by omega), rd_cne (by omega), rd_cne (by omega), rd_cne (by omega), rd_cne (by omega)]
  · rw [rd_of (by decide), rd_at, rd_cne (by omega), rd_cne (by omega), rd_cne (by omega), rd_cne (by omega)]
  · rw [rd_at, rd_ne (by omega), rd_cne (by omega), rd_cne (by omega), rd_cne (by omega), rd_cne (by omega)]
  · refine Off.set (Off.set (Off.cpy (Off.cpy (Off.cpy (Off.cpy (Off.refl s) ?_) ?_) ?_) ?_) ?_) ?_ <;> (try intro j) <;> simp
/-- what the noted place holds: the land's depths, paid, weeks -/
def NtW (s : wM) (nt : Nat) (x : PI) : Prop := SnW s (36 + 5 * nt) x
theorem W_note {nt : Nat} (hw : HW s n T S D SP ap fi bk G w pl kp tx se) (hp : PaW s nt pl) (hl : pl.length ≤ 20) : ∃ t, fPa_note s = some t ∧ PaW t nt pl ∧ SnW t (36 + 5 * nt) (D, G, w) ∧ Off (fun a _ => decide (36 ≤ a) && decide (a ≤ 140)) s t := by
  obtain ⟨p1, p2, p3, p4⟩ := hp
  unfold fPa_note
  rw [p3, chk_in (by omega) (by omega) (by omega), iI_natc (by omega)]
  obtain ⟨t, e, t1, t2, t3, t4, t5, t6, o⟩ := Sn_take (s := s) (k := 36 + 5 * nt) (by omega) (by omega)
  rw [e, Option.bind_some]
  refine ⟨t, rfl, ⟨p1, ?_, ?_, fun i hi => (p4 i hi).of fun j => ?_⟩, ⟨fun f hf => ?_, fun f hf => ?_, ?_⟩, o.mono fun k j hk => ?_⟩
  · rw [o 34 0 (by simp; omega)]; exact p2
  · rw [o 34 2 (by simp; omega)]; exact p3
  · have hm : (nt + 21 - pl.length + i) % 21 < 21 := Nat.mod_lt _ (by omega)
    have hne : (nt + 21 - pl.length + i) % 21 ≠ nt := by
      by_cases h : nt + 21 - pl.length + i < 21
      · rw [Nat.mod_eq_of_lt h]; omega
      · rw [Nat.mod_eq_sub_mod (by omega), Nat.mod_eq_of_lt (by omega)]; omega
    generalize (nt + 21 - pl.length + i) % 21 = q at hm hne
    exact ⟨o _ _ (by simp; omega), o _ _ (by simp; omega), o _ _ (by simp; omega)⟩
  · rw [t1, if_pos hf, show s.1 8 = _ from hw.1.2.1]
  · rw [t3, if_pos hf, hw.2.1.1]
  · rw [t5, hw.2.1.2.1]
  · simp only [Bool.and_eq_false_iff, decide_eq_false_iff_not] at hk ⊢; omega
def psh (l : List PI) (x : PI) : List PI := if l.length < 20 then l ++ [x] else l.tail ++ [x]
theorem psh_len (l : List PI) (x : PI) (h : l.length ≤ 20) : (psh l x).length = min 20 (l.length + 1) := by
  unfold psh; split
  · simp; omega
  · simp; omega
theorem psh_get {l : List PI} {x : PI} (h : l.length ≤ 20) {i : Nat} (hi : i < (psh l x).length) : (i + 1 = (psh l x).length ∧ (psh l x)[i] = x) ∨ (i + 1 < (psh l x).length ∧ ∃ h2 : i + (l.length + 1 - (psh l x).length) < l.length, (psh l x)[i] = l[i + (l.length + 1 - (psh l x).length)]) := by
  have hlen := psh_len l x h
  by_cases e : i + 1 = (psh l x).length
  · left
    refine ⟨e, ?_⟩
    unfold psh at *
    by_cases c : l.length < 20
    · simp only [c, if_true] at *
      rw [List.getElem_append_right (by simp at hi e ⊢; omega)]; simp
    · simp only [c, if_false] at *
      rw [List.getElem_append_right (by simp at hi e ⊢; omega)]; simp
  · right
    have h2 : i + (l.length + 1 - (psh l x).length) < l.length := by omega
    refine ⟨by omega, h2, ?_⟩
    by_cases c : l.length < 20
    · have e1 : psh l x = l ++ [x] := if_pos c
      have e2 : l.length + 1 - (psh l x).length = 0 := by omega
      simp only [e2, Nat.add_zero]
      simp only [e1]
      rw [List.getElem_append_left (by omega)]
    · have e1 : psh l x = l.tail ++ [x] := if_neg c
      have e2 : l.length + 1 - (psh l x).length = 1 := by omega
      simp only [e2]
      simp only [e1]
      rw [List.getElem_append_left (by simp; omega)]
      simp
theorem W_keep {nt : Nat} {x : PI} (hp : PaW s nt pl) (hl : pl.length ≤ 20) (hx : SnW s (36 + 5 * nt) x) : ∃ t, fPa_keepNoted s = some t ∧ (∃ nt', PaW t nt' (psh pl x)) ∧ Off (fun a _ => a == 34) s t := by
  obtain ⟨p1, p2, p3, p4⟩ := hp
  have hlen := psh_len pl x hl
  have e1 : iRem (iI ((nt : Int) + 1)) (iI 21) = iI (((nt + 1) % 21 : Nat) : Int) := by
    unfold iRem
    rw [iI_div (by omega) (by omega) (by omega) (by omega), iI_mul, iI_sub]
    congr 1
    rw [Int.tdiv_eq_ediv_of_nonneg (by omega)]
    omega
  unfold fPa_keepNoted
  simp only [nmM]
  rw [p3, iI_add, e1, rd_of (by decide), p2, iI_add, iMin_i (by omega) (by omega) (by omega) (by omega)]
  refine ⟨_, rfl, ⟨(nt + 1) % 21, Nat.mod_lt _ (by omega), ?_, ?_, fun i hi => ?_⟩, ((Off.refl s).set rfl).set rfl⟩
  · rw [rd_at, hlen]; congr 1; omega
  · rw [rd_of (by decide), rd_at]
  · have hq : ∀ y : Nat, SnW s (36 + 5 * y) (psh pl x)[i] → SnW (wsI (wsI s 34 2 (iI (((nt + 1) % 21 : Nat) : Int))) 34 0 (iI (min 20 ((pl.length : Int) + 1)))) (36 + 5 * y) (psh pl x)[i] := fun y hy => hy.of fun j => ⟨by rw [rd_ne (by omega), rd_ne (by omega)], by rw [rd_ne (by omega), rd_ne (by omega)], by rw [rd_ne (by omega), rd_ne (by omega)]⟩
    apply hq
    rcases psh_get hl hi with ⟨g1, g2⟩ | ⟨g1, g2, g3⟩
    · rw [g2, show ((nt + 1) % 21 + 21 - (psh pl x).length + i) % 21 = nt by
        have : (nt + 1) % 21 = nt + 1 ∨ ((nt + 1) % 21 = 0 ∧ nt = 20) := by
          by_cases h : nt = 20
          · right; subst h; simp
          · left; exact Nat.mod_eq_of_lt (by omega)
        omega]
      exact hx
    · rw [g3]
      have := p4 _ g2
      rw [show ((nt + 1) % 21 + 21 - (psh pl x).length + i) % 21 = (nt + 21 - pl.length + (i + (pl.length + 1 - (psh pl x).length))) % 21 by
        have : (nt + 1) % 21 = nt + 1 ∨ ((nt + 1) % 21 = 0 ∧ nt = 20) := by
          by_cases h : nt = 20
          · right; subst h; simp
          · left; exact Nat.mod_eq_of_lt (by omega)
        omega]
      exact this
theorem M_putsBy (hm : HM s n T S D SP ap fi bk G w pl kp tx se) (hl : pl.length ≤ 20) : ∃ t, fM_putsBy s = some t ∧ PaM t pl ∧ SnM t pl.length (D, G, w) ∧ Off (fun a _ => a == 174) s t := by
  obtain ⟨p1, p2⟩ := hm.2.2.1
  unfold fM_putsBy fM_putsDown
  obtain ⟨q, hq⟩ : ∃ q, q = pl.length := ⟨_, rfl⟩
  rw [p1, ← hq]
  rw [← hq] at hl
  have main : ∃ t, wh2 (fM_putsDown_L2 (iI (q : Int))) 100000 (iI 0) s = some t ∧ (∀ f, f < 9 → t.1 174 (19 * q + f) = iI (D f) ∧ t.1 174 (19 * q + 9 + f) = G f) ∧ t.1 174 (19 * q + 18) = w ∧ (∀ j, j < 19 * q → t.1 174 j = s.1 174 j) ∧ Off (fun a _ => a == 174) s t := by
    refine wh2_w (Q := fun x => ∃ t, x = some t ∧ (∀ f, f < 9 → t.1 174 (19 * q + f) = iI (D f) ∧ t.1 174 (19 * q + 9 + f) = G f) ∧ t.1 174 (19 * q + 18) = w ∧ (∀ j, j < 19 * q → t.1 174 j = s.1 174 j) ∧ Off (fun a _ => a == 174) s t) (fun m x u => ∃ i : Nat, i ≤ 9 ∧ m = 9 - i ∧ x = iI (i : Int) ∧ (∀ f, f < i → u.1 174 (19 * q + f) = iI (D f) ∧ u.1 174 (19 * q + 9 + f) = G f) ∧ (∀ j, j < 19 * q → u.1 174 j = s.1 174 j) ∧ Off (fun a _ => a == 174) s u) ?_ 100000 9 _ _ (by omega) ⟨0, by omega, rfl, rfl, fun f hf => by omega, fun j _ => rfl, Off.refl s⟩
    rintro m x u ⟨i, h1, rfl, rfl, h2, h3, ho⟩ c hc
    unfold fM_putsDown_L2
    rw [iI_mul, iI_add, iI_add, iI_add, iI_add]
    by_cases hi : i < 9
    · rw [if_neg (by rw [iI_le (by omega) (by omega) (by omega) (by omega)]; omega), chk_in (by omega) (by omega) (by omega), chk_in (by omega) (by omega) (by omega)]
      simp only [nmM]
      rw [chk_in (by omega) (by omega) (by omega), iI_nat (a := 19 * (q : Int) + (i : Int)) (by omega) (by omega), iI_nat (a := 19 * (q : Int) + 9 + (i : Int)) (by omega) (by omega), iI_natc (by omega), rd_ne (by decide), ho.row (k := 163) (fun j => rfl), ho.row (k := 167) (fun j => rfl), show s.1 163 = _ from hm.1.2.1, hm.2.1.1, iI_add, show (19 * (q : Int) + (i : Int)).toNat = 19 * q + i by omega, show (19 * (q : Int) + 9 + (i : Int)).toNat = 19 * q + 9 + i by omega]
      refine hc (9 - (i + 1)) _ _ (by omega) ⟨i + 1, by omega, rfl, by simp, fun f hf => ?_, fun j hj => ?_, (ho.set rfl).set rfl⟩
      · rw [rd_if, rd_if, rd_if, rd_if, if_neg (by omega)]
        by_cases e : f = i
        · subst e; rw [if_pos rfl, if_pos rfl]; exact ⟨rfl, rfl⟩
        · rw [if_neg (by omega), if_neg (by omega), if_neg (by omega)]; exact h2 f (by omega)
      · rw [rd_of (by omega), rd_of (by omega)]; exact h3 j hj
    · have : i = 9 := by omega
      subst this
      rw [if_pos (by decide), chk_in (by omega) (by omega) (by omega), iI_nat (by omega) (by omega), show (19 * (q : Int) + 18).toNat = 19 * q + 18 by omega, ho 161 10 rfl, hm.2.1.2]
      refine ⟨_, rfl, fun f hf => ?_, rd_at, fun j hj => ?_, ho.set rfl⟩
      · rw [rd_of (by omega), rd_of (by omega)]; exact h2 f hf
      · rw [rd_of (by omega)]; exact h3 j hj
  obtain ⟨t, e, t1, t2, t3, o⟩ := main
  rw [e, Option.bind_some]
  refine ⟨t, rfl, ⟨?_, fun i hi => ?_⟩, ⟨fun f hf => (t1 f hf).1, fun f hf => (t1 f hf).2, t2⟩, o⟩
  · rw [o 161 20 rfl, p1]
  · have := p2 i hi
    refine ⟨fun f hf => ?_, fun f hf => ?_, ?_⟩
    · rw [t3 _ (by omega)]; exact this.1 f hf
    · rw [t3 _ (by omega)]; exact this.2.1 f hf
    · rw [t3 _ (by omega)]; exact this.2.2
theorem M_adds {x : PI} (hp : PaM s pl) (hl : pl.length ≤ 20) (hx : SnM s pl.length x) : ∃ t, fM_adds s = some t ∧ PaM t (psh pl x) ∧ Off (fun a j => a == 174 || a == 161 && j == 20) s t := by
  obtain ⟨p1, p2⟩ := hp
  have hlen := psh_len pl x hl
  unfold fM_adds fM_adds_J59
  simp only [nmM]
  rw [p1, iI_add, rd_at]
  by_cases c : pl.length < 20
  · rw [if_pos (by rw [iI_le (by omega) (by omega) (by omega) (by omega)]; omega)]
    have e1 : psh pl x = pl ++ [x] := if_pos c
    refine ⟨_, rfl, ⟨?_, fun i hi => ?_⟩, (Off.refl s).set rfl⟩
    · rw [rd_at, hlen]; congr 1; omega
    · have hS : SnM s i (psh pl x)[i] := by
        simp only [e1] at hi ⊢
        by_cases e : i = pl.length
        · subst e; simp; exact hx
        · simp at hi
          rw [List.getElem_append_left (by omega)]; exact p2 i (by omega)
      exact hS.of (rd_ne (by decide))
  · have h20 : pl.length = 20 := by omega
    rw [if_neg (by rw [iI_le (by omega) (by omega) (by omega) (by omega)]; omega), h20]
    have e1 : psh pl x = pl.tail ++ [x] := if_neg c
    have main : ∃ t, wh2 fM_adds_L21 100000 (iI 0) (wsI s 161 20 (iI ((20 : Nat) + 1 : Int))) = some t ∧ t.1 161 20 = iI 20 ∧ (∀ j, j < 380 → t.1 174 j = s.1 174 (j + 19)) ∧ Off (fun a j => a == 174 || a == 161 && j == 20) s t := by
      refine wh2_w (Q := fun y => ∃ t, y = some t ∧ t.1 161 20 = iI 20 ∧ (∀ j, j < 380 → t.1 174 j = s.1 174 (j + 19)) ∧ Off (fun a j => a == 174 || a == 161 && j == 20) s t) (fun m y u => ∃ i : Nat, i ≤ 380 ∧ m = 380 - i ∧ y = iI (i : Int) ∧ u.1 161 20 = iI 21 ∧ (∀ j, j < i → u.1 174 j = s.1 174 (j + 19)) ∧ (∀ j, i ≤ j → u.1 174 j = s.1 174 j) ∧ Off (fun a j => a == 174 || a == 161 && j == 20) s u) ?_ 100000 380 _ _ (by omega) ⟨0, by omega, rfl, rfl, by rw [rd_at], fun j hj => by omega, fun j _ => by rw [rd_ne (by decide)], (Off.refl s).set rfl⟩
      rintro m y u ⟨i, h1, rfl, rfl, h2, h3, h4, ho⟩ cc hc
      unfold fM_adds_L21 fM_adds_J59
      by_cases hi : i < 380
      · rw [if_neg (by rw [iI_le (by omega) (by omega) (by omega) (by omega)]; omega), iI_add, chk_in (by omega) (by omega) (by omega), chk_in (by omega) (by omega) (by omega), iI_nat (a := (i : Int) + 19) (by omega) (by omega), iI_natc (by omega), show ((i : Int) + 19).toNat = i + 19 by omega, h4 _ (by omega), iI_add]
        simp only [nmM]
        refine hc (380 - (i + 1)) _ _ (by omega) ⟨i + 1, by omega, rfl, by simp, by rw [rd_ne (by decide)]; exact h2, fun j hj => ?_, fun j hj => ?_, ho.set rfl⟩
        · rw [rd_if]
          by_cases e : j = i
          · subst e; rw [if_pos rfl]
          · rw [if_neg e]; exact h3 j (by omega)
        · rw [rd_of (by omega)]; exact h4 j (by omega)
      · have : i = 380 := by omega
        subst this
        rw [if_pos (by decide), h2]
        simp only [nmM]
        exact ⟨_, rfl, by rw [rd_at, iI_sub]; rfl, fun j hj => by rw [rd_ne (by decide)]; exact h3 j hj, ho.set rfl⟩
    obtain ⟨t, e, t1, t2, o⟩ := main
    refine ⟨t, e, ⟨by rw [t1, hlen, h20]; rfl, fun i hi => ?_⟩, o⟩
    have hS : SnM s (i + 1) (psh pl x)[i] := by
      simp only [e1] at hi ⊢
      by_cases e : i + 1 = pl.length
      · simp at hi
        rw [List.getElem_append_right (by simp; omega)]; simp; rw [e]; exact hx
      · simp at hi
        rw [List.getElem_append_left (by simp; omega)]; simp; exact p2 (i + 1) (by omega)
    rw [hlen] at hi
    refine ⟨fun f hf => ?_, fun f hf => ?_, ?_⟩
    · rw [t2 _ (by omega), show 19 * i + f + 19 = 19 * (i + 1) + f by omega]; exact hS.1 f hf
    · rw [t2 _ (by omega), show 19 * i + 9 + f + 19 = 19 * (i + 1) + 9 + f by omega]; exact hS.2.1 f hf
    · rw [t2 _ (by omega), show 19 * i + 18 + 19 = 19 * (i + 1) + 18 by omega]; exact hS.2.2
theorem psh_ok {x : PI} (h : PaV n pl) (hx : PIok n x) : PaV n (psh pl x) := by
  refine ⟨by rw [psh_len _ _ h.1]; omega, fun y hy => ?_⟩
  unfold psh at hy
  split at hy
  · rcases List.mem_append.mp hy with h1 | h1
    · exact h.2 y h1
    · rw [List.mem_singleton.mp h1]; exact hx
  · rcases List.mem_append.mp hy with h1 | h1
    · exact h.2 y (List.mem_of_mem_tail h1)
    · rw [List.mem_singleton.mp h1]; exact hx
end PA
