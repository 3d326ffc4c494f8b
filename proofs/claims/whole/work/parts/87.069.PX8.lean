section FS
variable {s t : wM} {n : Nat} {T : Nat → Nat → Bool} {S : Nat → Nat → Int} {SP : Nat → Int} {ap bk : Int} {D0 : Dp} {σ : Nat → Nat} {c : Nat}
/-- lawful, or at one farm at least so deep -/
def PP (n : Nat) (T : Nat → Nat → Bool) (ap f z : Int) (u : Dp) : Bool := if f < 0 then decide (ep n T ap u = 0) else decide (z ≤ u f.toNat)
def KSe : Nat → Nat → Bool := fun k j => k == 23 || k == 14 || (k == 13 && j == 8)
theorem K23.se (h : Off K23 s t) : Off KSe s t := h.mono fun k j hk => by simp only [KSe, Bool.or_eq_false_iff] at hk; exact hk.1.1
theorem AH.k23 {D : Nat → Int} (h : AH s n T S SP ap D) (o : Off K23 s t) : AH t n T S SP ap D := AHl.of h (o.mono fun k j hk => by
  by_cases e : k = 23
  · subst e; simp at hk
  · simp [K23, e])
def VT (n : Nat) (D0 D : Dp) : Prop := ∀ j, n ≤ j → D j = D0 j
theorem SF.un {h m : Nat} (hf : SF s n T bk D0 c h m) (o : Off (fun k j => k == 14 || k == 13 && j == 8) s t) (e : t.2 = s.2) : SF t n T bk D0 c h m := by
  obtain ⟨⟨σ, h1⟩, h2⟩ := hf
  exact ⟨⟨σ, h1.of (o _ _ rfl) (o _ _ rfl) (o _ _ rfl) (o.row fun j => rfl) (o.row fun j => rfl) e⟩, ⟨by rw [o 23 8 rfl]; exact h2.1, by rw [o 23 9 rfl]; exact h2.2.1, h2.2.2⟩⟩
theorem Ah_unpackU (hS : Cty n T S) {u D : Dp} (hA : AH s n T S SP ap D) (hV : VT n D0 D) (hu : VS n D0 u) : ∃ t, fAh_unpack s (lNn (wkey u n)) = some t ∧ AH t n T S SP ap u ∧ t.1 13 8 = iI 0 ∧ Off (fun k j => k == 14 || k == 13 && j == 8) s t ∧ t.2 = s.2 := by
  obtain ⟨t, e, h1, h2, h3, h4⟩ := Ah_unpack hS hA hu.bn
  refine ⟨t, e, ?_, h2, h3, h4⟩
  have : tl n u D = u := by
    funext j
    unfold tl
    by_cases e : j < n
    · rw [if_pos e]
    · rw [if_neg e, hV j (by omega), hu.2 j (by omega)]
  rw [this] at h1; exact h1
def FSq (n : Nat) (T : Nat → Nat → Bool) (S : Nat → Nat → Int) (SP : Nat → Int) (ap bk : Int) (D0 : Dp) (f z : Int) (s : wM) (y : Option (Int32 × wM)) : Prop :=
  ∃ t D', AH t n T S SP ap D' ∧ VS n D0 D' ∧ Off KSe s t ∧ ((∃ i c h m : Nat, c ≤ cG n T bk D0 h m ∧ i < c ∧ i < 3000 ∧ y = some (iI (i : Int), t) ∧ (∃ σ, SW t n T bk D0 σ c) ∧ PP n T ap f z (Us n T bk D0 i) = true ∧ ∀ j, j < i → PP n T ap f z (Us n T bk D0 j) = false) ∨ (y = some (iI (-2), t) ∧ ∃ c : Nat, c ≤ 3000 ∧ (∃ h m, c = cG n T bk D0 h m) ∧ (∀ H M, cG n T bk D0 H M ≤ c) ∧ ∀ j, j < c → PP n T ap f z (Us n T bk D0 j) = false) ∨ (y = some (iI (-3), t) ∧ (∃ h m, cG n T bk D0 h m = 3001) ∧ ∀ j, j < 3000 → PP n T ap f z (Us n T bk D0 j) = false))
theorem PT_c {h m : Nat} (hp : PT s n T bk D0 c h m) : ∃ h m, c = cG n T bk D0 h m := by
  rcases hp.2.2.2.2 with e | ⟨_, e⟩
  · exact ⟨h, m, e⟩
  · exact ⟨h, m + 1, e⟩
theorem Se_firstSuch (hS : Cty n T S) (hbk : 1 ≤ bk ∧ bk ≤ 9) (h0 : Bd D0 0 99) (hap : 0 ≤ ap ∧ ap ≤ 9) (hA : AH s n T S SP ap D0) (hp : Prd s n T bk) {f z : Int} (hf : f = -1 ∨ 0 ≤ f ∧ f < n) (hz : 0 ≤ z ∧ z ≤ 99) : FSq n T S SP ap bk D0 f z s (fSe_firstSuch s (iI f) (iI z)) := by
  have hn := hS.1
  obtain ⟨s0, e0, f0, m0, o0⟩ := Se_start hS h0 hp
  unfold fSe_firstSuch
  rw [Ah_pack hS hA (fun j _ => h0 j), Option.bind_some, e0, Option.bind_some]
  -- the end of the search
  have fin : ∀ (u : wM) (c h m : Nat) (D' : Dp), AH u n T S SP ap D' → VS n D0 D' → Off KSe s u → SF u n T bk D0 c h m → ((c = 3000 ∧ u.1 23 10 = iI 0) ∨ (c ≤ h ∧ u.1 23 10 = iI 0) ∨ (c = 3000 ∧ h < 3000 ∧ cG n T bk D0 h (m + 1) = 3001)) → (∀ j, j < c → PP n T ap f z (Us n T bk D0 j) = false) → FSq n T S SP ap bk D0 f z s (fSe_firstSuch_J83 u) := by
    intro u c h m D' hAu hVu hou hfu hcs hall
    have hh3 := hfu.2.2.2.1
    have hc3 : c ≤ 3000 := by obtain ⟨⟨_, hh⟩, _⟩ := hfu; exact hh.1
    unfold fSe_firstSuch_J83 fSe_firstSuch_J105
    obtain ⟨v, h2, m2, ov, hv⟩ := Se_findOne hS hbk h0 (Nat.le_refl 3000) hfu (by omega)
    have hAv := hAu.k23 ov
    have hov := hou.trans (K23.se ov)
    rcases hv with ⟨e1, f1, l1, l2, l3, l4, l5⟩ | ⟨e1, f1, l1, l2⟩ | ⟨e1, l1, l2, f1, l3, l4⟩
    · exfalso
      have hc4 : c + 1 ≤ 3000 := by obtain ⟨⟨_, hh⟩, _⟩ := f1; exact hh.1
      rcases hcs with ⟨h1, _⟩ | ⟨h1, _⟩ | ⟨h1, _⟩
      · omega
      · have := PT_end hfu.2 h1 h2 (m2 + 1); omega
      · omega
    · have hle : c ≤ h2 := by
        rcases l1 with ⟨h1, _⟩ | h1 <;> omega
      have hend := PT_end f1.2 hle
      have hm : u.1 23 10 = iI 0 := by
        rcases hcs with ⟨_, h1⟩ | ⟨_, h1⟩ | ⟨h1, _, h3⟩
        · exact h1
        · exact h1
        · have := hend h (m + 1); omega
      rw [show iI (3000 : Int) = iI ((3000 : Nat) : Int) from rfl, e1, Option.bind_some]
      dsimp only
      rw [l2, hm, if_pos rfl]
      exact ⟨v, D', hAv, hVu, hov, Or.inr (Or.inl ⟨rfl, c, hc3, PT_c f1.2, hend, hall⟩)⟩
    · rw [show iI (3000 : Int) = iI ((3000 : Nat) : Int) from rfl, e1, Option.bind_some]
      dsimp only
      rw [l1, if_neg (by decide)]
      exact ⟨v, D', hAv, hVu, hov, Or.inr (Or.inr ⟨rfl, ⟨h2, m2 + 1, l4⟩, by rw [← l2]; exact hall⟩)⟩
  refine wh2_w (Q := FSq n T S SP ap bk D0 f z s) (fun mm x u => ∃ (i c h m : Nat) (D' : Dp), x = iI (i : Int) ∧ mm = 3000 - i ∧ i ≤ c ∧ AH u n T S SP ap D' ∧ VS n D0 D' ∧ Off KSe s u ∧ SF u n T bk D0 c h m ∧ u.1 23 10 = iI 0 ∧ (∀ j, j < i → PP n T ap f z (Us n T bk D0 j) = false)) ?_ 100000 3000 _ _ (by omega) ⟨0, 1, 0, 0, D0, rfl, rfl, by omega, hA.k23 o0, ⟨h0, fun j _ => rfl⟩, K23.se o0, f0, m0, fun j hj => absurd hj (by omega)⟩
  rintro mm x u ⟨i, c, h, m, D', rfl, rfl, hic, hAu, hVu, hou, hfu, hmu, hall⟩ k hk
  have hh3 := hfu.2.2.2.1
  have hc3 : c ≤ 3000 := by obtain ⟨⟨_, hh⟩, _⟩ := hfu; exact hh.1
  have h1c : u.1 23 1 = iI (c : Int) := by obtain ⟨⟨_, hh⟩, _⟩ := hfu; exact hh.2.1
  have look : ∀ (u : wM) (c h m : Nat), i < c → i < 3000 → AH u n T S SP ap D' → Off KSe s u → SF u n T bk D0 c h m → u.1 23 10 = iI 0 → FSq n T S SP ap bk D0 f z s (fSe_firstSuch_J38 k (iI f) (iI z) (iI (i : Int)) u) := by
    intro u c h m hic hi3 hAu hou hfu hmu
    obtain ⟨hg, mg, hcg⟩ := PT_c hfu.2
    have hvi : VS n D0 (Us n T bk D0 i) := hfu.bn hS hbk.1 h0 i hic
    have hki : u.2 24 i = lNn (wkey (Us n T bk D0 i) n) := by obtain ⟨⟨_, hh⟩, _⟩ := hfu; exact hh.2.2.2.1 i hic
    obtain ⟨v, e1, hAv, _, ov, ov2⟩ := Ah_unpackU hS hAu hVu.2 hvi
    have hfv := hfu.un ov ov2
    have hov : Off KSe s v := hou.trans (ov.mono fun k j hk => by
      simp only [KSe, Bool.or_eq_false_iff] at hk
      simp only [Bool.or_eq_false_iff]; exact ⟨hk.1.2, hk.2⟩)
    have hmv : v.1 23 10 = iI 0 := by rw [ov 23 10 rfl]; exact hmu
    unfold fSe_firstSuch_J38 fSe_firstSuch_J77 fSe_firstSuch_J74
    rw [chk_in (by omega) (by omega) (by omega), iI_natc (by omega), hki, e1, Option.bind_some]
    have yes : PP n T ap f z (Us n T bk D0 i) = true → FSq n T S SP ap bk D0 f z s (some (iI (i : Int), v)) := fun hP => ⟨v, _, hAv, hvi, hov, Or.inl ⟨i, c, hg, mg, by omega, hic, hi3, rfl, hfv.1, hP, hall⟩⟩
    have no : PP n T ap f z (Us n T bk D0 i) = false → FSq n T S SP ap bk D0 f z s (k (iI (i : Int) + iI 1) v) := fun hP => by
      rw [iI_add]
      refine hk (3000 - (i + 1)) _ _ (by omega) ⟨i + 1, c, h, m, _, by simp, rfl, by omega, hAv, hvi, hov, hfv, hmv, fun j hj => ?_⟩
      by_cases e : j = i
      · rw [e]; exact hP
      · exact hall j (by omega)
    by_cases cf : f = -1
    · subst cf
      rw [if_pos rfl, Ah_isLawful hS hAv hvi.1 hap, Option.bind_some]
      simp only [bI_0]
      by_cases ce : ep n T ap (Us n T bk D0 i) = 0
      · rw [if_neg (by simp [ce])]
        exact yes (by unfold PP; simp [ce])
      · rw [if_pos (by simp [ce])]
        exact no (by unfold PP; simp [ce])
    · have hf2 : 0 ≤ f ∧ f < n := by omega
      have hb := hvi.1 f.toNat
      rw [if_neg (by rw [iI_eq (by omega) (by omega) (by omega) (by omega)]; omega), chk_in (by omega) (by omega) (by omega), iI_nat (by omega) (by omega), show v.1 14 = _ from hAv.2.2.2.2.1]
      by_cases ce : z ≤ Us n T bk D0 i f.toNat
      · rw [if_neg (by rw [iI_lt (by omega) (by omega) (by omega) (by omega)]; omega)]
        exact yes (by unfold PP; rw [if_neg (by omega)]; simp [ce])
      · rw [if_pos (by rw [iI_lt (by omega) (by omega) (by omega) (by omega)]; omega)]
        exact no (by unfold PP; rw [if_neg (by omega)]; simp [ce])
  unfold fSe_firstSuch_L11
  by_cases c1 : 3000 ≤ i
  · rw [if_pos (by rw [iI_le (by omega) (by omega) (by omega) (by omega)]; omega)]
    exact fin u c h m D' hAu hVu hou hfu (Or.inl ⟨by omega, hmu⟩) (fun j hj => hall j (by omega))
  · rw [if_neg (by rw [iI_le (by omega) (by omega) (by omega) (by omega)]; omega), h1c]
    by_cases c2 : i < c
    · rw [if_pos (by rw [iI_lt (by omega) (by omega) (by omega) (by omega)]; omega)]
      exact look u c h m c2 (by omega) hAu hou hfu hmu
    · rw [if_neg (by rw [iI_lt (by omega) (by omega) (by omega) (by omega)]; omega)]
      have hic' : i = c := by omega
      subst hic'
      obtain ⟨v, h2, m2, ov, hv⟩ := Se_findOne hS hbk h0 (Nat.le_refl 3000) hfu (by omega)
      have hAv := hAu.k23 ov
      have hov := hou.trans (K23.se ov)
      rcases hv with ⟨e1, f1, l1, l2, l3, l4, l5⟩ | ⟨e1, f1, l1, l2⟩ | ⟨e1, l1, l2, f1, l3, l4⟩
      · rw [show iI (3000 : Int) = iI ((3000 : Nat) : Int) from rfl, e1, Option.bind_some]
        dsimp only
        rw [if_neg (by decide)]
        exact look v (i + 1) h2 m2 (by omega) (by omega) hAv hov f1 l5
      · rw [show iI (3000 : Int) = iI ((3000 : Nat) : Int) from rfl, e1, Option.bind_some]
        dsimp only
        rw [if_pos rfl]
        exact fin v i h2 m2 D' hAv hVu hov f1 (Or.inr (Or.inl ⟨by rcases l1 with ⟨h1, _⟩ | h1 <;> omega, by rw [l2]; exact hmu⟩)) hall
      · omega
end FS
