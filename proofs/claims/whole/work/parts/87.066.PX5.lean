section SY
variable {s t : wM} {n : Nat} {T : Nat → Nat → Bool} {S : Nat → Nat → Int} {bk : Int} {D0 : Dp} {σ : Nat → Nat} {c : Nat}
theorem nmM_e {ρ : Type} (e : wM) (k : wM → Option ρ) : nmM e k = k e := rfl
/-- where the search is: head h, move m -/
def PT (s : wM) (n : Nat) (T : Nat → Nat → Bool) (bk : Int) (D0 : Dp) (c h m : Nat) : Prop := s.1 23 8 = iI (h : Int) ∧ s.1 23 9 = iI (m : Int) ∧ h ≤ 3000 ∧ m ≤ (mvs n T).length ∧ (c = cG n T bk D0 h m ∨ m < (mvs n T).length ∧ c = cG n T bk D0 h (m + 1))
def SF (s : wM) (n : Nat) (T : Nat → Nat → Bool) (bk : Int) (D0 : Dp) (c h m : Nat) : Prop := (∃ σ, SW s n T bk D0 σ c) ∧ PT s n T bk D0 c h m
theorem SF.bn (hS : Cty n T S) (hb : 1 ≤ bk) (h0 : Bd D0 0 99) {h m : Nat} (hf : SF s n T bk D0 c h m) : ∀ i, i < c → VS n D0 (Us n T bk D0 i) := fun i hi => by
  rcases hf.2.2.2.2.2 with e | ⟨_, e⟩
  · rw [e] at hi; exact (U_ok hS (by omega) h0 _ _).1 i hi
  · rw [e] at hi; exact (U_ok hS (by omega) h0 _ _).1 i hi
theorem Se_start (hS : Cty n T S) (h0 : Bd D0 0 99) (hp : Prd s n T bk) : ∃ t, fSe_start s (lNn (wkey D0 n)) = some t ∧ SF t n T bk D0 1 0 0 ∧ t.1 23 10 = iI 0 ∧ Off K23 s t := by
  have hn := hS.1
  unfold fSe_start
  rw [nmM_e, nmM_e, nmM_e, nmM_e, nmM_e]
  have h : SW (wsI (wsI (wsI (wsI (wFillL s 25 2048 0) 23 1 (iI 0)) 23 8 (iI 0)) 23 9 (iI 0)) 23 10 (iI 0)) n T bk D0 (fun _ => 0) 0 := by
    refine ⟨by omega, ?_, ?_, fun i hi => absurd hi (by omega), fun q hq => ?_, HT_0⟩
    · rw [rd_of (by decide), rd_of (by decide), rd_of (by decide), rd_at]; rfl
    · exact hp.of (by rw [rd_of (by decide), rd_of (by decide), rd_of (by decide), rd_of (by decide)]; rfl) (by rw [rd_of (by decide), rd_of (by decide), rd_of (by decide), rd_of (by decide)]; rfl) (by rw [rd_ne (by decide), rd_ne (by decide), rd_ne (by decide), rd_ne (by decide)]; rfl) (by rw [rd_ne (by decide), rd_ne (by decide), rd_ne (by decide), rd_ne (by decide)]; rfl)
    · rw [rd_2, rd_2, rd_2, rd_2]
      show (if 25 = 25 ∧ q < 2048 then (0 : Int64) else s.2 25 q) = _
      rw [if_pos ⟨rfl, hq⟩, show q4 (fun _ => 0) q = 0 by simp [q4]]; rfl
  obtain ⟨t, σ', e, h', o⟩ := Se_add hn (fun i hi => absurd hi (by omega)) h (by omega) (fun j _ => h0 j) (fun i hi => absurd hi (by omega))
  rw [U_0] at e
  rw [e, Option.bind_some]
  refine ⟨t, rfl, ⟨⟨σ', h'⟩, ⟨?_, ?_, by omega, by omega, Or.inl ?_⟩⟩, ?_, ?_⟩
  · rw [o 23 8 rfl, rd_of (by decide), rd_of (by decide), rd_at]; rfl
  · rw [o 23 9 rfl, rd_of (by decide), rd_at]; rfl
  · rw [cG_0]; rfl
  · rw [o 23 10 rfl, rd_at]
  · refine Off.trans (((((Off.refl s).filL).set rfl).set rfl).set rfl |>.set rfl) (o.mono fun k j hk => ?_)
    simp only [K23] at hk
    rw [hk]; rfl
theorem lgm1 {b : Bool} {x : Nat} (hx : x < 9223372036854775808) : (lg_cmp (if b = true then lNn x else -1) (-1) = iI 0) = (b = false) := by
  cases b
  · simp only [Bool.false_eq_true, if_false, lg_m1']
  · simp only [if_true, lg_m1 hx, Bool.true_eq_false]
/-- what one more finding brings -/
def FO (n : Nat) (T : Nat → Nat → Bool) (bk : Int) (D0 : Dp) (X c : Nat) (s : wM) (y : Option (Int32 × wM)) : Prop :=
  ∃ t h m, Off K23 s t ∧ ((y = some (iI 1, t) ∧ SF t n T bk D0 (c + 1) h m ∧ h < X ∧ m < (mvs n T).length ∧ c = cG n T bk D0 h m ∧ c + 1 = cG n T bk D0 h (m + 1) ∧ t.1 23 10 = iI 0) ∨ (y = some (iI 0, t) ∧ SF t n T bk D0 c h m ∧ (h = X ∧ m = 0 ∧ c = cG n T bk D0 h 0 ∨ c ≤ h) ∧ t.1 23 10 = s.1 23 10) ∨ (y = some (iI 0, t) ∧ t.1 23 10 = iI 1 ∧ c = 3000 ∧ SF t n T bk D0 c h m ∧ h < X ∧ cG n T bk D0 h (m + 1) = 3001))
theorem PT_z {h m : Nat} (hp : PT s n T bk D0 c h m) (hm : m < (mvs n T).length) (hh : h < c) : (cc T bk (Us n T bk D0 h) (mvs n T)[m].1 (mvs n T)[m].2 = false ∧ c = cG n T bk D0 h (m + 1)) ∨ (cc T bk (Us n T bk D0 h) (mvs n T)[m].1 (mvs n T)[m].2 = true ∧ (∃ i, i < c ∧ wkey (Us n T bk D0 i) n = wkey (mv bk (Us n T bk D0 h) (mvs n T)[m].1 (mvs n T)[m].2) n) ∧ c = cG n T bk D0 h (m + 1)) ∨ (cc T bk (Us n T bk D0 h) (mvs n T)[m].1 (mvs n T)[m].2 = true ∧ (∀ i, i < c → wkey (Us n T bk D0 i) n ≠ wkey (mv bk (Us n T bk D0 h) (mvs n T)[m].1 (mvs n T)[m].2) n) ∧ c = cG n T bk D0 h m ∧ cG n T bk D0 h (m + 1) = c + 1 ∧ Us n T bk D0 c = mv bk (Us n T bk D0 h) (mvs n T)[m].1 (mvs n T)[m].2) := by
  have hmono : cG n T bk D0 h m ≤ cG n T bk D0 h (m + 1) := cG_mono (by omega)
  have hh' : h < cG n T bk D0 h m := by
    by_cases e : h < cG n T bk D0 h m
    · exact e
    · have := cG_idle (n := n) (T := T) (bk := bk) (D0 := D0) (h := h) (m := m) (m' := m + 1) (by omega) (by omega)
      rcases hp.2.2.2.2 with e | ⟨_, e⟩ <;> omega
  rcases hp.2.2.2.2 with e | ⟨_, e⟩
  · rcases cG_s hm hh' with ⟨k1, k2⟩ | ⟨k1, k2, k3⟩ | ⟨k1, k2, k3, k4⟩
    · exact Or.inl ⟨k1, by omega⟩
    · exact Or.inr (Or.inl ⟨k1, by rw [e]; exact k2, by omega⟩)
    · exact Or.inr (Or.inr ⟨k1, by rw [e]; exact k2, e, by omega, by rw [e]; exact k4⟩)
  · rcases cG_s hm hh' with ⟨k1, k2⟩ | ⟨k1, ⟨i, k2, k2'⟩, k3⟩ | ⟨k1, k2, k3, k4⟩
    · exact Or.inl ⟨k1, e⟩
    · exact Or.inr (Or.inl ⟨k1, ⟨i, by omega, k2'⟩, e⟩)
    · exact Or.inr (Or.inl ⟨k1, ⟨cG n T bk D0 h m, by omega, by rw [k4]⟩, e⟩)
theorem SF.mv' {h m h' m' : Nat} {v w : Int32} (hf : SF s n T bk D0 c h m) (e8 : v = iI (h' : Int)) (e9 : w = iI (m' : Int)) (hh : h' ≤ 3000) (hm : m' ≤ (mvs n T).length) (hc : c = cG n T bk D0 h' m') : SF (wsI (wsI s 23 9 w) 23 8 v) n T bk D0 c h' m' := by
  obtain ⟨⟨σ, h1⟩, h2⟩ := hf
  refine ⟨⟨σ, h1.of (by rw [rd_of (by decide), rd_of (by decide)]) (by rw [rd_of (by decide), rd_of (by decide)]) (by rw [rd_of (by decide), rd_of (by decide)]) (by rw [rd_ne (by decide), rd_ne (by decide)]) (by rw [rd_ne (by decide), rd_ne (by decide)]) rfl⟩, ⟨by rw [rd_at, e8], by rw [rd_of (by decide), rd_at, e9], hh, hm, Or.inl hc⟩⟩
theorem SF.m1 {h m m' : Nat} {w : Int32} (hf : SF s n T bk D0 c h m) (e9 : w = iI (m' : Int)) (hm : m' ≤ (mvs n T).length) (hc : c = cG n T bk D0 h m') : SF (wsI s 23 9 w) n T bk D0 c h m' := by
  obtain ⟨⟨σ, h1⟩, h2⟩ := hf
  exact ⟨⟨σ, h1.of (rd_of (by decide)) (rd_of (by decide)) (rd_of (by decide)) (rd_ne (by decide)) (rd_ne (by decide)) rfl⟩, ⟨by rw [rd_of (by decide)]; exact h2.1, by rw [rd_at, e9], h2.2.2.1, hm, Or.inl hc⟩⟩
theorem SF.s3 {h m : Nat} {v : Int32} (hf : SF s n T bk D0 c h m) : SF (wsI s 23 3 v) n T bk D0 c h m := by
  obtain ⟨⟨σ, h1⟩, h2⟩ := hf
  exact ⟨⟨σ, h1.s3⟩, ⟨by rw [rd_of (by decide)]; exact h2.1, by rw [rd_of (by decide)]; exact h2.2.1, h2.2.2⟩⟩
theorem Se_findOne (hS : Cty n T S) (hbk : 1 ≤ bk ∧ bk ≤ 9) (h0 : Bd D0 0 99) {X h m : Nat} (hX : X ≤ 3000) (hf : SF s n T bk D0 c h m) (hpre : h < X ∨ (h = X ∧ m = 0 ∧ c = cG n T bk D0 h 0) ∨ c ≤ h) : FO n T bk D0 X c s (fSe_findOne s (iI (X : Int))) := by
  have hn := hS.1
  have hl := mvs_len hS
  unfold fSe_findOne
  refine wh1_w (Q := FO n T bk D0 X c s) (fun q t => ∃ h m, SF t n T bk D0 c h m ∧ Off K23 s t ∧ t.1 23 10 = s.1 23 10 ∧ (h < X ∨ (h = X ∧ m = 0 ∧ c = cG n T bk D0 h 0) ∨ c ≤ h) ∧ q = 3000 - h) ?_ 100000 (3000 - h) _ (by omega) ⟨h, m, hf, Off.refl s, rfl, hpre, rfl⟩
  clear hf hpre h m
  rintro q t ⟨h, m, hf, ho, hmo, hpre, rfl⟩ k hk
  unfold fSe_findOne_L0 fSe_findOne_J136
  have hh := hf.2.2.2.1
  have hvs := hf.bn hS hbk.1 h0
  have hc : c ≤ 3000 := by obtain ⟨⟨σ, h1⟩, _⟩ := hf; exact h1.1
  have h1c : t.1 23 1 = iI (c : Int) := by obtain ⟨⟨σ, h1⟩, _⟩ := hf; exact h1.2.1
  rw [hf.2.1, h1c]
  by_cases c1 : X ≤ h
  · rw [if_pos (by rw [iI_le (by omega) (by omega) (by omega) (by omega)]; omega)]
    exact ⟨t, h, m, ho, Or.inr (Or.inl ⟨rfl, hf, by omega, hmo⟩)⟩
  rw [if_neg (by rw [iI_le (by omega) (by omega) (by omega) (by omega)]; omega)]
  by_cases c2 : c ≤ h
  · rw [if_pos (by rw [iI_le (by omega) (by omega) (by omega) (by omega)]; omega)]
    exact ⟨t, h, m, ho, Or.inr (Or.inl ⟨rfl, hf, Or.inr c2, hmo⟩)⟩
  rw [if_neg (by rw [iI_le (by omega) (by omega) (by omega) (by omega)]; omega)]
  refine wh1_w (Q := FO n T bk D0 X c s) (fun q t => ∃ m, SF t n T bk D0 c h m ∧ Off K23 s t ∧ t.1 23 10 = s.1 23 10 ∧ q = 72 - m) ?_ 100000 (72 - m) _ (by omega) ⟨m, hf, ho, hmo, rfl⟩
  clear hf ho hmo hpre h1c m t
  rintro q t ⟨m, hf, ho, hmo, rfl⟩ k' hk'
  have hm := hf.2.2.2.2.1
  obtain ⟨σ, hw⟩ := hf.1
  obtain ⟨p1, p2, p3⟩ := hw.2.2.1
  have h1c := hw.2.1
  unfold fSe_findOne_L19
  rw [hf.2.2.1, p1, hf.2.1]
  by_cases c3 : m < (mvs n T).length
  · have hz := PT_z hf.2 c3 (by omega)
    rw [if_neg (by rw [iI_le (by omega) (by omega) (by omega) (by omega)]; omega), chk_in (by omega) (by omega) (by omega), iI_natc (by omega), hw.2.2.2.1 h (by omega), Se_carried hS (by omega) hw.2.2.1 (hvs h (by omega)) c3, Option.bind_some]
    generalize hτ : mv bk (Us n T bk D0 h) (mvs n T)[m].1 (mvs n T)[m].2 = τ at hz ⊢
    have hτv : cc T bk (Us n T bk D0 h) (mvs n T)[m].1 (mvs n T)[m].2 = true → VS n D0 τ := fun hcc => by rw [← hτ]; exact (hvs h (by omega)).mvd hS (by omega) hcc
    generalize cc T bk (Us n T bk D0 h) (mvs n T)[m].1 (mvs n T)[m].2 = b at hz hτv ⊢
    have next : ∀ u, SF u n T bk D0 c h m → Off K23 s u → u.1 23 10 = s.1 23 10 → c = cG n T bk D0 h (m + 1) → FO n T bk D0 X c s (fSe_findOne_J105 k k' (iI (X : Int)) u) := fun u hu hou hmu hcu => by
      unfold fSe_findOne_J105
      rw [nmM_e, hu.2.2.1, iI_add]
      exact hk' (72 - (m + 1)) _ (by omega) ⟨m + 1, hu.m1 (by simp) (by omega) hcu, hou.set rfl, (rd_of (by decide)).trans hmu, rfl⟩
    cases b with
    | false =>
      rw [if_pos (by simp [lg_m1'])]
      rcases hz with ⟨_, hz⟩ | ⟨hz, _⟩ | ⟨hz, _⟩
      · exact next t hf ho hmo hz
      · cases hz
      · cases hz
    | true =>
      have h63 := wkey_63 hn (hτv rfl).bn
      simp only [if_true]
      rw [if_neg (lg_m1 h63)]
      obtain ⟨v, ⟨i, hi, he, e3⟩ | ⟨hne, e3, _⟩⟩ := Se_indexOf hn (fun i hi => (hvs i hi).bn) hw h63
      · rw [e3, Option.bind_some]
        dsimp only
        rw [if_neg (by rw [iI_eq (by omega) (by omega) (by omega) (by omega)]; omega)]
        refine next _ hf.s3 (ho.set rfl) ((rd_of (by decide)).trans hmo) ?_
        rcases hz with ⟨hz, _⟩ | ⟨_, _, hz⟩ | ⟨_, hz, _⟩
        · cases hz
        · exact hz
        · exact absurd he (hz i hi)
      · rw [e3, Option.bind_some]
        dsimp only
        rw [if_pos rfl, rd_of (by decide), h1c]
        rcases hz with ⟨hz, _⟩ | ⟨_, ⟨i, hi, he⟩, _⟩ | ⟨_, _, hz1, hz2, hz3⟩
        · cases hz
        · exact absurd he (hne i hi)
        · by_cases c4 : c = 3000
          · rw [if_pos (by rw [c4]; rfl)]
            unfold fSe_findOne_J81 fSe_findOne_J103 fSe_findOne_J104
            rw [chkZ_1, nmM_e, rd_at, if_neg (by decide), chkZ_0]
            refine ⟨_, h, m, (ho.set rfl).set rfl, Or.inr (Or.inr ⟨rfl, rd_at, c4, ⟨⟨σ, hw.s3.of (rd_of (by decide)) (rd_of (by decide)) (rd_of (by decide)) (rd_ne (by decide)) (rd_ne (by decide)) rfl⟩, ⟨by rw [rd_of (by decide), rd_of (by decide)]; exact hf.2.1, by rw [rd_of (by decide), rd_of (by decide)]; exact hf.2.2.1, hf.2.2.2⟩⟩, by omega, by omega⟩)⟩
          · rw [if_neg (by rw [iI_eq (by omega) (by omega) (by omega) (by omega)]; omega)]
            unfold fSe_findOne_J81 fSe_findOne_J104
            rw [chkZ_0, nmM_e, rd_at, if_pos rfl]
            have hw' : SW (wsI (wsI t 23 3 v) 23 10 (iI 0)) n T bk D0 σ c := hw.s3.of (rd_of (by decide)) (rd_of (by decide)) (rd_of (by decide)) (rd_ne (by decide)) (rd_ne (by decide)) rfl
            obtain ⟨u, σ', e5, hu, ou⟩ := Se_add hn (fun i hi => (hvs i hi).bn) hw' (by omega) (by rw [hz3]; exact (hτv rfl).bn) (by rw [hz3]; exact hne)
            rw [hz3] at e5
            rw [e5, Option.bind_some]
            dsimp only
            rw [if_neg (by decide), chkZ_1]
            refine ⟨u, h, m, Off.trans ((ho.set rfl).set rfl) (ou.mono fun k j hk => by simp only [K23] at hk; rw [hk]; rfl), Or.inl ⟨rfl, ⟨⟨σ', hu⟩, ⟨?_, ?_, hh, hm, Or.inr ⟨c3, hz2.symm⟩⟩⟩, by omega, c3, hz1, hz2.symm, ?_⟩⟩
            · rw [ou 23 8 rfl, rd_of (by decide), rd_of (by decide)]; exact hf.2.1
            · rw [ou 23 9 rfl, rd_of (by decide), rd_of (by decide)]; exact hf.2.2.1
            · rw [ou 23 10 rfl, rd_at]
  · have hml : m = (mvs n T).length := by omega
    have hcc : c = cG n T bk D0 (h + 1) 0 := by
      rcases hf.2.2.2.2.2 with e | ⟨e, _⟩
      · rw [e, cG_M (by omega)]
      · omega
    rw [if_pos (by rw [iI_le (by omega) (by omega) (by omega) (by omega)]; omega), nmM_e, rd_of (by decide), hf.2.1, iI_add, nmM_e]
    exact hk (3000 - (h + 1)) _ (by omega) ⟨h + 1, 0, hf.mv' (by simp) rfl (by omega) (by omega) hcc, (ho.set rfl).set rfl, by rw [rd_of (by decide), rd_of (by decide)]; exact hmo, by omega, rfl⟩
end SY
