/-! county: the reference takes over what it has read; the class goes through its lines -/
section EN
variable {s t : wM} {n n' : Nat} {T T' : Nat → Nat → Bool} {S S' : Nat → Nat → Int} {D SP D' SP' : Nat → Int} {ap fi bk : Int} {G : Nat → Int32} {w : Int32} {pl pl' : List PI} {kp : Nat → KI} {tx : List Nat} {se : List (Nat × Nat)} {x1 x2 : Int32} {w0 w1 : Lnd} {g : Nat → Ln} {k : Nat}
def Kz : Nat → Nat → Bool := fun k _ => k == 163 || k == 164 || k == 165 || k == 167
theorem row_z {A B : Nat → Int32} {n0 i j : Nat} : (if j = i then (if n0 ≤ i then A i else B i) else if n0 ≤ j ∧ j < i then A j else B j) = if n0 ≤ j ∧ j < i + 1 then A j else B j := by
  by_cases h1 : j = i
  · subst h1
    by_cases h2 : n0 ≤ j
    · rw [if_pos rfl, if_pos h2, if_pos ⟨h2, by omega⟩]
    · rw [if_pos rfl, if_neg h2, if_neg (fun h => h2 h.1)]
  · rw [if_neg h1]
    by_cases h2 : n0 ≤ j ∧ j < i
    · rw [if_pos h2, if_pos (by omega)]
    · rw [if_neg h2, if_neg (by omega)]
def EZ (s : wM) (n0 i : Nat) (t : wM) : Prop := (∀ j, t.1 163 j = if n0 ≤ j ∧ j < i then s.1 170 j else s.1 163 j) ∧ (∀ j, t.1 164 j = if n0 ≤ j ∧ j < i then s.1 171 j else s.1 164 j) ∧ (∀ j, t.1 167 j = if n0 ≤ j ∧ j < i then iI 0 else s.1 167 j) ∧ (∀ j, t.1 165 j = if j < i then s.1 172 j else s.1 165 j) ∧ Off Kz s t
theorem EZ.step {n0 i : Nat} {u : wM} {a b c d : Int32} (h : EZ s n0 i u) (ha : a = if n0 ≤ i then s.1 170 i else s.1 163 i) (hb : b = if n0 ≤ i then s.1 171 i else s.1 164 i) (hc : c = if n0 ≤ i then iI 0 else s.1 167 i) (hd : d = s.1 172 i) : EZ s n0 (i + 1) (wsI (wsI (wsI (wsI u 163 i a) 164 i b) 167 i c) 165 i d) := by
  obtain ⟨h1, h2, h3, h4, h5⟩ := h
  refine ⟨fun j => ?_, fun j => ?_, fun j => ?_, fun j => ?_, (((h5.set rfl).set rfl).set rfl).set rfl⟩
  · rw [rd_ne (by decide), rd_ne (by decide), rd_ne (by decide), rd_if, ha, h1 j]; exact row_z (A := s.1 170) (B := s.1 163)
  · rw [rd_ne (by decide), rd_ne (by decide), rd_if, rd_ne (by decide), hb, h2 j]; exact row_z (A := s.1 171) (B := s.1 164)
  · rw [rd_ne (by decide), rd_if, rd_ne (by decide), rd_ne (by decide), hc, h3 j]; exact row_z (A := fun _ => iI 0) (B := s.1 167)
  · rw [rd_if, rd_ne (by decide), rd_ne (by decide), rd_ne (by decide), hd, h4 j]; exact row_c (A := s.1 172) (B := s.1 165)
theorem M_L186 {n0 n1 : Nat} (h15 : s.1 161 15 = iI (n1 : Int)) (h3 : s.1 161 3 = iI (n0 : Int)) (h9 : n1 ≤ 9) (h90 : n0 ≤ 9) : ∃ t, wh2 (fM_county_L186 x1 x2) 100000 (iI 0) s = wh2 (fM_county_L311 x1 x2) 100000 (iI 0) t ∧ EZ s n0 n1 t := by
  refine wh2_w (Q := fun x => ∃ t, x = wh2 (fM_county_L311 x1 x2) 100000 (iI 0) t ∧ EZ s n0 n1 t) (fun m x u => ∃ i : Nat, i ≤ n1 ∧ m = n1 - i ∧ x = iI (i : Int) ∧ EZ s n0 i u) ?_ 100000 n1 _ s (by omega) ⟨0, by omega, rfl, rfl, fun j => by rw [if_neg (by omega)], fun j => by rw [if_neg (by omega)], fun j => by rw [if_neg (by omega)], fun j => by rw [if_neg (by omega)], Off.refl s⟩
  rintro m x u ⟨i, h1, rfl, rfl, hu⟩ k hk
  have o := hu.2.2.2.2
  have u15 : u.1 161 15 = iI (n1 : Int) := by rw [o 161 15 rfl]; exact h15
  have u3 : u.1 161 3 = iI (n0 : Int) := by rw [o 161 3 rfl]; exact h3
  unfold fM_county_L186 fM_county_J227 fM_county_J260 fM_county_J287
  by_cases c1 : i < n1
  · have fin : ∀ a b c d, (a = if n0 ≤ i then s.1 170 i else s.1 163 i) → (b = if n0 ≤ i then s.1 171 i else s.1 164 i) → (c = if n0 ≤ i then iI 0 else s.1 167 i) → d = s.1 172 i → ∃ t, k (iI ((i : Int) + 1)) (wsI (wsI (wsI (wsI u 163 i a) 164 i b) 167 i c) 165 i d) = wh2 (fM_county_L311 x1 x2) 100000 (iI 0) t ∧ EZ s n0 n1 t := fun a b c d ha hb hc hd => hk (n1 - (i + 1)) _ _ (by omega) ⟨i + 1, by omega, rfl, by simp, hu.step ha hb hc hd⟩
    rw [u15, if_neg (by rw [iI_le (by omega) (by omega) (by omega) (by omega)]; omega), u3]
    by_cases c2 : n0 ≤ i
    · rw [if_pos (by rw [iI_le (by omega) (by omega) (by omega) (by omega)]; omega), chk_in (by omega) (by omega) (by omega), iI_natc (by omega), chk_in (by omega) (by omega) (by omega), nmM_e, rd_ne (show (161 : Nat) ≠ 163 by decide), u3, if_pos (by rw [iI_le (by omega) (by omega) (by omega) (by omega)]; omega), chk_in (by omega) (by omega) (by omega), chk_in (by omega) (by omega) (by omega), nmM_e, rd_ne (show (161 : Nat) ≠ 164 by decide), rd_ne (show (161 : Nat) ≠ 163 by decide), u3, if_pos (by rw [iI_le (by omega) (by omega) (by omega) (by omega)]; omega), chk_in (by omega) (by omega) (by omega), nmM_e, chk_in (by omega) (by omega) (by omega), nmM_e, iI_add]
      refine fin _ _ _ _ ?_ ?_ ?_ ?_
      · rw [if_pos c2, o 170 i rfl]
      · rw [if_pos c2, rd_ne (by decide), o 171 i rfl]
      · rw [if_pos c2]
      · rw [rd_ne (by decide), rd_ne (by decide), rd_ne (by decide), o 172 i rfl]
    · rw [if_neg (by rw [iI_le (by omega) (by omega) (by omega) (by omega)]; omega), chk_in (by omega) (by omega) (by omega), iI_natc (by omega), chk_in (by omega) (by omega) (by omega), nmM_e, rd_ne (show (161 : Nat) ≠ 163 by decide), u3, if_neg (by rw [iI_le (by omega) (by omega) (by omega) (by omega)]; omega), chk_in (by omega) (by omega) (by omega), chk_in (by omega) (by omega) (by omega), nmM_e, rd_ne (show (161 : Nat) ≠ 164 by decide), rd_ne (show (161 : Nat) ≠ 163 by decide), u3, if_neg (by rw [iI_le (by omega) (by omega) (by omega) (by omega)]; omega), chk_in (by omega) (by omega) (by omega), chk_in (by omega) (by omega) (by omega), nmM_e, chk_in (by omega) (by omega) (by omega), nmM_e, iI_add]
      refine fin _ _ _ _ ?_ ?_ ?_ ?_
      · rw [if_neg c2, hu.1 i, if_neg (by omega)]
      · rw [if_neg c2, rd_ne (by decide), hu.2.1 i, if_neg (by omega)]
      · rw [if_neg c2, rd_ne (by decide), rd_ne (by decide), hu.2.2.1 i, if_neg (by omega)]
      · rw [rd_ne (by decide), rd_ne (by decide), rd_ne (by decide), o 172 i rfl]
  · have : i = n1 := by omega
    subst this
    rw [u15, if_pos (by rw [iI_le (by omega) (by omega) (by omega) (by omega)]; omega)]
    exact ⟨u, rfl, hu⟩
theorem M_L311 {z : Nat} (hz : z ≤ 80) : wh2 (fM_county_L311 (iI (z : Int)) x2) 100000 (iI 0) s = some (x2, wsI (wsI (wRo s 166 (fun j => if j < 81 then s.1 173 j else s.1 166 j)) 161 3 (s.1 161 15)) 161 20 (if z = 0 then s.1 161 20 else iI 0)) := by
  have e0 : s = wRo s 166 (fun j => if j < 0 then s.1 173 j else s.1 166 j) := (wR_id (by funext j; simp)).symm
  conv => lhs; arg 4; rw [e0]
  refine for2b (fun i => wRo s 166 (fun j => if j < i then s.1 173 j else s.1 166 j)) (i0 := 0) (n := 81) (Nat.zero_le _) (by omega) (fun i _ hi c => ?_) (fun c => ?_)
  · unfold fM_county_L311
    rw [if_neg (by rw [iI_le (by omega) (by omega) (by omega) (by omega)]; omega), chk_in (by omega) (by omega) (by omega), iI_natc (by omega), nmM_e, iI_add, wR_ne (show (173 : Nat) ≠ 166 by decide), wsI_Rr]
    congr 2; funext x
    exact row_c
  · unfold fM_county_L311 fM_county_J359
    rw [if_pos (by decide), nmM_e, rd_of (show (20 : Nat) ≠ 3 by decide), wR_ne (show (161 : Nat) ≠ 166 by decide)]
    by_cases c0 : z = 0
    · rw [if_pos (by rw [iI_le (by omega) (by omega) (by omega) (by omega)]; omega), nmM_e, if_pos c0]
    · rw [if_neg (by rw [iI_le (by omega) (by omega) (by omega) (by omega)]; omega), nmM_e, if_neg c0]
def Ke : Nat → Nat → Bool := fun k j => (decide (163 ≤ k) && decide (k ≤ 167)) || (k == 161 && (j == 3 || j == 20))
theorem Ke_f {k j : Nat} (h : ¬ ((163 ≤ k ∧ k ≤ 167) ∨ (k = 161 ∧ (j = 3 ∨ j = 20)))) : Ke k j = false := by
  simp only [Ke, Bool.or_eq_false_iff, Bool.and_eq_false_iff, decide_eq_false_iff_not, beq_eq_false_iff_ne]; omega
theorem M_ctyEnd {z : Nat} (hz : z ≤ 80) (hv : CV n T S D SP ap fi bk) (hm : CM s n T S D SP ap fi bk) (hG : ∀ j, n ≤ j → s.1 167 j = iI 0) (hw : WCo s n w1) (h1 : LV w1) (hn1 : n ≤ w1.1) (hk : ∀ j, j < n ∨ w1.1 ≤ j → w1.2.2.2.1 j = D j ∧ w1.2.2.2.2 j = SP j) : ∃ t, wh2 (fM_county_L186 (iI (z : Int)) x2) 100000 (iI 0) s = some (x2, t) ∧ CM t w1.1 w1.2.1 w1.2.2.1 w1.2.2.2.1 w1.2.2.2.2 ap fi bk ∧ t.1 167 = s.1 167 ∧ t.1 161 20 = (if z = 0 then s.1 161 20 else iI 0) ∧ Off Ke s t := by
  obtain ⟨u, e, u1, u2, u3, u4, ou⟩ := M_L186 (x1 := iI (z : Int)) (x2 := x2) hw.1 hm.1.1 h1.1.1 hv.1.1
  rw [e, M_L311 hz]
  refine ⟨_, rfl, ⟨⟨?_, fun a ha => ?_, fun a b ha hb hT => ?_⟩, ?_, ?_, ?_, ?_, ?_, fun j hj => ?_⟩, ?_, ?_, ?_⟩
  · rw [rd_of (by decide), rd_at, ou 161 15 rfl]; exact hw.1
  · rw [rd_ne (by decide), rd_ne (by decide), wR_ne (by decide), u4 a]
    by_cases c : a < w1.1
    · rw [if_pos c]; exact hw.2.1 a c
    · have e9 : bt (T a) 9 = bt (w1.2.1 a) 9 := bt_congr fun j _ => by
        have z1 : T a j = false := by
          cases h : T a j with
          | false => rfl
          | true => have := hv.1.2.2.1 a j h; omega
        have z2 : w1.2.1 a j = false := by
          cases h : w1.2.1 a j with
          | false => rfl
          | true => have := h1.1.2.2.1 a j h; omega
        rw [z1, z2]
      rw [if_neg c, hm.1.2.1 a ha, e9]
  · rw [rd_ne (by decide), rd_ne (by decide), wRo_at, if_pos (by omega), ou 173 _ rfl]; exact hw.2.2.1 a b ha hb hT
  · show _ = _
    rw [rd_ne (by decide), rd_ne (by decide), wR_ne (by decide)]
    funext j
    rw [u1 j]
    by_cases c : n ≤ j ∧ j < w1.1
    · rw [if_pos c]; exact (hw.2.2.2 j c.1 c.2).1
    · rw [if_neg c, (hk j (by omega)).1, show s.1 163 = _ from hm.2.1]
  · show _ = _
    rw [rd_ne (by decide), rd_ne (by decide), wR_ne (by decide)]
    funext j
    rw [u2 j]
    by_cases c : n ≤ j ∧ j < w1.1
    · rw [if_pos c]; exact (hw.2.2.2 j c.1 c.2).2
    · rw [if_neg c, (hk j (by omega)).2, show s.1 164 = _ from hm.2.2.1]
  · rw [rd_ne (by decide), rd_ne (by decide), wR_ne (by decide), ou 168 0 rfl]; exact hm.2.2.2.1
  · rw [rd_ne (by decide), rd_ne (by decide), wR_ne (by decide), ou 168 1 rfl]; exact hm.2.2.2.2.1
  · rw [rd_ne (by decide), rd_ne (by decide), wR_ne (by decide), ou 168 2 rfl]; exact hm.2.2.2.2.2.1
  · rw [rd_ne (by decide), rd_ne (by decide), rd_ne (by decide), rd_ne (by decide), wR_ne (by decide), wR_ne (by decide), ou 184 j rfl, ou 187 j rfl]; exact hm.2.2.2.2.2.2 j hj
  · rw [rd_ne (by decide), rd_ne (by decide), wR_ne (by decide)]
    funext j
    rw [u3 j]
    by_cases c : n ≤ j ∧ j < w1.1
    · rw [if_pos c]; exact (hG j c.1).symm
    · rw [if_neg c]
  · rw [rd_at, ou 161 20 rfl]
  · refine ((wR_off (ou.mono fun k j hk => ?_) fun j => rfl).set rfl).set rfl
    simp only [Kz, Ke, Bool.or_eq_false_iff, Bool.and_eq_false_iff, decide_eq_false_iff_not, beq_eq_false_iff_ne] at hk ⊢; omega
/-! the class -/
def K812 : Nat → Nat → Bool := fun k j => k == 8 || k == 9 || k == 12 || (k == 7 && j == 4)
theorem K812_f {k j : Nat} (h : ¬ (k = 8 ∨ k = 9 ∨ k = 12 ∨ (k = 7 ∧ j = 4))) : K812 k j = false := by
  simp only [K812, Bool.or_eq_false_iff, Bool.and_eq_false_iff, beq_eq_false_iff_ne]; omega
theorem KRd_f {k j : Nat} (h : ¬ (3 ≤ k ∧ k ≤ 6)) : KRd k j = false := by
  simp only [KRd, Bool.and_eq_false_iff, decide_eq_false_iff_not]; omega
theorem CW.settle {d z : Int} (h : CW s n T S D SP ap fi bk) (hn : n < 9) : ∃ r t, fLand_settle s (iI d) (iI z) = some (r, t) ∧ CW t (n + 1) T S (uI D n d) (uI SP n z) ap fi bk ∧ Off K812 s t := by
  obtain ⟨h1, h2, h3, h4, h5, h6, h7⟩ := h
  unfold fLand_settle
  rw [h1.1, if_neg (by rw [iI_eq (by omega) (by omega) (by omega) (by omega)]; omega), chk_in (by omega) (by omega) (by omega), iI_natc (by omega), nmM_e, rd_ne (show (7 : Nat) ≠ 8 by decide), h1.1, chk_in (by omega) (by omega) (by omega), iI_natc (by omega), nmM_e, rd_ne (show (7 : Nat) ≠ 9 by decide), rd_ne (show (7 : Nat) ≠ 8 by decide), h1.1, iI_add, nmM_e]
  have o : Off K812 s (wsI (wsI (wsI s 8 n (iI d)) 9 n (iI z)) 7 4 (iI ((n : Int) + 1))) := (((Off.refl s).set rfl).set rfl).set rfl
  refine ⟨_, _, rfl, ⟨⟨?_, fun a b ha hb => ?_⟩, ?_, ?_, ?_, ?_, ?_, fun j hj => ?_⟩, o⟩
  · rw [rd_at]; simp
  · rw [rd_ne (by decide), rd_ne (by decide), rd_ne (by decide)]; exact h1.2 a b ha hb
  · show _ = _
    rw [rd_ne (by decide), rd_ne (by decide), wsI_R h2, wRo_at]
  · show _ = _
    rw [rd_ne (by decide), wsI_R (D := SP) (by rw [rd_ne (by decide)]; exact h3), wRo_at]
  · rw [o 11 0 rfl]; exact h4
  · rw [o 11 1 rfl]; exact h5
  · rw [o 11 2 rfl]; exact h6
  · rw [o 14 j rfl, o 15 j rfl]; exact h7 j hj
abbrev CWl (s : wM) (w : Lnd) (ap fi bk : Int) : Prop := CW s w.1 w.2.1 w.2.2.1 w.2.2.2.1 w.2.2.2.2 ap fi bk
theorem W_lines (hv : LV w0) (hg : GoodN w0 g k) (hk : k ≤ 40) (hl : LLs s k g) (hc : CWl s w0 ap fi bk) : ∃ t, wh2 fW_county_L56 100000 (iI 0) s = some (iI (k : Int), t) ∧ CWl t (apN w0 g k) ap fi bk ∧ Off K812 s t := by
  refine wh2_w (Q := fun x => ∃ t, x = some (iI (k : Int), t) ∧ CWl t (apN w0 g k) ap fi bk ∧ Off K812 s t) (fun m x u => ∃ i : Nat, i ≤ k ∧ m = k - i ∧ x = iI (i : Int) ∧ CWl u (apN w0 g i) ap fi bk ∧ Off K812 s u) ?_ 100000 k _ s (by omega) ⟨0, by omega, rfl, rfl, hc, Off.refl s⟩
  rintro m x u ⟨i, h1, rfl, rfl, hu, ho⟩ kk hkk
  have u33 : u.1 3 3 = iI (k : Int) := by rw [ho 3 3 rfl]; exact hl.1
  unfold fW_county_L56 fW_county_J143
  by_cases c1 : i < k
  · obtain ⟨l4, l5, l6⟩ := hl.2 i c1
    have hS := hv.many hg i h1
    have ok := hg i c1
    have hn := hS.1.1
    have fin : ∀ t, CWl t (apL (apN w0 g i) (g i)) ap fi bk → Off K812 u t → ∃ t', kk (iI (i : Int) + iI 1) t = some (iI (k : Int), t') ∧ CWl t' (apN w0 g k) ap fi bk ∧ Off K812 s t' := fun t ht ot => hkk (k - (i + 1)) _ _ (by omega) ⟨i + 1, by omega, rfl, by rw [iI_add]; simp, ht, ho.trans ot⟩
    rw [u33, if_neg (by rw [iI_le (by omega) (by omega) (by omega) (by omega)]; omega), chk_in (by omega) (by omega) (by omega), iI_natc (by omega), ho 4 i rfl, ho 5 i rfl, ho 6 i rfl, l4, l5, l6]
    rcases ok with ⟨e, k1, k2, k3⟩ | ⟨k1, k2, k3, k4⟩
    · obtain ⟨r, t, et, ct, ot⟩ := CW.settle (d := (g i).2.1) (z := (g i).2.2) hu k1
      rw [e, if_pos rfl, et, Option.bind_some]
      refine fin t ?_ ot
      unfold apL; rw [if_pos e]; exact ct
    · obtain ⟨a, ha⟩ : ∃ a : Nat, (g i).1 = a := ⟨(g i).1.toNat, by omega⟩
      obtain ⟨b, hb⟩ : ∃ b : Nat, (g i).2.1 = b := ⟨(g i).2.1.toNat, by omega⟩
      obtain ⟨t, et, ct, ot⟩ := CW.join (a := a) (b := b) (v := (g i).2.2) hu hn (by omega) (by omega) (by omega) (by omega)
      rw [if_neg (by rw [iI_eq (by omega) (by omega) (by omega) (by omega)]; omega), ha, hb, et, Option.bind_some]
      rw [decide_eq_true k4.1, Int.max_eq_right k4.1] at ct
      refine fin t ?_ (ot.mono fun k j hk => ?_)
      · unfold apL; rw [if_neg (by omega), ha, hb, Int.toNat_natCast, Int.toNat_natCast]; exact ct
      · simp only [K812, Bool.or_eq_false_iff] at hk; exact hk.1.2
  · have : i = k := by omega
    subst this
    rw [u33, if_pos (by rw [iI_le (by omega) (by omega) (by omega) (by omega)]; omega)]
    exact ⟨u, rfl, hu, ho⟩
theorem HW.cty (h : HW s n T S D SP ap fi bk G w pl kp tx se) (c : CW t n' T' S' D' SP' ap fi bk) (hn : n ≤ n') (p : ∃ nt, PaW t nt pl') (x : t.1 1 1 = iI 0) (o : ∀ k j, (k = 7 ∧ j = 5) ∨ k = 10 ∨ (142 ≤ k ∧ k ≤ 144) ∨ (146 ≤ k ∧ k ≤ 160) → t.1 k j = s.1 k j) : HW t n' T' S' D' SP' ap fi bk G w pl' kp [] se :=
  ⟨c, ⟨(funext fun j => o 10 j (by omega)).trans h.2.1.1, (o 7 5 (by omega)).trans h.2.1.2.1, fun j hj => h.2.1.2.2 j (by omega)⟩, p, fun i hi => KpW.of hi _ (h.2.2.2.1 i hi) fun k j hk => o k j (by omega), ⟨x, fun i hi => absurd hi (by simp)⟩, h.2.2.2.2.2.of (o 142 0 (by omega)) (funext fun j => o 143 j (by omega)) (funext fun j => o 144 j (by omega))⟩
theorem HM.cty (h : HM s n T S D SP ap fi bk G w pl kp tx se) (c : CM t n' T' S' D' SP' ap fi bk) (g : t.1 167 = s.1 167) (p : PaM t pl') (x : t.1 161 12 = iI 0) (o : ∀ k j, (k = 161 ∧ (j = 10 ∨ j = 43)) ∨ k = 191 ∨ k = 192 ∨ k = 194 ∨ k = 195 → t.1 k j = s.1 k j) : HM t n' T' S' D' SP' ap fi bk G w pl' kp [] se :=
  ⟨c, ⟨g.trans h.2.1.1, (o 161 10 (by omega)).trans h.2.1.2⟩, p, fun i hi => KpM.of _ (h.2.2.2.1 i hi) (funext fun j => o 194 j (by omega)) (funext fun j => o 195 j (by omega)), ⟨x, fun i hi => absurd hi (by simp)⟩, h.2.2.2.2.2.of (o 161 43 (by omega)) (funext fun j => o 191 j (by omega)) (funext fun j => o 192 j (by omega))⟩
theorem rdA_good (hL : LV w0) (hx : TxV tx) : (rdA tx 76 (clN (cT tx) (min 76 tx.length)) w0.1).1 = none → GoodN w0 (rdA tx 76 (clN (cT tx) (min 76 tx.length)) w0.1).2.2 (rdA tx 76 (clN (cT tx) (min 76 tx.length)) w0.1).2.1 ∧ (rdA tx 76 (clN (cT tx) (min 76 tx.length)) w0.1).2.1 ≤ 40 ∧ (tx.length = 0 ↔ (rdA tx 76 (clN (cT tx) (min 76 tx.length)) w0.1).2.1 = 0) := by
  unfold rdA
  by_cases c0 : tx.length = 0
  · rw [if_pos c0]
    exact fun _ => ⟨fun i hi => absurd hi (Nat.not_lt_zero i), Nat.zero_le _, fun _ => rfl, fun _ => c0⟩
  · rw [if_neg c0]
    intro h
    have key := rdLn_good (c := cT tx) (L := min 76 tx.length) hL (by omega) (min 76 tx.length + 1) 0 0 g0 (fun i hi => absurd hi (Nat.not_lt_zero i)) (by omega) (by omega) h
    exact ⟨key.1, key.2.1, fun e => absurd e c0, fun e => absurd (Nat.le_trans key.2.2 (Nat.le_of_eq e)) (by decide)⟩
theorem Tx_cut0 {z : Nat} (hz : z ≤ 80) (h : s.1 1 1 = iI (z : Int)) : fTx_cut s (iI 0) = some (iI 1, wsI s 1 1 (iI 0)) := by
  unfold fTx_cut
  rw [if_neg (by decide), h, if_pos (by rw [iI_le (by omega) (by omega) (by omega) (by omega)]; omega), nmM_e]
end EN
