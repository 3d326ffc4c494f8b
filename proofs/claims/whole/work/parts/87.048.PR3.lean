/-! nights -/
def ntS (P : Nat → Nat → Bool) (x : Nat × List Int32) (a b : Nat) : Nat × List Int32 := if P a b then (x.1 + 1, if x.1 = 0 then [iI ((10 * a + b : Nat) : Int)] else x.2) else x
def ntR (P : Nat → Nat → Bool) (x : Nat × List Int32) (a : Nat) : Nat → Nat × List Int32
  | 0 => x
  | b + 1 => ntS P (ntR P x a b) a b
def ntF (P : Nat → Nat → Bool) (n : Nat) : Nat → Nat × List Int32
  | 0 => (0, [])
  | a + 1 => ntR P (ntF P n a) a n
def ntOk (x : Nat × List Int32) (m : Nat) : Prop := x.1 ≤ m ∧ x.2.length ≤ 1 ∧ (x.1 = 0 → x.2 = [])
theorem ntS_ok {P : Nat → Nat → Bool} {x : Nat × List Int32} {m a b : Nat} (h : ntOk x m) : ntOk (ntS P x a b) (m + 1) := by
  obtain ⟨h1, h2, h3⟩ := h
  unfold ntS ntOk
  split
  · refine ⟨by simp only; omega, ?_, fun h => by simp only at h; omega⟩
    simp only; split
    · simp
    · exact h2
  · exact ⟨by omega, h2, h3⟩
theorem ntR_ok {P : Nat → Nat → Bool} {x : Nat × List Int32} {m a : Nat} (h : ntOk x m) : ∀ b, ntOk (ntR P x a b) (m + b)
  | 0 => h
  | b + 1 => ntS_ok (ntR_ok h b)
theorem ntF_ok (P : Nat → Nat → Bool) (n : Nat) : ∀ a, ntOk (ntF P n a) (n * a)
  | 0 => ⟨by simp [ntF], by simp [ntF], fun _ => rfl⟩
  | a + 1 => by
    have := ntR_ok (P := P) (a := a) (ntF_ok P n a) n
    rw [Nat.mul_add, Nat.mul_one]; exact this
theorem ntOk.mono {x : Nat × List Int32} {m m' : Nat} (h : ntOk x m) (hm : m ≤ m') : ntOk x m' := ⟨Nat.le_trans h.1 hm, h.2⟩
section NT
variable {s t u : wM} {n : Nat} {T : Nat → Nat → Bool} {S : Nat → Nat → Int} {D D' SP : Nat → Int} {ap fi bk : Int} {se : List (Nat × Nat)}
def ntP (n : Nat) (T : Nat → Nat → Bool) (S : Nat → Nat → Int) (SP : Nat → Int) (ap bk : Int) (se : List (Nat × Nat)) (D : Nat → Int) (a b : Nat) : Bool := cc T bk D a b && hol n T S SP ap se (mv bk D a b)
theorem WBd.self (h : WBd s t n T S SP ap D) : WBd t t n T S SP ap D := ⟨h.1, Off.refl t, h.2.2⟩
theorem WA.self (h : WA s t n T S SP ap D) : WA t t n T S SP ap D := ⟨h.1, h.2.1, Off.refl t, h.2.2.2⟩
theorem KA_KWr (o : Off KA s t) : Off KWr s t := o.mono fun k j hk => by
  simp only [KWr, KWq, KA, Bool.or_eq_false_iff, Bool.and_eq_false_iff, decide_eq_false_iff_not, beq_eq_false_iff_ne] at hk ⊢; omega
theorem KN_KWr (o : Off KN s t) : Off KWr s t := o.mono fun k j hk => by
  simp only [KWr, KN, Bool.or_eq_false_iff] at hk ⊢; exact ⟨hk.1.2, hk.2⟩
theorem SeW.kq (h : SeW s se) (o : Off KWr s t) : SeW t se := h.of (o.atW (by omega)) (funext fun j => o.atW (by omega)) (funext fun j => o.atW (by omega))
theorem WBd.zw (h : WBd s t n T S SP ap D) (hz : Z9 SP) : ZW t := (h.wq hz).2
theorem WBd.kn (h : WBd t t n T S SP ap D) (o : Off KN t u) : WBd u u n T S SP ap D := ⟨h.1.of (o.mono fun k j hk => by simp only [KN, Bool.or_eq_false_iff, Bool.and_eq_false_iff, beq_eq_false_iff_ne, bne_eq_false_iff_eq] at hk ⊢; omega), Off.refl u, h.2.2⟩
theorem W_would {a b : Nat} (hv : CV n T S D SP ap fi bk) (hw : CW u n T S D SP ap fi bk) (hA : WBd u u n T S SP ap D') (hse : SeV se) (hs : SeW u se) (hc : cc T bk D a b = true) : ∃ t D3, fW_wouldExplain u (iI (a : Int)) (iI (b : Int)) = some (bI (hol n T S SP ap se (mv bk D a b)), t) ∧ WA u t n T S SP ap D3 := by
  have hn := hv.1.1
  have hap : 0 ≤ ap ∧ ap ≤ 9 := by have := hv.2.2.2.2.2.1; omega
  have h := cc_ne hv.1 hc
  have hm := mv_cv hv hc
  obtain ⟨t1, e1, hA1, h8, _⟩ := W_rewind hA hw.2.1 hv.2.1 hv.2.2.1
  unfold fW_wouldExplain
  rw [e1, Option.bind_some, chk_in (by omega) (by omega) (by omega), iI_natc (by omega), z2, hA1.2.2.1 11 2 rfl, hw.2.2.2.2.2.1, show t1.1 14 = _ from hA1.1.2.2.2.2.1]
  simp only [nmM]
  rw [chk_in (by omega) (by omega) (by omega), iI_natc (by omega), rd_ne (show (11 : Nat) ≠ 14 by decide), hA1.2.2.1 11 2 rfl, hw.2.2.2.2.2.1, iI_sub, wsI_R hA1.1.2.2.2.2.1, wRo_at, iI_add, wsI_R (k := 14) (D := uI D a (D a - bk)) wRo_at, wR_wR]
  have hA2 : WA u (wRo t1 14 (fun j => iI (mv bk D a b j))) n T S SP ap (mv bk D a b) := by
    obtain ⟨⟨k1, k2, k3, k4, k5, k6⟩, g2, g3, g4⟩ := hA1
    refine ⟨⟨by rw [wR_ne (by decide)]; exact k1, by rw [wR_ne (by decide)]; exact k2, by rw [wR_ne (by decide)]; exact k3, fun p hp => by rw [wR_ne (by decide), wR_ne (by decide), wR_ne (by decide)]; exact k4 p hp, wR_Rw, k6.ne (by decide)⟩, Or.inl (by rw [wR_ne (by decide)]; exact h8), wR_off g3 fun j => rfl, hm.2.1, hm.2.2.1⟩
  obtain ⟨t3, D3, e3, hA3⟩ := Si_hold hv.1 hv.2.2.2.1 hap hA2 hse hs
  rw [show uI (uI D a (D a - bk)) b (uI D a (D a - bk) b + bk) = mv bk D a b from rfl, e3, Option.bind_some, chkZ_b]
  exact ⟨t3, D3, rfl, hA3⟩
theorem W_nights (hv : CV n T S D SP ap fi bk) (hw : CW s n T S D SP ap fi bk) (hse : SeV se) (hs : SeW s se) : ∃ s', fW_nights s = some (iI ((ntF (ntP n T S SP ap bk se D) n n).1 : Int), s') ∧ WQ s s' (some ((ntF (ntP n T S SP ap bk se D) n n).2 ++ [bI (hol n T S SP ap se D)])) := by
  have hn := hv.1.1
  have hap : 0 ≤ ap ∧ ap ≤ 9 := by have := hv.2.2.2.2.2.1; omega
  have hbk := hv.2.2.2.2.2.2.2
  have hz := hv.2.2.2.2.1
  obtain ⟨t, e, hA, _⟩ := W_look hv hw
  obtain ⟨t1, D1, e1, hA1⟩ := Si_hold hv.1 hv.2.2.2.1 hap hA hse hs
  unfold fW_nights
  rw [e, Option.bind_some, e1, Option.bind_some]
  dsimp only
  obtain ⟨t2, e2, r2, o2⟩ := Num_clear (s := t1)
  rw [e2, Option.bind_some]
  generalize hP : ntP n T S SP ap bk se D = P
  generalize hH : hol n T S SP ap se D = H
  have st : ∀ u D', WBd u u n T S SP ap D' → Off KWr s u → CW u n T S D SP ap fi bk ∧ SeW u se := fun u D' h o => ⟨hw.kq o (h.zw hz), hs.kq o⟩
  refine wh3_w (Q := fun x => ∃ s', x = some (iI ((ntF P n n).1 : Int), s') ∧ WQ s s' (some ((ntF P n n).2 ++ [bI H]))) (fun m x y u => ∃ a : Nat, ∃ D', a ≤ n ∧ m = n - a ∧ x = iI ((ntF P n a).1 : Int) ∧ y = iI (a : Int) ∧ RW u (ntF P n a).2 ∧ WBd u u n T S SP ap D' ∧ Off KWr s u) ?_ 100000 n _ _ t2 (by omega) ⟨0, D1, by omega, rfl, rfl, rfl, r2, hA1.b.self.kn o2, (KA_KWr hA1.2.2.1).trans (KN_KWr o2)⟩
  rintro m x y u ⟨a, D', h1, rfl, rfl, rfl, ru, hu, ho⟩ c hc
  obtain ⟨hwu, hsu⟩ := st u D' hu ho
  have hok := (ntF_ok P n a).mono (m' := 81) (by have : n * a ≤ 9 * 9 := Nat.mul_le_mul hn (by omega); omega)
  unfold fW_nights_L34
  rw [hwu.1.1]
  by_cases ha : a < n
  · rw [if_neg (by rw [iI_le (by omega) (by omega) (by omega) (by omega)]; omega)]
    refine wh3_w (Q := fun x => ∃ s', x = some (iI ((ntF P n n).1 : Int), s') ∧ WQ s s' (some ((ntF P n n).2 ++ [bI H]))) (fun m x y u => ∃ b : Nat, ∃ D', b ≤ n ∧ m = n - b ∧ x = iI ((ntR P (ntF P n a) a b).1 : Int) ∧ y = iI (b : Int) ∧ RW u (ntR P (ntF P n a) a b).2 ∧ WBd u u n T S SP ap D' ∧ Off KWr s u) ?_ 100000 n _ _ u (by omega) ⟨0, D', by omega, rfl, rfl, rfl, ru, hu, ho⟩
    rintro m x y u ⟨b, D', h1, rfl, rfl, rfl, ru, hu, ho⟩ c2 hc2
    obtain ⟨hwu, hsu⟩ := st u D' hu ho
    have hok := (ntR_ok (P := P) (a := a) hok b).mono (m' := 90) (by omega)
    unfold fW_nights_L48 fW_nights_J101 fW_nights_J104
    rw [hwu.1.1]
    by_cases hb : b < n
    · rw [if_neg (by rw [iI_le (by omega) (by omega) (by omega) (by omega)]; omega), Land_canCarry hv.1 hwu.1 hwu.2.1 hv.2.1 hwu.2.2.2.2.2.1 hbk (by omega) (by omega), Option.bind_some]
      simp only [bI_0, iI_add]
      have hx : ntR P (ntF P n a) a (b + 1) = ntS P (ntR P (ntF P n a) a b) a b := rfl
      have hPab : P a b = (cc T bk D a b && hol n T S SP ap se (mv bk D a b)) := by rw [← hP]; rfl
      have skip : ∀ u D', P a b = false → RW u (ntR P (ntF P n a) a b).2 → WBd u u n T S SP ap D' → Off KWr s u → ∃ s', c2 (iI ((ntR P (ntF P n a) a b).1 : Int)) (iI ((b : Int) + 1)) u = some (iI ((ntF P n n).1 : Int), s') ∧ WQ s s' (some ((ntF P n n).2 ++ [bI H])) := fun u D' hp ru hu ho => by
        have e0 : ntR P (ntF P n a) a (b + 1) = ntR P (ntF P n a) a b := by rw [hx]; unfold ntS; rw [hp]; rfl
        exact hc2 (n - (b + 1)) _ _ _ (by omega) ⟨b + 1, D', by omega, rfl, by rw [e0], by simp, by rw [e0]; exact ru, hu, ho⟩
      by_cases hcc : cc T bk D a b = true
      · rw [if_neg (by rw [hcc]; decide)]
        obtain ⟨t3, D3, e3, hA3⟩ := W_would hv hwu hu hse hsu hcc
        have ho3 : Off KWr s t3 := ho.trans (KA_KWr hA3.2.2.1)
        have ru3 : RW t3 (ntR P (ntF P n a) a b).2 := ru.of (hA3.2.2.1 32 1 rfl) (hA3.2.2.1.row fun j => rfl)
        rw [e3, Option.bind_some]
        dsimp only
        simp only [bI_0]
        cases hh : hol n T S SP ap se (mv bk D a b)
        · rw [if_pos rfl]
          exact skip t3 D3 (by rw [hPab, hh]; simp) ru3 hA3.b.self ho3
        · rw [if_neg (by decide)]
          have e0 : ntR P (ntF P n a) a (b + 1) = ((ntR P (ntF P n a) a b).1 + 1, if (ntR P (ntF P n a) a b).1 = 0 then [iI ((10 * a + b : Nat) : Int)] else (ntR P (ntF P n a) a b).2) := by
            rw [hx]; unfold ntS; rw [hPab, hcc, hh]; rfl
          simp only [iI_eq (a := ((ntR P (ntF P n a) a b).1 : Int)) (b := 0) (by have := hok.1; omega) (by have := hok.1; omega) (by omega) (by omega)]
          by_cases h0 : (ntR P (ntF P n a) a b).1 = 0
          · rw [if_pos (by omega)]
            rw [hok.2.2 h0] at ru3
            obtain ⟨t4, e4, r4, o4⟩ := Num_add (v := iI (10 * (a : Int) + (b : Int))) ru3 (by simp)
            rw [iI_mul, iI_add, e4, Option.bind_some]
            refine hc2 (n - (b + 1)) _ _ _ (by omega) ⟨b + 1, D3, by omega, rfl, by rw [e0]; congr 1, by simp, ?_, hA3.b.self.kn o4, ho3.trans (KN_KWr o4)⟩
            rw [e0]; simp only; rw [if_pos h0]
            rw [show ((10 * a + b : Nat) : Int) = 10 * (a : Int) + (b : Int) by omega]; exact r4
          · rw [if_neg (by omega)]
            refine hc2 (n - (b + 1)) _ _ _ (by omega) ⟨b + 1, D3, by omega, rfl, by rw [e0]; congr 1, by simp, ?_, hA3.b.self, ho3⟩
            rw [e0]; simp only; rw [if_neg h0]; exact ru3
      · have hcc' : cc T bk D a b = false := by simpa using hcc
        rw [if_pos hcc']
        exact skip u D' (by rw [hPab, hcc']; rfl) ru hu ho
    · have : b = n := by omega
      subst this
      rw [if_pos (by rw [iI_le (by omega) (by omega) (by omega) (by omega)]; omega), iI_add]
      exact hc (b - (a + 1)) _ _ _ (by omega) ⟨a + 1, D', by omega, rfl, rfl, by simp, ru, hu, ho⟩
  · have : a = n := by omega
    subst this
    rw [if_pos (by rw [iI_le (by omega) (by omega) (by omega) (by omega)]; omega)]
    obtain ⟨u2, e2, r2, o2⟩ := Num_add (v := bI H) ru (by have := hok.2.1; omega)
    have J : (if bI H = iI 0 then fW_nights_J129 (iI ((ntF P a a).1 : Int)) (iI 0) u else fW_nights_J129 (iI ((ntF P a a).1 : Int)) (iI 1) u) = fW_nights_J129 (iI ((ntF P a a).1 : Int)) (bI H) u := by cases H <;> rfl
    rw [J]
    unfold fW_nights_J129
    rw [e2, Option.bind_some]
    refine ⟨u2, rfl, ho.trans (KN_KWr o2), (hu.kn o2).zw hz, r2, ?_⟩
    have := hok.2.1
    simp; omega
theorem SeM.km (h : SeM s se) (o : Off KMr s t) : SeM t se := h.of (o.atM (by omega)) (funext fun j => o.atM (by omega)) (funext fun j => o.atM (by omega))
theorem Off.qr (o : Off KMq s t) : Off KMr s t := o.mono fun k j hk => by simp only [KMr, Bool.or_eq_false_iff] at hk; exact hk.1.1
theorem Off.nr (o : Off KMn s t) : Off KMr s t := o.mono fun k j hk => by
  simp only [KMr, KMn, Bool.or_eq_false_iff] at hk ⊢; exact ⟨hk.1.2, hk.2⟩
theorem M_nights (hv : CV n T S D SP ap fi bk) (hm : CM s n T S D SP ap fi bk) (hse : SeV se) (hs : SeM s se) : ∃ s', fM_nights s = some (iI ((ntF (ntP n T S SP ap bk se D) n n).1 : Int), s') ∧ MQn s s' (some ((ntF (ntP n T S SP ap bk se D) n n).2 ++ [bI (hol n T S SP ap se D)])) := by
  have hn := hv.1.1
  have hap : 0 ≤ ap ∧ ap ≤ 9 := by have := hv.2.2.2.2.2.1; omega
  have hbk := hv.2.2.2.2.2.2.2
  have hm0 := hm.thr (v := iI 0)
  unfold fM_nights
  simp only [nmM]
  generalize hP : ntP n T S SP ap bk se D = P
  generalize hH : hol n T S SP ap se D = H
  have o0 : Off KMr s (wsI (wsI s 161 0 (iI 0)) 161 1 (iI 0)) := ((Off.refl s).set rfl).set rfl
  have hm2 : CM (wsI (wsI s 161 0 (iI 0)) 161 1 (iI 0)) n T S D SP ap fi bk := hm0.kn ((Off.refl _).set rfl)
  refine wh3_w (Q := fun x => ∃ s', x = some (iI ((ntF P n n).1 : Int), s') ∧ MQn s s' (some ((ntF P n n).2 ++ [bI H]))) (fun m x y u => ∃ a : Nat, a ≤ n ∧ m = n - a ∧ x = iI ((ntF P n a).1 : Int) ∧ y = iI (a : Int) ∧ RM u (ntF P n a).2 ∧ CM u n T S D SP ap fi bk ∧ Off KMr s u) ?_ 100000 n _ _ (wsI (wsI s 161 0 (iI 0)) 161 1 (iI 0)) (by omega) ⟨0, by omega, rfl, rfl, rfl, M_rows0, hm2, o0⟩
  rintro m x y u ⟨a, h1, rfl, rfl, rfl, ru, hu, ho⟩ c hc
  have hok := (ntF_ok P n a).mono (m' := 81) (by have : n * a ≤ 9 * 9 := Nat.mul_le_mul hn (by omega); omega)
  unfold fM_nights_L14
  rw [hu.1.1]
  by_cases ha : a < n
  · rw [if_neg (by rw [iI_le (by omega) (by omega) (by omega) (by omega)]; omega)]
    refine wh3_w (Q := fun x => ∃ s', x = some (iI ((ntF P n n).1 : Int), s') ∧ MQn s s' (some ((ntF P n n).2 ++ [bI H]))) (fun m x y u => ∃ b : Nat, b ≤ n ∧ m = n - b ∧ x = iI ((ntR P (ntF P n a) a b).1 : Int) ∧ y = iI (b : Int) ∧ RM u (ntR P (ntF P n a) a b).2 ∧ CM u n T S D SP ap fi bk ∧ Off KMr s u) ?_ 100000 n _ _ u (by omega) ⟨0, by omega, rfl, rfl, rfl, ru, hu, ho⟩
    rintro m x y u ⟨b, h1, rfl, rfl, rfl, ru, hu, ho⟩ c2 hc2
    have hok := (ntR_ok (P := P) (a := a) hok b).mono (m' := 90) (by omega)
    unfold fM_nights_L24 fM_nights_J88 fM_nights_J91
    rw [hu.1.1]
    by_cases hb : b < n
    · rw [if_neg (by rw [iI_le (by omega) (by omega) (by omega) (by omega)]; omega), M_canCarry hu.1 hu.2.1 hv.2.1 hu.2.2.2.2.2.1 hbk (by omega) (by omega), Option.bind_some]
      simp only [bI_0, iI_add, iI_eq (a := (a : Int)) (b := (b : Int)) (by omega) (by omega) (by omega) (by omega)]
      have hx : ntR P (ntF P n a) a (b + 1) = ntS P (ntR P (ntF P n a) a b) a b := rfl
      have hPab : P a b = (cc T bk D a b && hol n T S SP ap se (mv bk D a b)) := by rw [← hP]; rfl
      have skip : ∀ u, P a b = false → RM u (ntR P (ntF P n a) a b).2 → CM u n T S D SP ap fi bk → Off KMr s u → ∃ s', c2 (iI ((ntR P (ntF P n a) a b).1 : Int)) (iI ((b : Int) + 1)) u = some (iI ((ntF P n n).1 : Int), s') ∧ MQn s s' (some ((ntF P n n).2 ++ [bI H])) := fun u hp ru hu ho => by
        have e0 : ntR P (ntF P n a) a (b + 1) = ntR P (ntF P n a) a b := by rw [hx]; unfold ntS; rw [hp]; rfl
        exact hc2 (n - (b + 1)) _ _ _ (by omega) ⟨b + 1, by omega, rfl, by rw [e0], by simp, by rw [e0]; exact ru, hu, ho⟩
      by_cases hcc : cc T bk D a b = true
      · have hne := cc_ne hv.1 hcc
        have hmv := mv_cv hv hcc
        rw [if_neg (by omega), if_neg (by rw [hcc]; decide)]
        obtain ⟨t1, e1, hA1⟩ := M_start hv hu
        rw [e1, Option.bind_some, M_carries (by decide) hA1.2.2.2.1 (by rw [hA1.2.2.2.2.1 168 2 rfl]; exact hu.2.2.2.2.2.1) (by omega) (by omega), Option.bind_some]
        have hA2 : MA u (wRo t1 187 (fun j => iI (mv bk D a b j))) n T S SP ap (mv bk D a b) := by
          obtain ⟨k1, k2, k3, k4, k5, k6⟩ := hA1
          exact ⟨k1.of (by rw [wR_ne (by decide)]) (wR_ne (by decide)) (wR_ne (by decide)), k2.ne (by decide), by rw [wR_ne (by decide)]; exact k3, wR_Rw, wR_off k5 fun j => rfl, hmv.2.1, hmv.2.2.1⟩
        obtain ⟨t3, D3, e3, hA3⟩ := M_isSo hv.1 hv.2.2.2.1 hap hA2 hse (hs.km ho)
        have hm3 := hu.ma hA3
        have ho3 : Off KMr s t3 := ho.trans hA3.q.qr
        have ru3 : RM t3 (ntR P (ntF P n a) a b).2 := ru.of (hA3.2.2.2.2.1 161 1 rfl) (hA3.2.2.2.2.1.row fun j => rfl)
        rw [e3, Option.bind_some]
        dsimp only
        simp only [bI_0]
        cases hh : hol n T S SP ap se (mv bk D a b)
        · rw [if_pos rfl]
          exact skip t3 (by rw [hPab, hh]; simp) ru3 hm3 ho3
        · rw [if_neg (by decide)]
          have e0 : ntR P (ntF P n a) a (b + 1) = ((ntR P (ntF P n a) a b).1 + 1, if (ntR P (ntF P n a) a b).1 = 0 then [iI ((10 * a + b : Nat) : Int)] else (ntR P (ntF P n a) a b).2) := by
            rw [hx]; unfold ntS; rw [hPab, hcc, hh]; rfl
          simp only [iI_eq (a := ((ntR P (ntF P n a) a b).1 : Int)) (b := 0) (by have := hok.1; omega) (by have := hok.1; omega) (by omega) (by omega)]
          by_cases h0 : (ntR P (ntF P n a) a b).1 = 0
          · rw [if_pos (by omega)]
            rw [hok.2.2 h0] at ru3
            obtain ⟨t4, e4, r4, o4⟩ := M_enters (v := iI (10 * (a : Int) + (b : Int))) ru3 (by simp)
            rw [iI_mul, iI_add, e4, Option.bind_some]
            refine hc2 (n - (b + 1)) _ _ _ (by omega) ⟨b + 1, by omega, rfl, by rw [e0]; congr 1, by simp, ?_, hm3.kn o4, ho3.trans o4.nr⟩
            rw [e0]; simp only; rw [if_pos h0]
            rw [show ((10 * a + b : Nat) : Int) = 10 * (a : Int) + (b : Int) by omega]; exact r4
          · rw [if_neg (by omega)]
            refine hc2 (n - (b + 1)) _ _ _ (by omega) ⟨b + 1, by omega, rfl, by rw [e0]; congr 1, by simp, ?_, hm3, ho3⟩
            rw [e0]; simp only; rw [if_neg h0]; exact ru3
      · have hcc' : cc T bk D a b = false := by simpa using hcc
        have hs := skip u (by rw [hPab, hcc']; rfl) ru hu ho
        rw [if_pos hcc']
        split <;> exact hs
    · have : b = n := by omega
      subst this
      rw [if_pos (by rw [iI_le (by omega) (by omega) (by omega) (by omega)]; omega), iI_add]
      exact hc (b - (a + 1)) _ _ _ (by omega) ⟨a + 1, by omega, rfl, rfl, by simp, ru, hu, ho⟩
  · have : a = n := by omega
    subst this
    rw [if_pos (by rw [iI_le (by omega) (by omega) (by omega) (by omega)]; omega)]
    obtain ⟨t1, e1, hA1⟩ := M_start hv hu
    obtain ⟨t3, D3, e3, hA3⟩ := M_isSo hv.1 hv.2.2.2.1 hap hA1 hse (hs.km ho)
    have hm3 := hu.ma hA3
    have ho3 : Off KMr s t3 := ho.trans hA3.q.qr
    have ru3 : RM t3 (ntF P a a).2 := ru.of (hA3.2.2.2.2.1 161 1 rfl) (hA3.2.2.2.2.1.row fun j => rfl)
    rw [e1, Option.bind_some, e3, Option.bind_some]
    dsimp only
    rw [M_flag, Option.bind_some, hH]
    obtain ⟨u2, e2, r2, o2⟩ := M_enters (v := bI H) ru3 (by have := hok.2.1; omega)
    rw [e2, Option.bind_some]
    exact ⟨u2, rfl, ho3.trans o2.nr, (hm3.kn o2).2.2.2.2.2.2, r2⟩
end NT
theorem op41 : op_41 wInv := fun s hI => by
  obtain ⟨n, T, S, D, SP, ap, fi, bk, G, w, pl, kp, tx, se, l, hv, hw, hm, _⟩ := id hI
  obtain ⟨s1, e1, q1⟩ := W_nights hv.1 hw.1 hv.2.2.2.2 hw.2.2.2.2.2
  have hm1 := hm.byW q1.off.1
  obtain ⟨s2, e2, q2⟩ := M_nights hv.1 hm1.1 hv.2.2.2.2 hm1.2.2.2.2.2
  exact ⟨_, s1, s2, e1, e2, wInv_q hI q1 q2⟩
