theorem iI_bv (y : Nat) : (iI (y : Int)).toBitVec = BitVec.ofNat 32 y := by
  have e : iI (y : Int) = Int32.ofNat y := by unfold iI; rfl
  rw [e]; simp
theorem or_nat {x y : Nat} (hx : x < 2147483648) (hy : y < 2147483648) : iI (x : Int) ||| iI (y : Int) = iI ((x ||| y : Nat) : Int) := by
  have h : x ||| y < 2 ^ 31 := Nat.or_lt_two_pow (by omega) (by omega)
  rw [← Int32.toBitVec_inj]
  apply BitVec.eq_of_toNat_eq
  simp only [Int32.toBitVec_or, BitVec.toNat_or, iI_bv, BitVec.toNat_ofNat]
  rw [Nat.mod_eq_of_lt (by omega), Nat.mod_eq_of_lt (by omega), Nat.mod_eq_of_lt (by omega)]
theorem and_nat {x y : Nat} (hx : x < 2147483648) (hy : y < 2147483648) : iI (x : Int) &&& iI (y : Int) = iI ((x &&& y : Nat) : Int) := by
  have h : x &&& y ≤ x := Nat.and_le_left
  rw [← Int32.toBitVec_inj]
  apply BitVec.eq_of_toNat_eq
  simp only [Int32.toBitVec_and, BitVec.toNat_and, iI_bv, BitVec.toNat_ofNat]
  rw [Nat.mod_eq_of_lt (by omega), Nat.mod_eq_of_lt (by omega), Nat.mod_eq_of_lt (by omega)]
theorem iI_neg (a : Int) : -(iI a) = iI (-a) := by unfold iI; simp
section QT
variable {s t u : wM} {n : Nat} {T : Nat → Nat → Bool} {S : Nat → Nat → Int} {D SP : Nat → Int} {ap fi bk : Int} {o : Option (List Int32)}
theorem CW.kq (h : CW s n T S D SP ap fi bk) (o : Off KWr s t) (z : ZW t) : CW t n T S D SP ap fi bk := by
  have z0 := h.2.2.2.2.2.2
  refine h.of fun k j hk => ?_
  by_cases h9 : (k = 14 ∨ k = 15) ∧ 9 ≤ j
  · obtain ⟨rfl | rfl, h9⟩ := h9
    · rw [(z j h9).1, (z0 j h9).1]
    · rw [(z j h9).2, (z0 j h9).2]
  · exact o.atW (by omega)
theorem WQ.trans (h1 : WQ s t none) (h2 : WQ t u o) : WQ s u o := by
  cases o with
  | none => exact ⟨h1.1.trans h2.1, h2.2⟩
  | some l => exact ⟨h1.off.1.trans h2.1, h2.2⟩
theorem MQn.trans (h1 : MQn s t none) (h2 : MQn t u o) : MQn s u o := by
  cases o with
  | none => exact ⟨h1.1.trans h2.1, h2.2⟩
  | some l => exact ⟨h1.off.1.trans h2.1, h2.2⟩
theorem CW.wq (h : CW s n T S D SP ap fi bk) (q : WQ s t none) : CW t n T S D SP ap fi bk := h.kq q.off.1 q.off.2
theorem CM.mq (h : CM s n T S D SP ap fi bk) (q : MQn s t none) : CM t n T S D SP ap fi bk := h.kq q.off.1 q.off.2
end QT
/-! pray -/
def pS (e : Int → Int) (p : Int × Int) (r : Int) : Int × Int := if e r < p.2 then (r, e r) else p
def pF (e : Int → Int) : Nat → Int × Int
  | 0 => (0, e 0)
  | i + 1 => pS e (pS e (pF e i) (-((i : Int) + 1))) ((i : Int) + 1)
theorem pS_bd {e : Int → Int} (he : ∀ r, 0 ≤ e r ∧ e r ≤ 40) {p : Int × Int} {r : Int} (hr : -9 ≤ r ∧ r ≤ 9) (hp : (-9 ≤ p.1 ∧ p.1 ≤ 9) ∧ 0 ≤ p.2 ∧ p.2 ≤ 40) : (-9 ≤ (pS e p r).1 ∧ (pS e p r).1 ≤ 9) ∧ 0 ≤ (pS e p r).2 ∧ (pS e p r).2 ≤ 40 := by
  have := he r
  unfold pS; split
  · simp only; omega
  · exact hp
theorem pF_bd {e : Int → Int} (he : ∀ r, 0 ≤ e r ∧ e r ≤ 40) : ∀ i, i ≤ 9 → (-9 ≤ (pF e i).1 ∧ (pF e i).1 ≤ 9) ∧ 0 ≤ (pF e i).2 ∧ (pF e i).2 ≤ 40
  | 0, _ => by have := he 0; unfold pF; simp only; omega
  | i + 1, h => pS_bd he (by omega) (pS_bd he (by omega) (pF_bd he i (by omega)))
theorem wh4_s {ρ A B C D : Type} {f : A → B → C → D → (A → B → C → D → Option ρ) → Option ρ} (n : Nat) (a : A) (b : B) (c : C) (d : D) : wh4 f (n + 1) a b c d = f a b c d (wh4 f n) := rfl
theorem wh4_1 {ρ A B C D : Type} {f : A → B → C → D → (A → B → C → D → Option ρ) → Option ρ} (a : A) (b : B) (c : C) (d : D) : wh4 f 100000 a b c d = f a b c d (wh4 f 99999) := wh4_s 99999 a b c d
theorem wh4_2 {ρ A B C D : Type} {f : A → B → C → D → (A → B → C → D → Option ρ) → Option ρ} (a : A) (b : B) (c : C) (d : D) : wh4 f 99999 a b c d = f a b c d (wh4 f 99998) := wh4_s 99998 a b c d
theorem wh4_3 {ρ A B C D : Type} {f : A → B → C → D → (A → B → C → D → Option ρ) → Option ρ} (a : A) (b : B) (c : C) (d : D) : wh4 f 99998 a b c d = f a b c d (wh4 f 99997) := wh4_s 99997 a b c d
def pN (e : Int → Int) (p : Int × Int) (r : Int) : Int × Int := (if e r < p.2 then r else p.1, min p.2 (e r))
theorem pN_pS (e : Int → Int) (p : Int × Int) (r : Int) : pN e p r = pS e p r := by
  unfold pN pS
  split
  · congr 1; omega
  · exact Prod.ext rfl (by simp only; omega)
def pM (e : Int → Int) : Nat → Int × Int
  | 0 => (0, 2147483647)
  | i + 1 => pN e (pN e (pM e i) (-1 * (i : Int))) (1 * (i : Int))
theorem pM_pF {e : Int → Int} (he : ∀ r, 0 ≤ e r ∧ e r ≤ 40) : ∀ i, pM e (i + 1) = pF e i
  | 0 => by
    have := he 0
    simp only [pM, pN, pF]
    simp
    omega
  | i + 1 => by
    rw [pM, pM_pF he i, pN_pS, pN_pS, pF, show (-1 * ((i + 1 : Nat) : Int)) = -((i : Int) + 1) by omega, show (1 * ((i + 1 : Nat) : Int)) = (i : Int) + 1 by omega]
theorem pM_bd {e : Int → Int} (he : ∀ r, 0 ≤ e r ∧ e r ≤ 40) : ∀ i, i ≤ 10 → 0 ≤ (pM e i).2 ∧ (pM e i).2 ≤ 2147483647
  | 0, _ => by simp only [pM]; omega
  | i + 1, h => by rw [pM_pF he i]; have := pF_bd he i (by omega); omega
section PR
variable {s t u : wM} {n : Nat} {T : Nat → Nat → Bool} {S : Nat → Nat → Int} {D SP : Nat → Int} {ap fi bk : Int} {bits : Nat}
def pE (n : Nat) (T : Nat → Nat → Bool) (S : Nat → Nat → Int) (SP : Nat → Int) (ap : Int) (D : Nat → Int) (bits : Nat) (r : Int) : Int := ep n T ap (wk n T S SP D r bits)
theorem W_ear (hv : CV n T S D SP ap fi bk) (hw : CW s n T S D SP ap fi bk) {r : Int} (hr : -9 ≤ r ∧ r ≤ 9) (hb : bits < 512) : ∃ t, fW_evenAfterRain s (iI r) (iI (bits : Int)) = some (iI (pE n T S SP ap D bits r), t) ∧ WQ s t none := by
  have hap : 0 ≤ ap ∧ ap ≤ 9 := by have := hv.2.2.2.2.2.1; omega
  obtain ⟨t0, e0, hA0, h80⟩ := W_look hv hw
  obtain ⟨t1, e1, hA1, _⟩ := W_week hv.1 hv.2.2.2.1 hA0 hr hb
  unfold fW_evenAfterRain
  rw [e0, Option.bind_some, e1, Option.bind_some, hA1.ep hv.1 hap, Option.bind_some]
  exact ⟨t1, rfl, hA1.wq hv.2.2.2.2.1⟩
theorem W_pray (hv : CV n T S D SP ap fi bk) (hw : CW s n T S D SP ap fi bk) {f : Int} (h1 : -2147483648 ≤ f) (h2 : f ≤ 2147483647) : ∃ s', fW_pray s (iI f) = some (iI (if 0 ≤ f ∧ f < ((2 ^ n : Nat) : Int) then (pF (pE n T S SP ap D f.toNat) 9).1 else -10), s') ∧ WQ s s' (if 0 ≤ f ∧ f < ((2 ^ n : Nat) : Int) then some [iI (pF (pE n T S SP ap D f.toNat) 9).2] else none) := by
  have hn := hv.1.1
  have hp2 : 2 ^ n ≤ 2 ^ 9 := Nat.pow_le_pow_right (by omega) hn
  unfold fW_pray
  rw [Land_hasAll hw.1 hn h1 h2, Option.bind_some]
  simp only [bI_0, decide_eq_false_iff_not]
  by_cases c1 : 0 ≤ f ∧ f < ((2 ^ n : Nat) : Int)
  · obtain ⟨b, rfl⟩ : ∃ g : Nat, f = g := ⟨f.toNat, by omega⟩
    have hb : b < 512 := by omega
    have he : ∀ r, 0 ≤ pE n T S SP ap D b r ∧ pE n T S SP ap D b r ≤ 40 := fun r => ep_nn hv.1 _ _
    rw [if_neg (by simpa using c1), if_pos c1, if_pos c1]
    simp only [Int.toNat_natCast]
    obtain ⟨t0, e0, q0⟩ := W_ear hv hw (r := 0) (by omega) hb
    rw [e0, Option.bind_some]
    dsimp only
    refine wh4_w (Q := fun x => ∃ s', x = some (iI (pF (pE n T S SP ap D b) 9).1, s') ∧ WQ s s' (some [iI (pF (pE n T S SP ap D b) 9).2])) (fun m x y z u => ∃ i : Nat, i ≤ 9 ∧ m = 9 - i ∧ x = iI (pF (pE n T S SP ap D b) i).1 ∧ y = iI (pF (pE n T S SP ap D b) i).2 ∧ z = iI ((i : Int) + 1) ∧ WQ s u none) ?_ 100000 9 _ _ _ t0 (by omega) ⟨0, by omega, rfl, rfl, rfl, rfl, q0⟩
    rintro m x y z u ⟨i, h1, rfl, rfl, rfl, rfl, hu⟩ c hc
    unfold fW_pray_L26
    by_cases hi : i < 9
    · rw [if_neg (by rw [iI_lt (by omega) (by omega) (by omega) (by omega)]; omega), iI_neg]
      have step : ∀ (p : Int × Int) (u : wM) (x : Int) k, (-9 ≤ x ∧ x ≤ 9) → x ≤ (i : Int) + 1 → (-9 ≤ p.1 ∧ p.1 ≤ 9) ∧ 0 ≤ p.2 ∧ p.2 ≤ 40 → WQ s u none → ∃ u', fW_pray_L38 c (iI (b : Int)) (iI ((i : Int) + 1)) (iI p.1) (iI p.2) (iI x) u k = k (iI (pS (pE n T S SP ap D b) p x).1) (iI (pS (pE n T S SP ap D b) p x).2) (iI (x + 2 * ((i : Int) + 1))) u' ∧ WQ s u' none := fun p u x k hx hx2 hp hu => by
        obtain ⟨t1, e1, q1⟩ := W_ear hv (hw.wq hu) hx hb
        have := he x
        unfold fW_pray_L38 fW_pray_J66
        rw [if_neg (by rw [iI_lt (by omega) (by omega) (by omega) (by omega)]; omega), e1, Option.bind_some, iI_mul, iI_add]
        refine ⟨t1, ?_, hu.trans q1⟩
        dsimp only
        unfold pS
        by_cases h : pE n T S SP ap D b x < p.2
        · rw [if_neg (by rw [iI_le (by omega) (by omega) (by omega) (by omega)]; omega), if_pos h]
        · rw [if_pos (by rw [iI_le (by omega) (by omega) (by omega) (by omega)]; omega), if_neg h]
      have b0 := pF_bd he i (by omega)
      have b1 := pS_bd he (r := -((i : Int) + 1)) (by omega) b0
      rw [wh4_1]
      obtain ⟨u1, e1, q1⟩ := step (pF (pE n T S SP ap D b) i) u (-((i : Int) + 1)) (wh4 (fW_pray_L38 c (iI (b : Int)) (iI ((i : Int) + 1))) 99999) (by omega) (by omega) b0 hu
      rw [e1, show (-((i : Int) + 1) + 2 * ((i : Int) + 1)) = (i : Int) + 1 by omega]
      rw [wh4_2]
      obtain ⟨u2, e2, q2⟩ := step (pS (pE n T S SP ap D b) (pF (pE n T S SP ap D b) i) (-((i : Int) + 1))) u1 ((i : Int) + 1) (wh4 (fW_pray_L38 c (iI (b : Int)) (iI ((i : Int) + 1))) 99998) (by omega) (by omega) b1 q1
      rw [e2]
      rw [wh4_3]
      unfold fW_pray_L38
      rw [if_pos (by rw [iI_lt (by omega) (by omega) (by omega) (by omega)]; omega), iI_add]
      exact hc (9 - (i + 1)) _ _ _ _ (by omega) ⟨i + 1, by omega, rfl, rfl, rfl, by simp, q2⟩
    · have : i = 9 := by omega
      subst this
      rw [if_pos (by decide)]
      obtain ⟨u', e, r, o⟩ := Num_tell (s := u) (v := iI (pF (pE n T S SP ap D b) 9).2)
      rw [e, Option.bind_some]
      exact ⟨u', rfl, hu.row o r (by simp)⟩
  · rw [if_pos c1, if_neg c1, if_neg c1]
    exact ⟨s, rfl, WQ.refl hw.2.2.2.2.2.2⟩
theorem M_pray (hv : CV n T S D SP ap fi bk) (hm : CM s n T S D SP ap fi bk) {f : Int} (h1 : -2147483648 ≤ f) (h2 : f ≤ 2147483647) : ∃ s', fM_pray s (iI f) = some (iI (if 0 ≤ f ∧ f < ((2 ^ n : Nat) : Int) then (pF (pE n T S SP ap D f.toNat) 9).1 else -10), s') ∧ MQn s s' (if 0 ≤ f ∧ f < ((2 ^ n : Nat) : Int) then some [iI (pF (pE n T S SP ap D f.toNat) 9).2] else none) := by
  have hn := hv.1.1
  have hp2 : 2 ^ n ≤ 2 ^ 9 := Nat.pow_le_pow_right (by omega) hn
  have hm1 := hm.thr (v := iI 0)
  have hz := hm.2.2.2.2.2.2
  have hap : 0 ≤ ap ∧ ap ≤ 9 := by have := hv.2.2.2.2.2.1; omega
  unfold fM_pray
  simp only [nmM]
  rw [M_areBits hn hm1.1 h1 h2, Option.bind_some]
  simp only [bI_0, decide_eq_false_iff_not]
  by_cases c1 : 0 ≤ f ∧ f < ((2 ^ n : Nat) : Int)
  · obtain ⟨b, rfl⟩ : ∃ g : Nat, f = g := ⟨f.toNat, by omega⟩
    have hb : b < 512 := by omega
    have he : ∀ r, 0 ≤ pE n T S SP ap D b r ∧ pE n T S SP ap D b r ≤ 40 := fun r => ep_nn hv.1 _ _
    rw [if_neg (by simpa using c1), if_pos c1, if_pos c1]
    simp only [Int.toNat_natCast]
    have step : ∀ (c : Int32 → Int32 → Int32 → wM → Option (Int32 × wM)) (p : Int × Int) (u : wM) (i y : Int) k, (0 ≤ i ∧ i ≤ 9) → (y = -1 ∨ y = 1) → 0 ≤ p.2 ∧ p.2 ≤ 2147483647 → MQn s u none → ∃ u', fM_pray_L35 c (iI (b : Int)) (iI i) (iI p.1) (iI p.2) (iI y) u k = k (iI (pN (pE n T S SP ap D b) p (y * i)).1) (iI (pN (pE n T S SP ap D b) p (y * i)).2) (iI (y + 2)) u' ∧ MQn s u' none := fun c p u i y k hi hy hp hu => by
      have hri : -9 ≤ y * i ∧ y * i ≤ 9 := by rcases hy with rfl | rfl <;> omega
      obtain ⟨t1, e1, hA1⟩ := M_start hv (hm.mq hu)
      obtain ⟨t2, e2, hA2⟩ := M_week hv.1 hv.2.2.2.1 hA1 hri hb
      have := he (y * i)
      unfold fM_pray_L35 fM_pray_J84
      rw [if_neg (by rw [iI_lt (by omega) (by omega) (by omega) (by omega)]; omega), e1, Option.bind_some, iI_mul, e2, Option.bind_some, hA2.ep hv.1 hap, Option.bind_some]
      refine ⟨t2, ?_, hu.trans (hA2.mq (hm.mq hu).2.2.2.2.2.2)⟩
      show (if iI p.2 ≤ iI (pE n T S SP ap D b (y * i)) then k _ (iMin (iI p.2) (iI (pE n T S SP ap D b (y * i)))) _ _ else k _ (iMin (iI p.2) (iI (pE n T S SP ap D b (y * i)))) _ _) = _
      rw [iMin_i (by omega) (by omega) (by omega) (by omega), iI_add]
      unfold pN
      by_cases h : pE n T S SP ap D b (y * i) < p.2
      · rw [if_neg (by rw [iI_le (by omega) (by omega) (by omega) (by omega)]; omega), if_pos h]
      · rw [if_pos (by rw [iI_le (by omega) (by omega) (by omega) (by omega)]; omega), if_neg h]
    refine wh4_w (Q := fun x => ∃ s', x = some (iI (pF (pE n T S SP ap D b) 9).1, s') ∧ MQn s s' (some [iI (pF (pE n T S SP ap D b) 9).2])) (fun m x y z u => ∃ i : Nat, i ≤ 10 ∧ m = 10 - i ∧ x = iI (pM (pE n T S SP ap D b) i).1 ∧ y = iI (pM (pE n T S SP ap D b) i).2 ∧ z = iI (i : Int) ∧ MQn s u none) ?_ 100000 10 _ _ _ (wsI s 161 0 (iI 0)) (by omega) ⟨0, by omega, rfl, rfl, rfl, rfl, MQn.thr hz⟩
    rintro m x y z u ⟨i, h1, rfl, rfl, rfl, rfl, hu⟩ c hc
    unfold fM_pray_L25
    by_cases hi : i < 10
    · rw [if_neg (by rw [iI_lt (by omega) (by omega) (by omega) (by omega)]; omega)]
      have bq := pM_bd he i (by omega)
      have r1 := he (-1 * (i : Int))
      rw [wh4_1]
      obtain ⟨u1, e1, q1⟩ := step c (pM (pE n T S SP ap D b) i) u (i : Int) (-1) (wh4 (fM_pray_L35 c (iI (b : Int)) (iI (i : Int))) 99999) (by omega) (Or.inl rfl) bq hu
      rw [e1, show ((-1 : Int) + 2) = 1 from rfl, wh4_2]
      obtain ⟨u2, e2, q2⟩ := step c (pN (pE n T S SP ap D b) (pM (pE n T S SP ap D b) i) (-1 * (i : Int))) u1 (i : Int) 1 (wh4 (fM_pray_L35 c (iI (b : Int)) (iI (i : Int))) 99998) (by omega) (Or.inr rfl) (by unfold pN; simp only; omega) q1
      rw [e2, show ((1 : Int) + 2) = 3 from rfl, wh4_3]
      unfold fM_pray_L35
      rw [if_pos (by decide), iI_add]
      exact hc (10 - (i + 1)) _ _ _ _ (by omega) ⟨i + 1, by omega, rfl, rfl, rfl, by simp, q2⟩
    · have : i = 10 := by omega
      subst this
      rw [if_pos (by decide)]
      obtain ⟨u', e, r, o⟩ := M_tell1 (t := u) (v := iI (pF (pE n T S SP ap D b) 9).2)
      simp only [nmM]
      rw [pM_pF he 9, e, Option.bind_some]
      exact ⟨u', rfl, hu.row o r⟩
  · rw [if_pos c1, if_neg c1, if_neg c1]
    exact ⟨_, rfl, MQn.thr hz⟩
end PR
theorem op33 : op_33 wInv := fun s a1 hI => by
  obtain ⟨n, T, S, D, SP, ap, fi, bk, G, w, pl, kp, tx, se, l, hv, hw, hm, _⟩ := id hI
  obtain ⟨x, x1, x2, rfl⟩ := exI a1
  obtain ⟨s1, e1, q1⟩ := W_pray hv.1 hw.1 x1 x2
  obtain ⟨s2, e2, q2⟩ := M_pray hv.1 (hm.1.byW q1.off.1) x1 x2
  exact ⟨_, s1, s2, e1, e2, wInv_q hI q1 q2⟩
