section MZ
variable {s t u : wM} {n : Nat} {T X : Nat → Nat → Bool} {S : Nat → Nat → Int} {D SP : Nat → Int} {ap fi bk : Int}
def K188 : Nat → Nat → Bool := fun k j => KT k j || k == 188
theorem MA.R188 {F : Nat → Int32} (h : MA s t n T S SP ap D) : MA (wRo t 188 F) (wRo t 188 F) n T S SP ap D := by
  obtain ⟨h1, h2, h3, h4, h5, h6⟩ := h
  exact ⟨h1.of (by rw [wR_ne (by decide)]) (wR_ne (by decide)) (wR_ne (by decide)), h2.ne (by decide), by rw [wR_ne (by decide)]; exact h3, h4.ne (by decide), Off.refl _, h6⟩
theorem K188.mq (hz : ZM s) (h : MA t t n T S SP ap D) (o : Off K188 s t) : MQn s t none := by
  refine ⟨o.mono fun k j hk => ?_, fun j hj => ?_⟩
  · simp only [K188, KMq, KT, Bool.or_eq_false_iff, Bool.and_eq_false_iff, decide_eq_false_iff_not, beq_eq_false_iff_ne] at hk ⊢; omega
  · rw [o 184 j rfl, show t.1 187 = _ from h.2.2.2.1]
    show s.1 184 j = iI 0 ∧ iI (D j) = iI 0
    rw [h.2.2.2.2.2.2 j hj]; exact ⟨(hz j hj).1, rfl⟩
def SWs (s : wM) (n : Nat) (X : Nat → Nat → Bool) : Prop := ∀ f, f < n → s.1 188 f = iI ((bt (X f) n : Nat) : Int)
theorem M_markL {k41 : Int32 → wM → Option (Int32 × wM)} {x1 x2 : Int32} (hv : CV n T S D SP ap fi bk) (h : MA s s n T S SP ap D) (hX : SWs s n X) : ∃ t, wh2 (fM_mercy_L58 k41 x1 x2) 100000 (iI 0) s = k41 (x2 + iI 1) t ∧ SWs t n (fun f g => X f g || ev T ap D f g) ∧ MA t t n T S SP ap D ∧ Off K188 s t := by
  have hn := hv.1.1
  have hap : 0 ≤ ap ∧ ap ≤ 9 := by have := hv.2.2.2.2.2.1; omega
  refine wh2_w (Q := fun x => ∃ t, x = k41 (x2 + iI 1) t ∧ SWs t n (fun f g => X f g || ev T ap D f g) ∧ MA t t n T S SP ap D ∧ Off K188 s t) (fun m x t => ∃ i : Nat, i ≤ n ∧ m = n - i ∧ x = iI (i : Int) ∧ (∀ f, f < n → t.1 188 f = iI ((bt (fun g => X f g || (decide (f < i) && ev T ap D f g)) n : Nat) : Int)) ∧ MA t t n T S SP ap D ∧ Off K188 s t) ?_ 100000 n _ s (by omega) ⟨0, by omega, rfl, rfl, fun f hf => by rw [hX f hf]; congr 2; exact bt_congr fun j _ => by simp, h, Off.refl s⟩
  rintro m x t ⟨i, h1, rfl, rfl, g1, ht, ho⟩ c hc
  unfold fM_mercy_L58
  rw [ht.1.1]
  by_cases hi : i < n
  · rw [if_neg (by rw [iI_le (by omega) (by omega) (by omega) (by omega)]; omega), chk_in (by omega) (by omega) (by omega), M_evenWith hv.1 ht.1 ht.2.2.2.1 ht.2.2.2.2.2.1 ht.2.2.1 hap (by omega), Option.bind_some, iI_natc (by omega), g1 i hi, bt_or_bt hn, iI_add]
    simp only [nmM]
    rw [wsI_asR]
    refine hc (n - (i + 1)) _ _ (by omega) ⟨i + 1, by omega, rfl, by simp, fun f hf => ?_, ht.R188, wR_off ho fun j => rfl⟩
    rw [wRo_at]
    by_cases e : f = i
    · subst e
      rw [if_pos rfl]
      congr 2
      exact bt_congr fun j _ => by simp
    · rw [if_neg e, g1 f hf]
      congr 2
      refine bt_congr fun j _ => ?_
      rw [show decide (f < i + 1) = decide (f < i) by simp; omega]
  · have : i = n := by omega
    subst this
    rw [if_pos (by rw [iI_le (by omega) (by omega) (by omega) (by omega)]; omega)]
    exact ⟨t, rfl, fun f hf => by rw [g1 f hf]; congr 2; exact bt_congr fun j _ => by simp [hf], ht, ho⟩
theorem M_covL {k138 : Int32 → Int32 → Option (Int32 × wM)} {x2 x3 : Int32} {x : Nat} {b : Bool} (hn : n ≤ 9) (hL : s.1 161 3 = iI (n : Int)) (hX : SWs s n X) (hx : x < 512) : fM_mercy_J160 k138 x2 x3 (iI (x : Int)) (bI b) s = if b && cov n X x then k138 (iI (x : Int)) (iI (x : Int) + iI (-1)) else k138 x3 (iI (x : Int) + iI (-1)) := by
  have J : ∀ q : Bool, fM_mercy_J217 k138 x2 x3 (iI (x : Int)) (bI q) s = if q then k138 (iI (x : Int)) (iI (x : Int) + iI (-1)) else k138 x3 (iI (x : Int) + iI (-1)) := fun q => by
    unfold fM_mercy_J217 fM_mercy_J228
    cases q <;> rfl
  unfold fM_mercy_J160
  refine wh2_w (Q := fun y => y = if b && cov n X x then k138 (iI (x : Int)) (iI (x : Int) + iI (-1)) else k138 x3 (iI (x : Int) + iI (-1))) (fun m y z => ∃ i : Nat, i ≤ n ∧ m = n - i ∧ y = bI (b && alB (fun f => x.testBit f || czz n X x f) i) ∧ z = iI (i : Int)) ?_ 100000 n _ _ (by omega) ⟨0, by omega, rfl, by simp [alB], rfl⟩
  rintro m y z ⟨i, h1, rfl, rfl, rfl⟩ c hc
  unfold fM_mercy_L165 fM_mercy_J204 fM_mercy_J209
  rw [hL]
  by_cases hi : i < n
  · rw [if_neg (by rw [iI_le (by omega) (by omega) (by omega) (by omega)]; omega)]
    simp only [bI_0]
    cases hq : (b && alB (fun f => x.testBit f || czz n X x f) i)
    · rw [if_pos rfl, J]
      have : (b && cov n X x) = false := by
        cases b with
        | false => rfl
        | true => rw [Bool.true_and] at hq ⊢; exact alB_mono hq h1
      rw [this]
    · rw [if_neg (by decide), M_has hx (by omega), Option.bind_some, chk_in (by omega) (by omega) (by omega), iI_natc (by omega), hX i hi, iI_add]
      simp only [bI_0]
      have hk := hc (n - (i + 1)) _ _ (by omega) ⟨i + 1, by omega, rfl, rfl, rfl⟩
      rw [show alB (fun f => x.testBit f || czz n X x f) (i + 1) = (alB (fun f => x.testBit f || czz n X x f) i && (x.testBit i || czz n X x i)) from rfl, ← Bool.and_assoc, hq, Bool.true_and] at hk
      unfold czz at hk
      by_cases h : x.testBit i = false
      · rw [if_pos h]
        by_cases h2 : (iI ((bt (X i) n : Nat) : Int) &&& (iI (x : Int) ^^^ iI (-1))) = iI 0
        · rw [if_pos h2]; rw [decide_eq_true h2, Bool.or_true] at hk; exact hk
        · rw [if_neg h2]; rw [decide_eq_false h2, h] at hk; exact hk
      · rw [if_neg h]
        rw [show x.testBit i = true by simpa using h, Bool.true_or] at hk; exact hk
  · have : i = n := by omega
    subst this
    rw [if_pos (by rw [iI_le (by omega) (by omega) (by omega) (by omega)]; omega), J]; rfl
theorem M_mercy (hv : CV n T S D SP ap fi bk) (hm : CM s n T S D SP ap fi bk) {m : Int} (h3 : -2147483648 ≤ m) (h4 : m ≤ 2147483647) : ∃ s', fM_mercy s (iI m) = some (if 0 ≤ m ∧ m ≤ 100 then meA n T S SP ap D m.toNat else iI (-1), s') ∧ MQn s s' (if 0 ≤ m ∧ m ≤ 100 then some [meR n T S SP ap D m.toNat] else none) := by
  have hn := hv.1.1
  have hp2 : 2 ^ n ≤ 2 ^ 9 := Nat.pow_le_pow_right (by omega) hn
  have hp0 : 0 < 2 ^ n := Nat.pos_of_ne_zero (by simp)
  have hm1 := hm.thr (v := iI 0)
  have hz := hm.2.2.2.2.2.2
  unfold fM_mercy
  simp only [nmM]
  rw [M_isHundred h3 h4, Option.bind_some]
  simp only [bI_0, decide_eq_false_iff_not]
  by_cases c1 : 0 ≤ m ∧ m ≤ 100
  · rw [if_neg (by simpa using c1), if_pos c1, if_pos c1]
    obtain ⟨q, rfl⟩ : ∃ q : Nat, m = q := ⟨m.toNat, by omega⟩
    simp only [Int.toNat_natCast]
    obtain ⟨t, e, hA⟩ := M_start hv hm1
    have hA' := hA.pre
    rw [e, Option.bind_some]
    have ot : Off K188 s t := hA'.2.2.2.2.1.mono fun k j hk => by simp only [K188, Bool.or_eq_false_iff] at hk; exact hk.1
    have eL : wh2 (fM_mercy_L20 (iI (q : Int))) 100000 (iI 0) t = wh2 (fM_mercy_L41 (iI (q : Int))) 100000 (iI 0) (wRo t 188 (fun j => if j < 9 then iI 0 else t.1 188 j)) := by
      have e0 : t = wRo t 188 (fun j => if j < 0 then iI 0 else t.1 188 j) := (wR_id (by funext j; simp)).symm
      conv => lhs; arg 4; rw [e0]
      refine for2b (fun i => wRo t 188 (fun j => if j < i then iI 0 else t.1 188 j)) (i0 := 0) (n := 9) (Nat.zero_le _) (by omega) (fun i _ hi c => ?_) (fun c => ?_)
      · unfold fM_mercy_L20
        rw [if_neg (by rw [iI_le (by omega) (by omega) (by omega) (by omega)]; omega), chk_in (by omega) (by omega) (by omega), iI_natc (by omega), iI_add]
        simp only [nmM]
        rw [wsI_Rr]
        congr 2
        funext x
        by_cases h1 : x = i
        · subst h1; rw [if_pos rfl, if_pos (by omega)]
        · rw [if_neg h1]
          by_cases h2 : x < i
          · rw [if_pos h2, if_pos (by omega)]
          · rw [if_neg h2, if_neg (by omega)]
      · unfold fM_mercy_L20
        rw [if_pos (by decide)]
    rw [eL]
    have hX1 : SWs (wRo t 188 (fun j => if j < 9 then iI 0 else t.1 188 j)) n (mX n T S SP ap D 0) := fun f hf => by
      rw [wRo_at, if_pos (by omega), bt_false (P := mX n T S SP ap D 0 f) fun j _ => rfl]; rfl
    refine wh2_w (Q := fun x => ∃ s', x = some (meA n T S SP ap D q, s') ∧ MQn s s' (some [meR n T S SP ap D q])) (fun m x u => ∃ i : Nat, i ≤ q ∧ m = q - i ∧ x = iI (i : Int) ∧ MA u u n T S SP ap (it n T S SP D i) ∧ SWs u n (mX n T S SP ap D i) ∧ Off K188 s u) ?_ 100000 q _ _ (by omega) ⟨0, by omega, rfl, rfl, hA.R188, hX1, wR_off ot fun j => rfl⟩
    rintro m x u ⟨i, h1, rfl, rfl, hu, hXu, ho⟩ c hc
    unfold fM_mercy_L41
    by_cases hi : i < q
    · rw [if_neg (by rw [iI_le (by omega) (by omega) (by omega) (by omega)]; omega)]
      obtain ⟨u', e, hu'⟩ := M_week hv.1 hv.2.2.2.1 hu (rain := 0) (bits := 0) (by omega) (by omega)
      have ho' : Off K188 s u' := ho.trans (hu'.2.2.2.2.1.mono fun k j hk => by simp only [K188, Bool.or_eq_false_iff] at hk; exact hk.1)
      have hX' : SWs u' n (mX n T S SP ap D i) := fun f hf => by rw [hu'.2.2.2.2.1 188 f rfl]; exact hXu f hf
      have hvi : CV n T S (wk n T S SP (it n T S SP D i) 0 0) SP ap fi bk := ⟨hv.1, hu'.2.2.2.2.2.1, hu'.2.2.2.2.2.2, hv.2.2.2⟩
      obtain ⟨u2, e2, hX2, hu2, o2⟩ := M_markL (k41 := c) (x1 := iI (q : Int)) (x2 := iI (i : Int)) hvi hu'.self hX'
      rw [show iI (0 : Int) = iI ((0 : Nat) : Int) from rfl] at e ⊢
      rw [e, Option.bind_some, show iI ((0 : Nat) : Int) = iI 0 from rfl, e2, iI_add]
      exact hc (q - (i + 1)) _ _ (by omega) ⟨i + 1, by omega, rfl, by simp, hu2, hX2, ho'.trans o2⟩
    · have : i = q := by omega
      subst this
      rw [if_pos (by rw [iI_le (by omega) (by omega) (by omega) (by omega)]; omega)]
      generalize hXe : mX n T S SP ap D i = X at hXu
      have hA0 : meA n T S SP ap D i = iI (sm (fun a => (cnt (X a) n : Int)) n) / iI 2 := by unfold meA; rw [hXe]
      have hR0 : meR n T S SP ap D i = iI ((scF (cov n X) n (2 ^ n) : Nat) : Int) := by unfold meR; rw [hXe]
      rw [hA0, hR0]
      have hLC := scF_LC (P := cov n X) hn (cov_full hn)
      have e1 : wh2 (fM_mercy_L100 u) 100000 (iI 0) (iI 0) = wh2 (fM_mercy_L138 (iI (sm (fun a => (cnt (X a) n : Int)) n)) u) 100000 (iI ((2 ^ n - 1 : Nat) : Int)) (iI ((2 ^ n - 1 : Nat) : Int)) := by
        refine for2a (f := fM_mercy_L100 u) (fun i => iI (sm (fun a => (cnt (X a) n : Int)) i)) (i0 := 0) (n := n) (Nat.zero_le _) (by omega) (fun f _ hf k => ?_) (fun k => ?_)
        · unfold fM_mercy_L100
          rw [hu.1.1, if_neg (by rw [iI_le (by omega) (by omega) (by omega) (by omega)]; omega), chk_in (by omega) (by omega) (by omega), iI_natc (by omega), hXu f hf, bitc_bt hn, Option.bind_some, iI_add, iI_add]; rfl
        · unfold fM_mercy_L100
          rw [hu.1.1, if_pos (by rw [iI_le (by omega) (by omega) (by omega) (by omega)]; omega), shl1 (by omega), (pow_cast hn).1]
      rw [e1]
      refine wh2_w (Q := fun x => ∃ s', x = some (iI (sm (fun a => (cnt (X a) n : Int)) n) / iI 2, s') ∧ MQn s s' (some [iI ((scF (cov n X) n (2 ^ n) : Nat) : Int)])) (fun m x y => ∃ j r : Nat, j ≤ 2 ^ n ∧ j = m ∧ x = iI (r : Int) ∧ y = iI ((j : Int) - 1) ∧ r < 2 ^ n ∧ cov n X r = true ∧ ∀ z, j ≤ z → z < 2 ^ n → cov n X z = true → bc r ≤ bc z ∧ (bc z = bc r → r ≤ z)) ?_ 100000 (2 ^ n) _ _ (by omega) ⟨2 ^ n, 2 ^ n - 1, by omega, rfl, rfl, iI_congr (by omega), by omega, cov_full hn, fun z h1 h2 => by omega⟩
      rintro m x y ⟨j, r, k1, rfl, rfl, rfl, k2, k3, k4⟩ c hc
      unfold fM_mercy_L138
      by_cases hj : j = 0
      · subst hj
        rw [if_pos (by decide)]
        have hr : r = scF (cov n X) n (2 ^ n) := LC_uni ⟨k2, k3, fun z hz => k4 z (by omega) hz⟩ hLC
        rw [← hr]
        simp only [nmM]
        obtain ⟨u', e, rr, o⟩ := M_tell1 (t := u) (v := iI (r : Int))
        rw [e, Option.bind_some]
        exact ⟨u', rfl, (K188.mq hz hu ho).row o rr⟩
      · obtain ⟨z, rfl⟩ : ∃ z, j = z + 1 := ⟨j - 1, by omega⟩
        have b1 := bc_le z
        have b2 := bc_le r
        rw [show ((z + 1 : Nat) : Int) - 1 = (z : Int) by omega, if_neg (by rw [iI_lt (by omega) (by omega) (by omega) (by omega)]; omega), bitc (by omega), Option.bind_some, bitc (by omega), Option.bind_some]
        have e0 := M_covL (k138 := c) (x2 := iI (sm (fun a => (cnt (X a) n : Int)) n)) (x3 := iI (r : Int)) (x := z) (b := false) hn hu.1.1 hXu (by omega)
        have e1 := M_covL (k138 := c) (x2 := iI (sm (fun a => (cnt (X a) n : Int)) n)) (x3 := iI (r : Int)) (x := z) (b := true) hn hu.1.1 hXu (by omega)
        rw [bI_f] at e0
        rw [bI_t] at e1
        rw [e0, e1, iI_add]
        show ∃ s', (if iI ((bc r : Nat) : Int) < iI ((bc z : Nat) : Int) then _ else _) = _ ∧ _
        have skip : (cov n X z = true → bc r < bc z) → ∃ s', c (iI (r : Int)) (iI ((z : Int) + -1)) = some (iI (sm (fun a => (cnt (X a) n : Int)) n) / iI 2, s') ∧ MQn s s' (some [iI ((scF (cov n X) n (2 ^ n) : Nat) : Int)]) := fun hsk => hc z _ _ (by omega) ⟨z, r, by omega, rfl, rfl, rfl, k2, k3, fun y h1 h2 h3 => by
          by_cases e : y = z
          · subst e; have := hsk h3; omega
          · exact k4 y (by omega) h2 h3⟩
        by_cases h : bc r < bc z
        · rw [if_pos (by rw [iI_lt (by omega) (by omega) (by omega) (by omega)]; omega), if_neg (by simp)]
          exact skip fun _ => h
        · rw [if_neg (by rw [iI_lt (by omega) (by omega) (by omega) (by omega)]; omega)]
          cases hk : cov n X z
          · rw [if_neg (by simp)]
            exact skip fun h => by rw [hk] at h; cases h
          · rw [if_pos (by simp)]
            refine hc z _ _ (by omega) ⟨z, z, by omega, rfl, rfl, rfl, by omega, hk, fun y h1 h2 h3 => ?_⟩
            by_cases e : y = z
            · subst e; omega
            · have := k4 y (by omega) h2 h3; omega
  · rw [if_pos c1, if_neg c1, if_neg c1]
    exact ⟨_, rfl, MQn.thr hz⟩
end MZ
theorem op29 : op_29 wInv := fun s a1 hI => by
  obtain ⟨n, T, S, D, SP, ap, fi, bk, G, w, pl, kp, tx, se, l, hv, hw, hm, _⟩ := id hI
  obtain ⟨x, x1, x2, rfl⟩ := exI a1
  obtain ⟨s1, e1, q1⟩ := W_mercy hv.1 hw.1 x1 x2
  obtain ⟨s2, e2, q2⟩ := M_mercy hv.1 (hm.1.byW q1.off.1) x1 x2
  exact ⟨_, s1, s2, e1, e2, wInv_q hI q1 q2⟩
