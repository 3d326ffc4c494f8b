/-! the graph -/
def GW (s : wM) (n : Nat) (X : Nat → Nat → Bool) : Prop := s.1 28 2 = iI (n : Int) ∧ ∀ f, f < n → s.1 31 f = iI ((bt (X f) n : Nat) : Int)
theorem GW.of {s t : wM} {n : Nat} {X : Nat → Nat → Bool} (h : GW s n X) (e1 : t.1 28 2 = s.1 28 2) (e2 : t.1 31 = s.1 31) : GW t n X := ⟨by rw [e1]; exact h.1, fun f hf => by rw [e2]; exact h.2 f hf⟩
def KGr : Nat → Nat → Bool := fun k _ => decide (28 ≤ k) && decide (k ≤ 31)
theorem KGr_f {a j : Nat} (h : ¬ (28 ≤ a ∧ a ≤ 31)) : KGr a j = false := by simp only [KGr, Bool.and_eq_false_iff, decide_eq_false_iff_not]; omega
theorem KGr.wq {s t : wM} (hz : ZW s) (o : Off KGr s t) : WQ s t none := ⟨o.mono fun k j hk => KGr_f (by
  simp only [KWq, Bool.or_eq_false_iff, Bool.and_eq_false_iff, decide_eq_false_iff_not, beq_eq_false_iff_ne] at hk; omega), fun j hj => by rw [o 14 j rfl, o 15 j rfl]; exact hz j hj⟩
def bc (x : Nat) : Nat := cnt (fun j => x.testBit j) 9
theorem bc_le (x : Nat) : bc x ≤ 9 := cnt_le _ _
theorem alB_mono {P : Nat → Bool} {i n : Nat} (h : alB P i = false) (hi : i ≤ n) : alB P n = false := by
  cases e : alB P n with
  | false => rfl
  | true => rw [alB_t.mpr fun j hj => alB_t.mp e j (by omega)] at h; cases h
section GR
variable {s t u : wM} {n : Nat} {T X : Nat → Nat → Bool} {S : Nat → Nat → Int} {D SP : Nat → Int} {ap fi bk : Int}
theorem Gr_look (hS : Cty n T S) (hL : LW s n T S) : ∃ t, fGr_look s = some t ∧ GW t n T ∧ Off KGr s t := by
  have hn := hS.1
  unfold fGr_look
  simp only [nmM]
  rw [hL.1]
  refine wh2_w (Q := fun x => ∃ t, x = some t ∧ GW t n T ∧ Off KGr s t) (fun m x t => ∃ i : Nat, i ≤ n ∧ m = n - i ∧ x = iI (i : Int) ∧ t.1 28 2 = iI (n : Int) ∧ (∀ f, f < i → t.1 31 f = iI ((bt (T f) n : Nat) : Int)) ∧ Off KGr s t) ?_ 100000 n _ (wsI s 28 2 (iI (n : Int))) (by omega) ⟨0, by omega, rfl, rfl, rd_at, fun f hf => by omega, (Off.refl s).set rfl⟩
  rintro m x t ⟨i, h1, rfl, rfl, g1, g2, ho⟩ c hc
  unfold fGr_look_L10
  rw [g1]
  by_cases hi : i < n
  · rw [if_neg (by rw [iI_le (by omega) (by omega) (by omega) (by omega)]; omega), Land_touching hS (hL.of (ho 7 4 rfl) (ho.row fun j => rfl)) (by omega), Option.bind_some, chk_in (by omega) (by omega) (by omega), iI_natc (by omega), iI_add]
    simp only [nmM]
    refine hc (n - (i + 1)) _ _ (by omega) ⟨i + 1, by omega, rfl, by simp, by rw [rd_ne (by decide)]; exact g1, fun f hf => ?_, ho.set rfl⟩
    rw [rd_if]
    by_cases e : f = i
    · subst e; rw [if_pos rfl]
    · rw [if_neg e]; exact g2 f (by omega)
  · have : i = n := by omega
    subst this
    rw [if_pos (by rw [iI_le (by omega) (by omega) (by omega) (by omega)]; omega)]
    exact ⟨t, rfl, ⟨g1, g2⟩, ho⟩
def kpp (n : Nat) (X : Nat → Nat → Bool) (x f : Nat) : Bool := decide ((iI (x : Int) &&& (iI ((bt (X f) n : Nat) : Int) ^^^ iI (-1))) = iI ((2 ^ f : Nat) : Int))
def knot (n : Nat) (X : Nat → Nat → Bool) (x : Nat) : Bool := alB (fun f => !(x.testBit f) || kpp n X x f) n
theorem Gr_isKnot {x : Nat} (hn : n ≤ 9) (hG : GW s n X) (hx : x < 512) : fGr_isKnot s (iI (x : Int)) = some (bI (knot n X x)) := by
  have step : ∀ i : Nat, i < n → ∀ k, fGr_isKnot_L2 (iI (x : Int)) s (iI (i : Int)) k = if !(x.testBit i) || kpp n X x i then k (iI ((i : Int) + 1)) else some (iI 0) := fun i hi k => by
    unfold fGr_isKnot_L2 fGr_isKnot_J37
    rw [hG.1, if_neg (by rw [iI_le (by omega) (by omega) (by omega) (by omega)]; omega), chk_in (by omega) (by omega) (by omega), iI_natc (by omega), hG.2 i hi, shl1 (by omega), iI_add]
    simp only [has_bit hx (show i < 9 by omega)]
    unfold kpp
    by_cases h : x.testBit i = true
    · rw [if_pos h]
      by_cases h2 : (iI (x : Int) &&& (iI ((bt (X i) n : Nat) : Int) ^^^ iI (-1))) = iI ((2 ^ i : Nat) : Int)
      · rw [if_pos h2, if_pos (by simp [h2])]
      · rw [if_neg h2, if_neg (by rw [h, decide_eq_false h2]; decide)]
    · rw [if_neg h, if_pos (by simp [h])]
  have fin : ∀ k, fGr_isKnot_L2 (iI (x : Int)) s (iI (n : Int)) k = some (iI 1) := fun k => by
    unfold fGr_isKnot_L2
    rw [hG.1, if_pos (by rw [iI_le (by omega) (by omega) (by omega) (by omega)]; omega)]
  unfold fGr_isKnot
  rcases first_or (fun f => !(x.testBit f) || kpp n X x f) n with h | ⟨i, h1, h2, h3⟩
  · rw [show knot n X x = true from alB_t.mpr h, bI_t]
    exact for1 (i0 := 0) (n := n) (Nat.zero_le _) (by omega) (fun i _ hi k => by rw [step i hi k]; exact if_pos (h i hi)) fin
  · rw [show knot n X x = false from alB_f h1 h2, bI_f]
    exact for1 (i0 := 0) (n := i) (Nat.zero_le _) (by omega) (fun j _ hj k => by rw [step j (by omega) k]; exact if_pos (h3 j hj)) (fun k => by rw [step i h1 k]; exact if_neg (by simpa using h2))
def cqF (n : Nat) (X : Nat → Nat → Bool) : Nat → Nat
  | 0 => 0
  | i + 1 => if decide (bc (cqF n X i) < bc i) && knot n X i then i else cqF n X i
theorem cqF_lt (n : Nat) (X : Nat → Nat → Bool) : ∀ i, cqF n X i ≤ i
  | 0 => Nat.le_refl 0
  | i + 1 => by have := cqF_lt n X i; unfold cqF; split <;> omega
theorem cqF_1 : cqF n X 1 = 0 := by unfold cqF; simp [cqF]
theorem Gr_largestKnot (hn : n ≤ 9) (hG : GW s n X) : fGr_largestKnot s = some (iI ((cqF n X (2 ^ n) : Nat) : Int)) := by
  have hp2 : 2 ^ n ≤ 2 ^ 9 := Nat.pow_le_pow_right (by omega) hn
  have hp0 : 0 < 2 ^ n := Nat.pos_of_ne_zero (by simp)
  unfold fGr_largestKnot
  have := for2a (f := fGr_largestKnot_L4 s) (fun i => iI ((cqF n X i : Nat) : Int)) (i0 := 1) (n := 2 ^ n) (r := some (iI ((cqF n X (2 ^ n) : Nat) : Int))) (by omega) (by omega) (fun i h1 hi k => ?_) (fun k => ?_)
  · rw [cqF_1] at this; exact this
  · have hcl := cqF_lt n X i
    have b1 := bc_le i
    have b2 := bc_le (cqF n X i)
    unfold fGr_largestKnot_L4 fGr_largestKnot_J35
    rw [hG.1, shl1 (by omega), if_neg (by rw [iI_le (by omega) (by omega) (by omega) (by omega)]; omega), bitc (by omega), Option.bind_some, bitc (by omega), Option.bind_some, Gr_isKnot hn hG (by omega), Option.bind_some, iI_add]
    simp only [bI_0]
    show (if iI ((bc i : Nat) : Int) ≤ iI ((bc (cqF n X i) : Nat) : Int) then _ else _) = k (iI (((if decide (bc (cqF n X i) < bc i) && knot n X i then i else cqF n X i) : Nat) : Int)) _
    by_cases h : bc (cqF n X i) < bc i
    · rw [if_neg (by rw [iI_le (by omega) (by omega) (by omega) (by omega)]; omega)]
      cases hk : knot n X i
      · rw [if_pos rfl, if_neg (by simp)]
      · rw [if_neg (by decide), if_pos (by simp [h])]
    · rw [if_pos (by rw [iI_le (by omega) (by omega) (by omega) (by omega)]; omega), if_neg (by simp [h])]
  · unfold fGr_largestKnot_L4
    rw [hG.1, shl1 (by omega), if_pos (by rw [iI_le (by omega) (by omega) (by omega) (by omega)]; omega)]
theorem W_clique (hv : CV n T S D SP ap fi bk) (hw : CW s n T S D SP ap fi bk) : ∃ s', fW_clique s = some (iI ((bc (cqF n T (2 ^ n)) : Nat) : Int), s') ∧ WQ s s' (some [iI ((cqF n T (2 ^ n) : Nat) : Int)]) := by
  have hn := hv.1.1
  have hp2 : 2 ^ n ≤ 2 ^ 9 := Nat.pow_le_pow_right (by omega) hn
  obtain ⟨t, e, hG, o⟩ := Gr_look hv.1 hw.1
  have hlt : cqF n T (2 ^ n) < 512 := by
    obtain ⟨q, hq⟩ : ∃ q, 2 ^ n = q + 1 := ⟨2 ^ n - 1, by have : 0 < 2 ^ n := Nat.pos_of_ne_zero (by simp); omega⟩
    have h2 : cqF n T (q + 1) ≤ q := by
      have := cqF_lt n T q
      show (if _ then _ else _) ≤ q
      split <;> omega
    rw [hq]; omega
  unfold fW_clique
  rw [e, Option.bind_some, Gr_largestKnot hn hG, Option.bind_some]
  obtain ⟨u, e2, r, o2⟩ := Num_tell (s := t) (v := iI ((cqF n T (2 ^ n) : Nat) : Int))
  rw [e2, Option.bind_some, bitc hlt, Option.bind_some]
  exact ⟨u, rfl, (KGr.wq hw.2.2.2.2.2.2 o).row o2 r (by simp)⟩
theorem M_knotL {k9 : Int32 → Int32 → Option (Int32 × wM)} {x1 : Int32} {x : Nat} {b : Bool} (hS : Cty n T S) (hL : LM s n T S) (hx : x < 512) : fM_clique_J35 k9 x1 (iI (x : Int)) (bI b) s = if b && knot n T x then k9 (iI (x : Int)) (iI (x : Int) + iI 1) else k9 x1 (iI (x : Int) + iI 1) := by
  have hn := hS.1
  have J : ∀ q : Bool, fM_clique_J91 k9 x1 (iI (x : Int)) (bI q) s = if q then k9 (iI (x : Int)) (iI (x : Int) + iI 1) else k9 x1 (iI (x : Int) + iI 1) := fun q => by
    unfold fM_clique_J91 fM_clique_J100
    cases q <;> rfl
  unfold fM_clique_J35
  refine wh2_w (Q := fun y => y = if b && knot n T x then k9 (iI (x : Int)) (iI (x : Int) + iI 1) else k9 x1 (iI (x : Int) + iI 1)) (fun m y z => ∃ i : Nat, i ≤ n ∧ m = n - i ∧ y = bI (b && alB (fun f => !(x.testBit f) || kpp n T x f) i) ∧ z = iI (i : Int)) ?_ 100000 n _ _ (by omega) ⟨0, by omega, rfl, by simp [alB], rfl⟩
  rintro m y z ⟨i, h1, rfl, rfl, rfl⟩ c hc
  unfold fM_clique_L39 fM_clique_J79 fM_clique_J84
  rw [hL.1]
  by_cases hi : i < n
  · rw [if_neg (by rw [iI_le (by omega) (by omega) (by omega) (by omega)]; omega)]
    simp only [bI_0]
    cases hq : (b && alB (fun f => !(x.testBit f) || kpp n T x f) i)
    · rw [if_pos rfl, J]
      have : (b && knot n T x) = false := by
        cases b with
        | false => rfl
        | true => rw [Bool.true_and] at hq ⊢; exact alB_mono hq h1
      rw [this]
    · rw [if_neg (by decide), M_has hx (by omega), Option.bind_some, chk_in (by omega) (by omega) (by omega), iI_natc (by omega), hL.2.1 i (by omega), bt_T hS, shl1 (by omega), iI_add]
      simp only [bI_0]
      have hk := hc (n - (i + 1)) _ _ (by omega) ⟨i + 1, by omega, rfl, rfl, rfl⟩
      rw [show alB (fun f => !(x.testBit f) || kpp n T x f) (i + 1) = (alB (fun f => !(x.testBit f) || kpp n T x f) i && (!(x.testBit i) || kpp n T x i)) from rfl, ← Bool.and_assoc, hq, Bool.true_and] at hk
      unfold kpp at hk
      by_cases h : x.testBit i = true
      · rw [if_neg (by rw [h]; decide)]
        by_cases h2 : (iI (x : Int) &&& (iI ((bt (T i) n : Nat) : Int) ^^^ iI (-1))) = iI ((2 ^ i : Nat) : Int)
        · rw [if_pos h2]; rw [show (!(x.testBit i) || decide ((iI (x : Int) &&& (iI ((bt (T i) n : Nat) : Int) ^^^ iI (-1))) = iI ((2 ^ i : Nat) : Int))) = true by simp [h2]] at hk; exact hk
        · rw [if_neg h2]; rw [show (!(x.testBit i) || decide ((iI (x : Int) &&& (iI ((bt (T i) n : Nat) : Int) ^^^ iI (-1))) = iI ((2 ^ i : Nat) : Int))) = false by rw [h, decide_eq_false h2]; rfl] at hk; exact hk
      · rw [if_pos (by simpa using h)]
        rw [show (!(x.testBit i) || decide ((iI (x : Int) &&& (iI ((bt (T i) n : Nat) : Int) ^^^ iI (-1))) = iI ((2 ^ i : Nat) : Int))) = true by simp [h]] at hk; exact hk
  · have : i = n := by omega
    subst this
    rw [if_pos (by rw [iI_le (by omega) (by omega) (by omega) (by omega)]; omega), J]; rfl
theorem M_clique (hv : CV n T S D SP ap fi bk) (hm : CM s n T S D SP ap fi bk) : ∃ s', fM_clique s = some (iI ((bc (cqF n T (2 ^ n)) : Nat) : Int), s') ∧ MQn s s' (some [iI ((cqF n T (2 ^ n) : Nat) : Int)]) := by
  have hn := hv.1.1
  have hp2 : 2 ^ n ≤ 2 ^ 9 := Nat.pow_le_pow_right (by omega) hn
  have hp0 : 0 < 2 ^ n := Nat.pos_of_ne_zero (by simp)
  have hm1 := hm.thr (v := iI 0)
  have hz := hm.2.2.2.2.2.2
  have hq1 := MQn.thr (v := iI 0) hz
  unfold fM_clique
  simp only [nmM]
  generalize wsI s 161 0 (iI 0) = s1 at hm1 hq1 ⊢
  have hlt : cqF n T (2 ^ n) < 512 := by
    obtain ⟨q, hq⟩ : ∃ q, 2 ^ n = q + 1 := ⟨2 ^ n - 1, by omega⟩
    have h2 : cqF n T (q + 1) ≤ q := by
      have := cqF_lt n T q
      show (if _ then _ else _) ≤ q
      split <;> omega
    rw [hq]; omega
  obtain ⟨u, e2, r, o2⟩ := M_tell1 (t := s1) (v := iI ((cqF n T (2 ^ n) : Nat) : Int))
  refine ⟨u, ?_, hq1.row o2 r⟩
  have := for2a (f := fM_clique_L9 s1) (fun i => iI ((cqF n T i : Nat) : Int)) (i0 := 1) (n := 2 ^ n) (r := some (iI ((bc (cqF n T (2 ^ n)) : Nat) : Int), u)) (by omega) (by omega) (fun i h1 hi k => ?_) (fun k => ?_)
  · rw [cqF_1] at this; exact this
  · have hcl := cqF_lt n T i
    have b1 := bc_le i
    have b2 := bc_le (cqF n T i)
    unfold fM_clique_L9
    rw [hm1.1.1, shl1 (by omega), if_neg (by rw [iI_le (by omega) (by omega) (by omega) (by omega)]; omega), bitc (by omega), Option.bind_some, bitc (by omega), Option.bind_some]
    have e0 := M_knotL (k9 := k) (x1 := iI ((cqF n T i : Nat) : Int)) (x := i) (b := false) hv.1 hm1.1 (by omega)
    have e1 := M_knotL (k9 := k) (x1 := iI ((cqF n T i : Nat) : Int)) (x := i) (b := true) hv.1 hm1.1 (by omega)
    rw [bI_f] at e0
    rw [bI_t] at e1
    rw [e0, e1, iI_add]
    show (if iI ((bc i : Nat) : Int) ≤ iI ((bc (cqF n T i) : Nat) : Int) then _ else _) = k (iI (((if decide (bc (cqF n T i) < bc i) && knot n T i then i else cqF n T i) : Nat) : Int)) _
    by_cases h : bc (cqF n T i) < bc i
    · rw [if_neg (by rw [iI_le (by omega) (by omega) (by omega) (by omega)]; omega)]
      cases hk : knot n T i
      · rw [if_neg (by simp), if_neg (by simp)]
      · rw [if_pos (by simp), if_pos (by simp [h])]
    · rw [if_pos (by rw [iI_le (by omega) (by omega) (by omega) (by omega)]; omega), if_neg (show ¬ (false && knot n T i) = true by simp), if_neg (by simp [h])]
  · unfold fM_clique_L9
    simp only [nmM]
    rw [hm1.1.1, shl1 (by omega), if_pos (by rw [iI_le (by omega) (by omega) (by omega) (by omega)]; omega), e2, Option.bind_some, bitc hlt, Option.bind_some]; rfl
end GR
theorem op22 : op_22 wInv := fun s hI => by
  obtain ⟨n, T, S, D, SP, ap, fi, bk, G, w, pl, kp, tx, se, l, hv, hw, hm, _⟩ := id hI
  obtain ⟨s1, e1, q1⟩ := W_clique hv.1 hw.1
  obtain ⟨s2, e2, q2⟩ := M_clique hv.1 (hm.1.byW q1.off.1)
  exact ⟨_, s1, s2, e1, e2, wInv_q hI q1 q2⟩
