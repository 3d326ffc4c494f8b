/-! mercy -/
theorem bt_or_bt {P Q : Nat → Bool} {n : Nat} (hn : n ≤ 9) : iI ((bt P n : Nat) : Int) ||| iI ((bt Q n : Nat) : Int) = iI ((bt (fun y => P y || Q y) n : Nat) : Int) := by
  have h1 := bt_lt9 P hn
  have h2 := bt_lt9 Q hn
  rw [or_nat (by omega) (by omega)]
  congr 2
  refine Nat.eq_of_testBit_eq fun j => ?_
  rw [Nat.testBit_or, bt_bit, bt_bit, bt_bit]
  by_cases h : j < n <;> simp [h]
theorem bt_or_pow {P : Nat → Bool} {n b : Nat} (hn : n ≤ 9) (hb : b < n) : iI ((bt P n : Nat) : Int) ||| iI ((2 ^ b : Nat) : Int) = iI ((bt (fun y => P y || decide (y = b)) n : Nat) : Int) := by
  have h1 := bt_lt9 P hn
  have h2 : 2 ^ b ≤ 2 ^ 8 := Nat.pow_le_pow_right (by omega) (by omega)
  rw [or_nat (by omega) (by omega)]
  congr 2
  refine Nat.eq_of_testBit_eq fun j => ?_
  rw [Nat.testBit_or, bt_bit, bt_bit, Nat.testBit_two_pow]
  by_cases h : j < n
  · simp [h, eq_comm]
  · simp [h]; omega
def mX (n : Nat) (T : Nat → Nat → Bool) (S : Nat → Nat → Int) (SP : Nat → Int) (ap : Int) (D : Nat → Int) : Nat → Nat → Nat → Bool
  | 0 => fun _ _ => false
  | i + 1 => fun f g => mX n T S SP ap D i f g || ev T ap (it n T S SP D (i + 1)) f g
def mkY (X : Nat → Nat → Bool) (E : Nat → Nat → Bool) (l : List (Nat × Nat)) (f g : Nat) : Bool := X f g || l.any fun p => E p.1 p.2 && ((p.1 == f && p.2 == g) || (p.2 == f && p.1 == g))
section MY
variable {s t u : wM} {n : Nat} {T X : Nat → Nat → Bool} {S : Nat → Nat → Int} {D SP : Nat → Int} {ap fi bk : Int}
theorem mkY_snoc (E : Nat → Nat → Bool) (l : List (Nat × Nat)) (p : Nat × Nat) (f g : Nat) : mkY X E (l ++ [p]) f g = (mkY X E l f g || (E p.1 p.2 && ((p.1 == f && p.2 == g) || (p.2 == f && p.1 == g)))) := by
  unfold mkY; rw [List.any_append]; simp [Bool.or_assoc]
theorem mkY_prs (hS : Cty n T S) {f g : Nat} (hf : f < n) (hg : g < n) : mkY X (ev T ap D) (prs n T) f g = (X f g || ev T ap D f g) := by
  unfold mkY
  congr 1
  rw [Bool.eq_iff_iff, List.any_eq_true]
  simp only [Bool.and_eq_true, Bool.or_eq_true, beq_iff_eq]
  constructor
  · rintro ⟨p, hp, he, ⟨rfl, rfl⟩ | ⟨rfl, rfl⟩⟩
    · exact he
    · rw [ev_symm hS.2.1]; exact he
  · intro he
    have hT : T f g = true := by unfold ev at he; simp at he; exact he.1
    have hne := (hS.2.2.1 f g hT).2.2
    by_cases h : f < g
    · exact ⟨(f, g), mem_prs.mpr ⟨h, hg, hT⟩, he, Or.inl ⟨rfl, rfl⟩⟩
    · exact ⟨(g, f), mem_prs.mpr ⟨by omega, hf, by rw [hS.2.1]; exact hT⟩, by rw [ev_symm hS.2.1]; exact he, Or.inr ⟨rfl, rfl⟩⟩
theorem GW.congr {X' : Nat → Nat → Bool} (h : GW s n X) (e : ∀ f g, f < n → g < n → X' f g = X f g) : GW s n X' := ⟨h.1, fun f hf => by rw [h.2 f hf, bt_congr fun j hj => (e f j hf hj).symm]⟩
theorem Gr_join {a b : Nat} (hn : n ≤ 9) (hG : GW s n X) (ha : a < n) (hb : b < n) (hab : a ≠ b) : ∃ t, fGr_join s (iI (a : Int)) (iI (b : Int)) = some t ∧ GW t n (fun f g => X f g || ((a == f && b == g) || (b == f && a == g))) ∧ Off (fun k _ => k == 31) s t := by
  unfold fGr_join
  rw [chk_in (by omega) (by omega) (by omega), iI_natc (by omega), shl1 (by omega), hG.2 a ha, bt_or_pow hn hb]
  simp only [nmM]
  rw [chk_in (by omega) (by omega) (by omega), iI_natc (by omega), rd_of (show b ≠ a by omega), hG.2 b hb, shl1 (by omega), bt_or_pow hn ha]
  refine ⟨_, rfl, ⟨by rw [rd_ne (by decide), rd_ne (by decide)]; exact hG.1, fun f hf => ?_⟩, ((Off.refl s).set rfl).set rfl⟩
  rw [rd_if, rd_if]
  by_cases e1 : f = b
  · subst e1
    rw [if_pos rfl]
    congr 2
    refine bt_congr fun j hj => ?_
    dsimp only
    rw [show (a == f) = false by simp; omega]
    by_cases e : j = a
    · subst e; simp
    · simp [e, show ¬ a = j from fun h => e h.symm]
  · rw [if_neg e1]
    by_cases e2 : f = a
    · subst e2
      rw [if_pos rfl]
      congr 2
      refine bt_congr fun j hj => ?_
      dsimp only
      rw [show (b == f) = false by simp; omega]
      by_cases e : j = b
      · subst e; simp
      · simp [e, show ¬ b = j from fun h => e h.symm]
    · rw [if_neg e2, hG.2 f hf]
      congr 2
      refine bt_congr fun j hj => ?_
      dsimp only
      rw [show (a == f) = false by simp; omega, show (b == f) = false by simp; omega]; simp
theorem Ah_markEven (hS : Cty n T S) (hA : AH s n T S SP ap D) (bD : Bd D 0 99) (hap : 0 ≤ ap ∧ ap ≤ 9) (hG : GW s n X) : ∃ t, fAh_markEven s = some t ∧ GW t n (fun f g => X f g || ev T ap D f g) ∧ Off (fun k _ => k == 31) s t := by
  have hn := hS.1
  have hl := prs_len T hn
  unfold fAh_markEven
  refine wh2_w (Q := fun x => ∃ t, x = some t ∧ GW t n (fun f g => X f g || ev T ap D f g) ∧ Off (fun k _ => k == 31) s t) (fun m x t => ∃ i : Nat, i ≤ (prs n T).length ∧ m = (prs n T).length - i ∧ x = iI (i : Int) ∧ GW t n (mkY X (ev T ap D) ((prs n T).take i)) ∧ Off (fun k _ => k == 31) s t) ?_ 100000 (prs n T).length _ s (by omega) ⟨0, by omega, rfl, rfl, hG.congr fun f g _ _ => by simp [mkY], Off.refl s⟩
  rintro m x t ⟨i, h1, rfl, rfl, g1, ho⟩ c hc
  have hAt : AH t n T S SP ap D := hA.of (ho.mono fun k j hk => by
    simp only [Bool.or_eq_false_iff, beq_eq_false_iff_ne, Bool.and_eq_false_iff, bne_eq_false_iff_eq] at hk ⊢; omega)
  unfold fAh_markEven_L2 fAh_markEven_J34
  rw [hAt.2.2.1]
  by_cases hi : i < (prs n T).length
  · obtain ⟨q1, q2, q3⟩ := hAt.2.2.2.1 i hi
    obtain ⟨r1, r2, r3⟩ := prs_get hS hi
    rw [if_neg (by rw [iI_le (by omega) (by omega) (by omega) (by omega)]; omega), Ah_isEven hS hAt bD hap hi, Option.bind_some, chk_in (by omega) (by omega) (by omega), iI_natc (by omega), q1, q2]
    simp only [bI_0, iI_add]
    have hsn : ∀ f g, mkY X (ev T ap D) ((prs n T).take (i + 1)) f g = (mkY X (ev T ap D) ((prs n T).take i) f g || (ev T ap D (prs n T)[i].1 (prs n T)[i].2 && (((prs n T)[i].1 == f && (prs n T)[i].2 == g) || ((prs n T)[i].2 == f && (prs n T)[i].1 == g)))) := fun f g => by
      rw [List.take_succ_eq_append_getElem hi, mkY_snoc]
    by_cases h : ev T ap D (prs n T)[i].1 (prs n T)[i].2 = true
    · obtain ⟨t', e', g', o'⟩ := Gr_join hn g1 (show (prs n T)[i].1 < n by omega) r2 (by omega)
      rw [if_neg (by rw [h]; decide), e', Option.bind_some]
      exact hc ((prs n T).length - (i + 1)) _ _ (by omega) ⟨i + 1, by omega, rfl, by simp, g'.congr fun f g _ _ => by rw [hsn, h, Bool.true_and], ho.trans o'⟩
    · rw [if_pos (by simpa using h)]
      exact hc ((prs n T).length - (i + 1)) _ _ (by omega) ⟨i + 1, by omega, rfl, by simp, g1.congr fun f g _ _ => by rw [hsn, show ev T ap D (prs n T)[i].1 (prs n T)[i].2 = false by simpa using h, Bool.false_and, Bool.or_false], ho⟩
  · have : i = (prs n T).length := by omega
    subst this
    rw [if_pos (by rw [iI_le (by omega) (by omega) (by omega) (by omega)]; omega)]
    refine ⟨t, rfl, g1.congr fun f g hf hg => ?_, ho⟩
    rw [List.take_length, mkY_prs hS hf hg]
def czz (n : Nat) (X : Nat → Nat → Bool) (x f : Nat) : Bool := decide ((iI ((bt (X f) n : Nat) : Int) &&& (iI (x : Int) ^^^ iI (-1))) = iI 0)
def cov (n : Nat) (X : Nat → Nat → Bool) (x : Nat) : Bool := alB (fun f => x.testBit f || czz n X x f) n
theorem Gr_isCover {x : Nat} (hn : n ≤ 9) (hG : GW s n X) (hx : x < 512) : fGr_isCover s (iI (x : Int)) = some (bI (cov n X x)) := by
  have step : ∀ i : Nat, i < n → ∀ k, fGr_isCover_L2 (iI (x : Int)) s (iI (i : Int)) k = if x.testBit i || czz n X x i then k (iI ((i : Int) + 1)) else some (iI 0) := fun i hi k => by
    unfold fGr_isCover_L2 fGr_isCover_J33
    rw [hG.1, if_neg (by rw [iI_le (by omega) (by omega) (by omega) (by omega)]; omega), chk_in (by omega) (by omega) (by omega), iI_natc (by omega), hG.2 i hi, iI_add]
    simp only [has_bit0 hx (show i < 9 by omega)]
    unfold czz
    by_cases h : x.testBit i = false
    · rw [if_pos h]
      by_cases h2 : (iI ((bt (X i) n : Nat) : Int) &&& (iI (x : Int) ^^^ iI (-1))) = iI 0
      · rw [if_pos h2, if_pos (by simp [h2])]
      · rw [if_neg h2, if_neg (by rw [h, decide_eq_false h2]; decide)]
    · rw [if_neg h, if_pos (by simp at h; simp [h])]
  have fin : ∀ k, fGr_isCover_L2 (iI (x : Int)) s (iI (n : Int)) k = some (iI 1) := fun k => by
    unfold fGr_isCover_L2
    rw [hG.1, if_pos (by rw [iI_le (by omega) (by omega) (by omega) (by omega)]; omega)]
  unfold fGr_isCover
  rcases first_or (fun f => x.testBit f || czz n X x f) n with h | ⟨i, h1, h2, h3⟩
  · rw [show cov n X x = true from alB_t.mpr h, bI_t]
    exact for1 (i0 := 0) (n := n) (Nat.zero_le _) (by omega) (fun i _ hi k => by rw [step i hi k]; exact if_pos (h i hi)) fin
  · rw [show cov n X x = false from alB_f h1 h2, bI_f]
    exact for1 (i0 := 0) (n := i) (Nat.zero_le _) (by omega) (fun j _ hj k => by rw [step j (by omega) k]; exact if_pos (h3 j hj)) (fun k => by rw [step i h1 k]; exact if_neg (by simpa using h2))
/-- the least of the smallest covers -/
def LC (P : Nat → Bool) (N r : Nat) : Prop := r < N ∧ P r = true ∧ ∀ x, x < N → P x = true → bc r ≤ bc x ∧ (bc x = bc r → r ≤ x)
theorem LC_uni {P : Nat → Bool} {N r r' : Nat} (h : LC P N r) (h' : LC P N r') : r = r' := by
  have a := h.2.2 r' h'.1 h'.2.1
  have b := h'.2.2 r h.1 h.2.1
  omega
theorem full_tab : ∀ n : Fin 10, ∀ x : Fin 512, x.val < 2 ^ n.val → bc (2 ^ n.val - 1) ≤ bc x.val → x.val = 2 ^ n.val - 1 := by decide +kernel
def scF (P : Nat → Bool) (n : Nat) : Nat → Nat
  | 0 => 2 ^ n - 1
  | i + 1 => if decide (bc i < bc (scF P n i)) && P i then i else scF P n i
theorem scF_ok {P : Nat → Bool} {n : Nat} (hn : n ≤ 9) (hf : P (2 ^ n - 1) = true) : ∀ i, i ≤ 2 ^ n → scF P n i < 2 ^ n ∧ P (scF P n i) = true ∧ (scF P n i = 2 ^ n - 1 ∨ scF P n i < i) ∧ ∀ x, x < i → P x = true → bc (scF P n i) ≤ bc x ∧ (bc x = bc (scF P n i) → scF P n i ≤ x)
  | 0, _ => ⟨by have : 0 < 2 ^ n := Nat.pos_of_ne_zero (by simp); unfold scF; omega, hf, Or.inl rfl, fun x hx => by omega⟩
  | i + 1, hi => by
    have hp2 : 2 ^ n ≤ 2 ^ 9 := Nat.pow_le_pow_right (by omega) hn
    obtain ⟨h1, h2, h3, h4⟩ := scF_ok hn hf i (by omega)
    unfold scF
    by_cases c : bc i < bc (scF P n i) ∧ P i = true
    · rw [if_pos (by simp [c.1, c.2])]
      refine ⟨by omega, c.2, Or.inr (by omega), fun x hx hP => ?_⟩
      by_cases e : x = i
      · subst e; omega
      · have := h4 x (by omega) hP; omega
    · rw [if_neg (fun h => c (by simpa using h))]
      refine ⟨h1, h2, by omega, fun x hx hP => ?_⟩
      by_cases e : x = i
      · subst e
        have hb : bc (scF P n x) ≤ bc x := by
          rcases Nat.lt_or_ge (bc x) (bc (scF P n x)) with h | h
          · exact absurd ⟨h, hP⟩ c
          · exact h
        refine ⟨hb, fun hbe => ?_⟩
        rcases h3 with h3 | h3
        · rw [h3] at hb
          have := full_tab ⟨n, by omega⟩ ⟨x, by omega⟩ (by show x < 2 ^ n; omega) hb
          simp only at this
          omega
        · omega
      · exact h4 x (by omega) hP
theorem scF_LC {P : Nat → Bool} {n : Nat} (hn : n ≤ 9) (hf : P (2 ^ n - 1) = true) : LC P (2 ^ n) (scF P n (2 ^ n)) := by
  obtain ⟨h1, h2, _, h4⟩ := scF_ok hn hf (2 ^ n) (Nat.le_refl _)
  exact ⟨h1, h2, h4⟩
theorem cov_full (hn : n ≤ 9) : cov n X (2 ^ n - 1) = true := alB_t.mpr fun f hf => by rw [Nat.testBit_two_pow_sub_one]; simp [hf]
theorem Gr_smallestCover (hn : n ≤ 9) (hG : GW s n X) : fGr_smallestCover s = some (iI ((scF (cov n X) n (2 ^ n) : Nat) : Int)) := by
  have hp0 : 0 < 2 ^ n := Nat.pos_of_ne_zero (by simp)
  have hp2 : 2 ^ n ≤ 2 ^ 9 := Nat.pow_le_pow_right (by omega) hn
  unfold fGr_smallestCover
  rw [hG.1, shl1 (by omega), (pow_cast hn).1]
  refine for2a (f := fGr_smallestCover_L11 s) (fun i => iI ((scF (cov n X) n i : Nat) : Int)) (i0 := 0) (n := 2 ^ n) (Nat.zero_le _) (by omega) (fun i h1 hi k => ?_) (fun k => ?_)
  · have hcl := (scF_ok (P := cov n X) hn (cov_full hn) i (by omega)).1
    have b1 := bc_le i
    have b2 := bc_le (scF (cov n X) n i)
    unfold fGr_smallestCover_L11 fGr_smallestCover_J42
    rw [hG.1, shl1 (by omega), if_neg (by rw [iI_le (by omega) (by omega) (by omega) (by omega)]; omega), bitc (by omega), Option.bind_some, bitc (by omega), Option.bind_some, Gr_isCover hn hG (by omega), Option.bind_some, iI_add]
    simp only [bI_0]
    show (if iI ((bc (scF (cov n X) n i) : Nat) : Int) ≤ iI ((bc i : Nat) : Int) then _ else _) = k (iI (((if decide (bc i < bc (scF (cov n X) n i)) && cov n X i then i else scF (cov n X) n i) : Nat) : Int)) _
    by_cases h : bc i < bc (scF (cov n X) n i)
    · rw [if_neg (by rw [iI_le (by omega) (by omega) (by omega) (by omega)]; omega)]
      cases hk : cov n X i
      · rw [if_pos rfl, if_neg (by simp)]
      · rw [if_neg (by decide), if_pos (by simp [h])]
    · rw [if_pos (by rw [iI_le (by omega) (by omega) (by omega) (by omega)]; omega), if_neg (by simp [h])]
  · unfold fGr_smallestCover_L11
    rw [hG.1, shl1 (by omega), if_pos (by rw [iI_le (by omega) (by omega) (by omega) (by omega)]; omega)]
theorem Gr_pairs (hn : n ≤ 9) (hG : GW s n X) : fGr_pairs s = some (iI (sm (fun a => (cnt (X a) n : Int)) n) / iI 2) := by
  unfold fGr_pairs
  refine for2a (fun i => iI (sm (fun a => (cnt (X a) n : Int)) i)) (i0 := 0) (n := n) (Nat.zero_le _) (by omega) (fun i _ hi k => ?_) (fun k => ?_)
  · unfold fGr_pairs_L4
    rw [hG.1, if_neg (by rw [iI_le (by omega) (by omega) (by omega) (by omega)]; omega), chk_in (by omega) (by omega) (by omega), iI_natc (by omega), hG.2 i hi, bitc_bt hn, Option.bind_some, iI_add, iI_add]; rfl
  · unfold fGr_pairs_L4
    rw [hG.1, if_pos (by rw [iI_le (by omega) (by omega) (by omega) (by omega)]; omega)]
def meA (n : Nat) (T : Nat → Nat → Bool) (S : Nat → Nat → Int) (SP : Nat → Int) (ap : Int) (D : Nat → Int) (q : Nat) : Int32 := iI (sm (fun a => (cnt (mX n T S SP ap D q a) n : Int)) n) / iI 2
def meR (n : Nat) (T : Nat → Nat → Bool) (S : Nat → Nat → Int) (SP : Nat → Int) (ap : Int) (D : Nat → Int) (q : Nat) : Int32 := iI ((scF (cov n (mX n T S SP ap D q)) n (2 ^ n) : Nat) : Int)
theorem W_mercy (hv : CV n T S D SP ap fi bk) (hw : CW s n T S D SP ap fi bk) {m : Int} (h3 : -2147483648 ≤ m) (h4 : m ≤ 2147483647) : ∃ s', fW_mercy s (iI m) = some (if 0 ≤ m ∧ m ≤ 100 then meA n T S SP ap D m.toNat else iI (-1), s') ∧ WQ s s' (if 0 ≤ m ∧ m ≤ 100 then some [meR n T S SP ap D m.toNat] else none) := by
  have hn := hv.1.1
  have hap : 0 ≤ ap ∧ ap ≤ 9 := by have := hv.2.2.2.2.2.1; omega
  have hz := hv.2.2.2.2.1
  unfold fW_mercy
  rw [W_isWithin h3 h4 (by omega) (by omega) (by omega) (by omega), Option.bind_some]
  simp only [bI_0, decide_eq_false_iff_not]
  by_cases c1 : 0 ≤ m ∧ m ≤ 100
  · rw [if_neg (by simpa using c1), if_pos c1, if_pos c1]
    obtain ⟨q, rfl⟩ : ∃ q : Nat, m = q := ⟨m.toNat, by omega⟩
    simp only [Int.toNat_natCast]
    obtain ⟨t, e, hA, _⟩ := W_look hv hw
    rw [e, Option.bind_some, hA.2.2.1 7 4 rfl, hw.1.1]
    unfold fGr_clear
    simp only [nmM, Option.bind_some]
    have hGr : ∀ (u u' : wM) D', WA u u n T S SP ap D' → Off KGr u u' → WA u' u' n T S SP ap D' := fun u u' D' h o => by
      obtain ⟨h1, h2, h3, h4⟩ := h
      refine ⟨h1.of (o.mono fun k j hk => KGr_f (by simp only [Bool.or_eq_false_iff, beq_eq_false_iff_ne, Bool.and_eq_false_iff, bne_eq_false_iff_eq] at hk; omega)), ?_, Off.refl _, h4⟩
      unfold SET; rw [o 13 8 rfl]; exact h2
    have o1 : Off KGr t (wFillI (wsI t 28 2 (iI (n : Int))) 31 9 (iI 0)) := Off.fil ((Off.refl t).set rfl) fun j => rfl
    have hG1 : GW (wFillI (wsI t 28 2 (iI (n : Int))) 31 9 (iI 0)) n (mX n T S SP ap D 0) := ⟨by rw [rd_fne (by decide), rd_at], fun f hf => by
      rw [rd_f, if_pos (by omega), bt_false (P := mX n T S SP ap D 0 f) fun j _ => rfl]; rfl⟩
    have hA1 := hGr t _ D hA.self o1
    have KK : ∀ {a b : wM}, Off KA a b → Off KWq a b := fun o => o.mono fun k j hk => by
      simp only [KWq, KA, Bool.or_eq_false_iff, Bool.and_eq_false_iff, decide_eq_false_iff_not, beq_eq_false_iff_ne] at hk ⊢; omega
    have KL : ∀ {a b : wM}, Off KGr a b → Off KWq a b := fun o => o.mono fun k j hk => KGr_f (by
      simp only [KWq, Bool.or_eq_false_iff, Bool.and_eq_false_iff, decide_eq_false_iff_not, beq_eq_false_iff_ne] at hk; omega)
    have oq : Off KWq s (wFillI (wsI t 28 2 (iI (n : Int))) 31 9 (iI 0)) := (KK hA.2.2.1).trans (KL o1)
    generalize wFillI (wsI t 28 2 (iI (n : Int))) 31 9 (iI 0) = t1 at hA1 hG1 oq ⊢
    refine wh2_w (Q := fun x => ∃ s', x = some (meA n T S SP ap D q, s') ∧ WQ s s' (some [meR n T S SP ap D q])) (fun m x u => ∃ i : Nat, i ≤ q ∧ m = q - i ∧ x = iI (i : Int) ∧ WA u u n T S SP ap (it n T S SP D i) ∧ GW u n (mX n T S SP ap D i) ∧ Off KWq s u) ?_ 100000 q _ t1 (by omega) ⟨0, by omega, rfl, rfl, hA1, hG1, oq⟩
    rintro m x u ⟨i, h1, rfl, rfl, hu, hGu, ho⟩ c hc
    unfold fW_mercy_L39
    by_cases hi : i < q
    · rw [if_neg (by rw [iI_le (by omega) (by omega) (by omega) (by omega)]; omega)]
      obtain ⟨u', e, hu', _⟩ := W_week hv.1 hv.2.2.2.1 hu (rain := 0) (bits := 0) (by omega) (by omega)
      have hGu' := hGu.of (hu'.2.2.1 28 2 rfl) (hu'.2.2.1.row fun j => rfl)
      obtain ⟨u2, e2, hG2, o2⟩ := Ah_markEven hv.1 hu'.1 hu'.2.2.2.1 hap hGu'
      have o2' : Off KGr u' u2 := o2.mono fun k j hk => by simp only [KGr, Bool.and_eq_false_iff, decide_eq_false_iff_not, beq_eq_false_iff_ne] at hk ⊢; omega
      rw [show iI (0 : Int) = iI ((0 : Nat) : Int) from rfl] at e ⊢
      rw [e, Option.bind_some, e2, Option.bind_some, iI_add]
      exact hc (q - (i + 1)) _ _ (by omega) ⟨i + 1, by omega, rfl, by simp, hGr u' u2 _ hu'.self o2', hG2, (ho.trans (KK hu'.2.2.1)).trans (KL o2')⟩
    · have : i = q := by omega
      subst this
      rw [if_pos (by rw [iI_le (by omega) (by omega) (by omega) (by omega)]; omega), Gr_smallestCover hn hGu, Option.bind_some]
      obtain ⟨u2, e2, r2, o2⟩ := Num_tell (s := u) (v := meR n T S SP ap D i)
      have hG2 := hGu.of (o2 28 2 rfl) (o2.row fun j => rfl)
      show ∃ s', ((fNum_tell u (meR n T S SP ap D i)).bind fun q_5 => (fGr_pairs q_5).bind fun q_7 => some (q_7, q_5)) = _ ∧ _
      rw [e2, Option.bind_some, Gr_pairs hn hG2, Option.bind_some]
      exact ⟨u2, rfl, WQ.row ⟨ho, (hu.b.zw hz)⟩ o2 r2 (by simp)⟩
  · rw [if_pos c1, if_neg c1, if_neg c1]
    exact ⟨s, rfl, WQ.refl hw.2.2.2.2.2.2⟩
end MY
