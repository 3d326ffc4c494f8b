theorem sep_out {n : Nat} {T : Nat → Nat → Bool} {S : Nat → Nat → Int} {D : Nat → Int} (hS : Cty n T S) {a b : Nat} (h : n ≤ a ∨ n ≤ b) : sep T S D a b = 0 := by
  have : T a b = false := by
    rcases h with h | h
    · exact T_out' hS h
    · exact T_out hS h
  unfold sep; rw [if_neg (by simp [this])]
theorem net_out {n : Nat} {T : Nat → Nat → Bool} {S : Nat → Nat → Int} {D : Nat → Int} (hS : Cty n T S) {x : Nat} (h : n ≤ x) : net n T S D x = 0 := by
  unfold net
  rw [sm_congr (n := n) (g := fun _ => 0) (fun f hf => ?_), sm_zero]
  rw [sm_congr (n := n) (g := fun _ => 0) (fun o ho => ?_), sm_zero]
  unfold nk
  rw [if_neg (show ¬ x = f by omega), if_neg (show ¬ x = o by omega)]
  simp
theorem wk_0 {n : Nat} {T : Nat → Nat → Bool} {S : Nat → Nat → Int} {SP D : Nat → Int} (bits : Nat) : wk n T S SP D 0 bits = wk n T S SP D 0 0 := by
  unfold wk wat rn; simp
theorem wk_Z9 {n : Nat} {T : Nat → Nat → Bool} {S : Nat → Nat → Int} {SP D : Nat → Int} {rain : Int} {bits : Nat} (hn : n ≤ 9) (h : Z9 D) : Z9 (wk n T S SP D rain bits) := fun j hj => by
  unfold wk; rw [if_neg (by omega)]; exact h j hj
def SET (s : wM) (n : Nat) (T : Nat → Nat → Bool) (S : Nat → Nat → Int) (SP D : Nat → Int) : Prop := s.1 13 8 = iI 0 ∨ (s.1 13 8 = iI 1 ∧ wk n T S SP D 0 0 = D)
section WD1
variable {s : wM} {n : Nat} {T : Nat → Nat → Bool} {S : Nat → Nat → Int} {D SP : Nat → Int} {ap : Int} {rain : Int} {bits : Nat}
theorem Ah_pass (hS : Cty n T S) (hA : AH s n T S SP ap D) (bD : Bd D 0 99) (bS : Bd SP 0 9) (hr : -9 ≤ rain ∧ rain ≤ 9) (hb : bits < 512) (hset : SET s n T S SP D) : ∃ s', fAh_pass s (iI rain) (iI (bits : Int)) = some s' ∧ AH s' n T S SP ap (wk n T S SP D rain bits) ∧ (s.1 13 8 = iI 0 → s'.1 13 7 = iI (lst n T S SP D rain bits)) ∧ s'.1 13 8 = bI (decide (rain = 0) && alB (fun f => decide (wk n T S SP D rain bits f = D f)) n) ∧ Off KA s s' := by
  have hn := hS.1
  have main : ∃ s', fAh_pass_J12 (iI rain) (iI (bits : Int)) s = some s' ∧ AH s' n T S SP ap (wk n T S SP D rain bits) ∧ s'.1 13 7 = iI (lst n T S SP D rain bits) ∧ s'.1 13 8 = bI (decide (rain = 0) && alB (fun f => decide (wk n T S SP D rain bits f = D f)) n) ∧ Off KA s s' := by
    unfold fAh_pass_J12
    rw [chkC9, z0, n9]
    simp only [nmM]
    have o1 : Off KA s (wCpy s 14 20 0 0 9) := Off.cpy (k2 := 20) (Off.refl s) (fun j => rfl)
    have hA1 : AH (wCpy s 14 20 0 0 9) n T S SP ap D := hA.of (Off.cpy (k2 := 20) (Off.refl s) (fun j => rfl))
    have b1 : ∀ f, f < 9 → (wCpy s 14 20 0 0 9).1 20 f = iI (D f) := fun f hf => by rw [rd_c, if_pos hf, show s.1 14 = _ from hA.2.2.2.2.1]
    generalize hs1 : wCpy s 14 20 0 0 9 = s1
    rw [hs1] at o1 hA1 b1
    obtain ⟨s2, e2, m22, m21, o2⟩ := Ah_measureSeep hS hA1 bD
    have hA2 : AH s2 n T S SP ap D := hA1.of (o2.mono fun k j h => by
      simp only [KF, Bool.or_eq_false_iff, beq_eq_false_iff_ne, Bool.and_eq_false_iff, bne_eq_false_iff_eq] at h ⊢; omega)
    obtain ⟨s3, e3, r3, o3⟩ := Ah_letSeep hS hA2 bD m22 m21
    rw [e2, Option.bind_some, e3, Option.bind_some]
    have o3' : Off KA s s3 := (o1.trans (o2.mono fun k j h => by
      simp only [KA, KF, Bool.and_eq_false_iff, decide_eq_false_iff_not, Bool.or_eq_false_iff, beq_eq_false_iff_ne] at h ⊢; omega)).trans (o3.mono fun k j h => by
      simp only [KA, KL, Bool.and_eq_false_iff, decide_eq_false_iff_not, Bool.or_eq_false_iff, beq_eq_false_iff_ne] at h ⊢; omega)
    have rows : ∀ k j, k = 13 ∨ k = 15 ∨ k = 17 ∨ k = 18 ∨ k = 19 ∨ k = 20 → s3.1 k j = s1.1 k j := fun k j h => by
      rw [o3 k j (by simp only [KL, Bool.or_eq_false_iff, beq_eq_false_iff_ne]; omega), o2 k j (by simp only [KF, Bool.or_eq_false_iff, beq_eq_false_iff_ne]; omega)]
    have b20 : ∀ f, f < 9 → s3.1 20 f = iI (D f) := fun f hf => by rw [rows 20 f (by simp)]; exact b1 f hf
    have c12 : s3.1 13 12 = iI (n : Int) := by rw [rows 13 12 (by simp)]; exact hA1.1
    have c15 : Rw s3 15 SP := hA1.2.2.2.2.2.of (funext fun j => rows 15 j (by simp))
    have J : ∀ q : Bool, q = decide (rain = 0) → ∃ s', fAh_pass_J50 (iI rain) (iI (bits : Int)) (bI q) (wsI s3 13 7 (iI 0)) = some s' ∧ AH s' n T S SP ap (wk n T S SP D rain bits) ∧ s'.1 13 7 = iI (lst n T S SP D rain bits) ∧ s'.1 13 8 = bI (decide (rain = 0) && alB (fun f => decide (wk n T S SP D rain bits f = D f)) n) ∧ Off KA s s' := by
      rintro q rfl
      unfold fAh_pass_J50
      rw [chkZ_b]
      simp only [nmM]
      refine wh2_w (Q := fun x => ∃ s', x = some s' ∧ AH s' n T S SP ap (wk n T S SP D rain bits) ∧ s'.1 13 7 = iI (lst n T S SP D rain bits) ∧ s'.1 13 8 = bI (decide (rain = 0) && alB (fun f => decide (wk n T S SP D rain bits f = D f)) n) ∧ Off KA s s') (fun m x3 t => ∃ i : Nat, i ≤ n ∧ m = n - i ∧ x3 = iI (i : Int) ∧ t.1 14 = (fun x => iI (if x < i then wk n T S SP D rain bits x else D x + net n T S D x)) ∧ t.1 13 7 = iI (sm (fun x => max 0 (wat n T S SP D rain bits x - 99)) i) ∧ t.1 13 8 = bI (decide (rain = 0) && alB (fun f => decide (wk n T S SP D rain bits f = D f)) i) ∧ Off (fun k j => k == 14 || k == 13 && (j == 7 || j == 8)) s3 t) ?_ 100000 n _ _ (by omega) ⟨0, by omega, rfl, rfl, ?_, ?_, ?_, ?_⟩
      · rintro m x3 t ⟨i, h1, rfl, rfl, t14, t7, t8, to⟩ c hc
        unfold fAh_pass_L55
        rw [to 13 12 rfl, c12]
        by_cases hi : i < n
        · have nb := net_bd (T := T) (S := S) hn bD i
          have b1 := bD i
          have b2 := bS i
          have b3 := rn_bd hr bits i
          have hwb : D i + net n T S D i + SP i + rn rain bits i = wat n T S SP D rain bits i := by unfold wat; omega
          have hlb := sm_bd (f := fun x => max 0 (wat n T S SP D rain bits x - 99)) (lo := 0) (hi := 20000) (n := i) (fun j _ => by
            have nb := net_bd (T := T) (S := S) hn bD j
            have b1 := bD j
            have b2 := bS j
            have b3 := rn_bd hr bits j
            have : wat n T S SP D rain bits j = D j + (SP j + rn rain bits j + net n T S D j) := rfl
            omega)
          rw [if_neg (by rw [iI_le (by omega) (by omega) (by omega) (by omega)]; omega), chk_in (by omega) (by omega) (by omega), iI_natc (by omega), t14, (to.row (k := 15) (fun j => rfl)), show s3.1 15 = _ from c15]
          simp only [has_bit hb (show i < 9 by omega), Nat.lt_irrefl, if_false, iI_add]
          have J2 : ∀ v : Int, v = rn rain bits i → ∃ s', fAh_pass_J90 c (iI rain) (iI (bits : Int)) (iI (i : Int)) (iI v) (iI (D i + net n T S D i + SP i)) t = some s' ∧ AH s' n T S SP ap (wk n T S SP D rain bits) ∧ s'.1 13 7 = iI (lst n T S SP D rain bits) ∧ s'.1 13 8 = bI (decide (rain = 0) && alB (fun f => decide (wk n T S SP D rain bits f = D f)) n) ∧ Off KA s s' := by
            rintro v rfl
            unfold fAh_pass_J90 fW_putToDepth
            rw [iI_add, hwb]
            simp only [nmM, Option.bind_some]
            rw [iI_sub, iMax_i (by omega) (by omega) (by omega) (by omega), iMin_i (by omega) (by omega) (by omega) (by omega), iMax_i (by omega) (by omega) (by omega) (by omega), t7, iI_add, chk_in (by omega) (by omega) (by omega), iI_natc (by omega)]
            have hwk : max 0 (min 99 (wat n T S SP D rain bits i)) = wk n T S SP D rain bits i := by unfold wk; rw [if_pos hi]
            rw [hwk]
            generalize hu : wsI (wsI t 13 7 (iI (sm (fun x => max 0 (wat n T S SP D rain bits x - 99)) i + max 0 (wat n T S SP D rain bits i - 99)))) 14 i (iI (wk n T S SP D rain bits i)) = u
            have u8 : u.1 13 8 = bI (decide (rain = 0) && alB (fun f => decide (wk n T S SP D rain bits f = D f)) i) := by rw [← hu, rd_ne (by decide), rd_of (by decide)]; exact t8
            have u7 : u.1 13 7 = iI (sm (fun x => max 0 (wat n T S SP D rain bits x - 99)) (i + 1)) := by rw [← hu, rd_ne (by decide), rd_at]; rfl
            have u14i : u.1 14 i = iI (wk n T S SP D rain bits i) := by rw [← hu, rd_at]
            have u20 : u.1 20 i = iI (D i) := by rw [← hu, rd_ne (by decide), rd_ne (by decide), to 20 i rfl]; exact b20 i (by omega)
            have u14 : u.1 14 = (fun x => iI (if x < i + 1 then wk n T S SP D rain bits x else D x + net n T S D x)) := by
              rw [← hu, wsI_R (D := fun x => if x < i then wk n T S SP D rain bits x else D x + net n T S D x) (by rw [rd_ne (by decide)]; exact t14), wRo_at]
              funext x
              unfold uI
              by_cases h1 : x = i
              · subst h1; simp
              · simp only [h1, if_false]; congr 1
                by_cases h2 : x < i
                · rw [if_pos h2, if_pos (by omega)]
                · rw [if_neg h2, if_neg (by omega)]
            have uo : Off (fun k j => k == 14 || k == 13 && (j == 7 || j == 8)) s3 u := by rw [← hu]; exact (to.set rfl).set rfl
            have wb := wk_bd (n := n) (T := T) (S := S) (SP := SP) (rain := rain) (bits := bits) bD i
            have K : ∀ w : Bool, w = (decide (rain = 0) && alB (fun f => decide (wk n T S SP D rain bits f = D f)) (i + 1)) → ∃ s', fAh_pass_J150 c (iI rain) (iI (bits : Int)) (iI (i : Int)) (bI w) u = some s' ∧ AH s' n T S SP ap (wk n T S SP D rain bits) ∧ s'.1 13 7 = iI (lst n T S SP D rain bits) ∧ s'.1 13 8 = bI (decide (rain = 0) && alB (fun f => decide (wk n T S SP D rain bits f = D f)) n) ∧ Off KA s s' := by
              rintro w rfl
              unfold fAh_pass_J150
              rw [chkZ_b, iI_add]
              simp only [nmM]
              refine hc (n - (i + 1)) _ _ (by omega) ⟨i + 1, by omega, rfl, by simp, ?_, ?_, ?_, ?_⟩
              · rw [rd_ne (by decide)]; exact u14
              · rw [rd_of (by decide)]; exact u7
              · rw [rd_at]
              · exact uo.set rfl
            unfold fAh_pass_J149
            rw [u8, u14i, u20]
            simp only [bI_0, iI_eq (a := wk n T S SP D rain bits i) (b := D i) (by omega) (by omega) (by omega) (by omega)]
            cases hq : (decide (rain = 0) && alB (fun f => decide (wk n T S SP D rain bits f = D f)) i)
            · rw [if_pos rfl]
              refine K false ?_
              unfold alB
              rw [← Bool.and_assoc, hq]; rfl
            · rw [if_neg (by decide)]
              by_cases h : wk n T S SP D rain bits i = D i
              · rw [if_pos h]
                refine K true ?_
                unfold alB
                rw [← Bool.and_assoc, hq]; simp [h]
              · rw [if_neg h]
                refine K false ?_
                unfold alB
                rw [← Bool.and_assoc, hq]; simp [h]
          by_cases h : bits.testBit i = true
          · rw [if_pos h]; exact J2 rain (by simp [rn, h])
          · rw [if_neg h]; exact J2 0 (by simp [rn, h])
        · have : i = n := by omega
          subst this
          rw [if_pos (by rw [iI_le (by omega) (by omega) (by omega) (by omega)]; omega)]
          refine ⟨t, rfl, ⟨?_, ?_, ?_, fun p hp => ?_, ?_, ?_⟩, t7, t8, ?_⟩
          · rw [to 13 12 rfl]; exact c12
          · rw [to 13 13 rfl, rows 13 13 (by simp)]; exact hA1.2.1
          · rw [to 13 6 rfl, rows 13 6 (by simp)]; exact hA1.2.2.1
          · rw [to 17 p rfl, to 18 p rfl, to 19 p rfl, rows 17 p (by simp), rows 18 p (by simp), rows 19 p (by simp)]; exact hA1.2.2.2.1 p hp
          · unfold Rw
            rw [t14]; funext x; congr 1
            by_cases hx : x < i
            · rw [if_pos hx]
            · rw [if_neg hx, net_out hS (by omega)]; unfold wk; rw [if_neg hx, Int.add_zero]
          · exact c15.of (to.row fun j => rfl)
          · exact o3'.trans (to.mono fun k j h => by
              simp only [KA, Bool.and_eq_false_iff, decide_eq_false_iff_not, Bool.or_eq_false_iff, beq_eq_false_iff_ne] at h ⊢; omega)
      · rw [rd_ne (by decide), rd_ne (by decide), show s3.1 14 = _ from r3]; funext x; simp
      · rw [rd_of (by decide), rd_at]; rfl
      · rw [rd_at]; simp [alB]
      · exact ((Off.refl s3).set rfl).set rfl
    by_cases h : rain = 0
    · rw [if_pos (by rw [h])]; exact J true (by simp [h])
    · rw [if_neg (by rw [iI_eq (by omega) (by omega) (by omega) (by omega)]; exact h)]; exact J false (by simp [h])
  obtain ⟨s', m1, m2, m3, m4, m5⟩ := main
  unfold fAh_pass
  rcases hset with h0 | ⟨h1, h2⟩
  · rw [if_pos h0]; exact ⟨s', m1, m2, fun _ => m3, m4, m5⟩
  · rw [if_neg (by rw [h1]; decide)]
    by_cases h : rain = 0
    · subst h
      rw [if_pos rfl]
      have e : wk n T S SP D 0 bits = D := by rw [wk_0, h2]
      refine ⟨s, rfl, by rw [e]; exact hA, fun h => ?_, ?_, Off.refl s⟩
      · rw [h1] at h; exact absurd h (by decide)
      · rw [h1, e, show alB (fun f => decide (D f = D f)) n = true from alB_t.mpr fun i _ => by simp]; rfl
    · rw [if_neg (by rw [iI_eq (by omega) (by omega) (by omega) (by omega)]; exact h)]
      exact ⟨s', m1, m2, fun _ => m3, m4, m5⟩
theorem SET_pass {s' : wM} (hs : s'.1 13 8 = bI (decide (rain = 0) && alB (fun f => decide (wk n T S SP D rain bits f = D f)) n)) : SET s' n T S SP (wk n T S SP D rain bits) := by
  cases hq : (decide (rain = 0) && alB (fun f => decide (wk n T S SP D rain bits f = D f)) n) with
  | false => left; rw [hs, hq]; rfl
  | true =>
    right
    refine ⟨by rw [hs, hq]; rfl, ?_⟩
    simp only [Bool.and_eq_true, decide_eq_true_eq] at hq
    obtain ⟨h0, h1⟩ := hq
    subst h0
    have : wk n T S SP D 0 bits = D := by
      funext x
      by_cases hx : x < n
      · have := alB_t.mp h1 x hx; simpa using this
      · unfold wk; rw [if_neg hx]
    rw [this, ← wk_0 bits, this]
end WD1
