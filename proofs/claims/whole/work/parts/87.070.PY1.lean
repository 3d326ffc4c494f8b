/-! the reference's table -/
theorem lMax (y : Int64) : ∃ w : Nat, w < 9223372036854775808 ∧ y &&& (9223372036854775807 : Int64) = lNn w := by
  refine ⟨y.toBitVec.toNat % 9223372036854775808, Nat.mod_lt _ (by decide), lN_of (Nat.mod_lt _ (by decide)) ?_⟩
  rw [Int64.toBitVec_and, BitVec.toNat_and, show (9223372036854775807 : Int64).toBitVec.toNat = 2 ^ 63 - 1 from rfl, Nat.and_two_pow_sub_one_eq_mod]
theorem lRem16384 {w : Nat} (hw : w < 9223372036854775808) : lRem (lNn w) (16384 : Int64) = lNn (w % 16384) := by
  have hm : w % 16384 < 16384 := Nat.mod_lt _ (by decide)
  have hd : w / 16384 * 16384 ≤ w := Nat.div_mul_le_self _ _
  unfold lRem
  have e1 : lNn w / (16384 : Int64) = lNn (w / 16384) := by
    rw [← Int64.toInt_inj, Int64.toInt_div, lNn_toInt hw, lNn_toInt (Nat.lt_of_le_of_lt (Nat.div_le_self _ _) hw), show (16384 : Int64).toInt = 16384 from rfl, Int.tdiv_eq_ediv_of_nonneg (by omega)]
    rw [Int.bmod_eq_of_le (by omega) (by omega)]; omega
  have e2 : lNn (w / 16384) * (16384 : Int64) = lNn (w / 16384 * 16384) := by
    rw [← Int64.toInt_inj, Int64.toInt_mul, lNn_toInt (by omega), lNn_toInt (by omega), show (16384 : Int64).toInt = 16384 from rfl]
    rw [Int.bmod_eq_of_le (by omega) (by omega)]; omega
  rw [e1, e2, lsub_n hd hw]
  congr 1
  omega
theorem mhs_ex : ∃ f : Nat → Nat, ∀ x, f x < 16384 ∧ (lRem (((lNn x ^^^ (lUshr (lNn x) (iI 29))) * (31 : Int64)) &&& (9223372036854775807 : Int64)) (16384 : Int64)).toInt32 = iI (f x : Int) := by
  have : ∀ x, ∃ v : Nat, v < 16384 ∧ (lRem (((lNn x ^^^ (lUshr (lNn x) (iI 29))) * (31 : Int64)) &&& (9223372036854775807 : Int64)) (16384 : Int64)).toInt32 = iI (v : Int) := fun x => by
    obtain ⟨w, hw, e⟩ := lMax ((lNn x ^^^ (lUshr (lNn x) (iI 29))) * (31 : Int64))
    exact ⟨w % 16384, Nat.mod_lt _ (by decide), by rw [e, lRem16384 hw, lto32]⟩
  exact ⟨fun x => Classical.choose (this x), fun x => Classical.choose_spec (this x)⟩
noncomputable def mhs : Nat → Nat := Classical.choose mhs_ex
theorem mhs_lt (x : Nat) : mhs x < 16384 := (Classical.choose_spec mhs_ex x).1
theorem mhs_eq (x : Nat) : (lRem (((lNn x ^^^ (lUshr (lNn x) (iI 29))) * (31 : Int64)) &&& (9223372036854775807 : Int64)) (16384 : Int64)).toInt32 = iI (mhs x : Int) := (Classical.choose_spec mhs_ex x).2
theorem iRem16384 {p : Nat} (h : p < 1000000) : iRem (iI (p : Int)) (iI 16384) = iI ((p % 16384 : Nat) : Int) := by
  unfold iRem
  rw [iI_div (by omega) (by omega) (by omega) (by omega), iI_mul, iI_sub, Int.tdiv_eq_ediv_of_nonneg (by omega)]
  congr 1; omega
section MS
variable {s t : wM} {n : Nat} {T : Nat → Nat → Bool} {S : Nat → Nat → Int} {bk : Int} {D0 : Dp} {σ : Nat → Nat} {c : Nat}
def MT (s : wM) (n : Nat) (T : Nat → Nat → Bool) (bk : Int) (D0 : Dp) (σ : Nat → Nat) (c : Nat) : Prop := c ≤ 3000 ∧ s.1 161 34 = iI (c : Int) ∧ (∀ i, i < c → s.2 179 i = lNn (mkey (Us n T bk D0 i) n)) ∧ (∀ i, i < c → s.1 182 i = iI (fr n T bk D0 i : Int)) ∧ (∀ i, 1 ≤ i → i < c → s.1 180 i = iI (par n T bk D0 i : Int) ∧ s.1 181 i = eWy ((mvs n T).getD (pm n T bk D0 i) (0, 0))) ∧ (∀ p, p < 16384 → s.1 183 p = iI ((σ p : Int) - 1)) ∧ HT 16384 σ c (fun i => mkey (Us n T bk D0 i) n) mhs ∧ (1 ≤ c → s.1 180 0 = iI (-1))
theorem MT.of (h : MT s n T bk D0 σ c) (e1 : t.1 161 34 = s.1 161 34) (e2 : t.1 180 = s.1 180) (e3 : t.1 181 = s.1 181) (e4 : t.1 182 = s.1 182) (e5 : t.1 183 = s.1 183) (e6 : t.2 = s.2) : MT t n T bk D0 σ c := by
  obtain ⟨h1, h2, h3, h4, h5, h6, h7, h8⟩ := h
  exact ⟨h1, by rw [e1]; exact h2, by rw [e6]; exact h3, by rw [e4]; exact h4, by rw [e2, e3]; exact h5, by rw [e5]; exact h6, h7, by rw [e2]; exact h8⟩
theorem mod_m (a e : Nat) : ((a + e) % 16384 + 1) % 16384 = (a + (e + 1)) % 16384 := by rw [Nat.mod_add_mod, Nat.add_assoc]
/-- the place where it stands, or where it would stand -/
theorem M_slotOf (hn : n ≤ 9) (hb : ∀ i, i < c → Bn n (Us n T bk D0 i)) (h : MT s n T bk D0 σ c) {x : Nat} (hx : x < 9223372036854775808) : ∃ p : Nat, p < 16384 ∧ fM_slotOf s (lNn x) = some (iI (p : Int)) ∧ ((∃ i, i < c ∧ σ p = i + 1 ∧ mkey (Us n T bk D0 i) n = x) ∨ (σ p = 0 ∧ (∀ i, i < c → mkey (Us n T bk D0 i) n ≠ x) ∧ ∃ d : Nat, d < 16384 ∧ (Unit → p = (mhs x + d) % 16384) ∧ ∀ e, e < d → σ ((mhs x + e) % 16384) ≠ 0)) := by
  obtain ⟨hc, h1, h3, _, _, h6, h7, _⟩ := h
  have hl := mhs_lt x
  obtain ⟨d, d1, d2, d3⟩ := HT_look h7 (by omega) hl
  have hσ : ∀ p, σ p ≤ c := h7.1
  have main : fM_slotOf s (lNn x) = some (iI (((mhs x + d) % 16384 : Nat) : Int)) := by
    unfold fM_slotOf
    refine (nmI_k (mhs_eq x)).trans ?_
    refine wh1_w (Q := fun y => y = some (iI (((mhs x + d) % 16384 : Nat) : Int))) (fun m z => ∃ e : Nat, e ≤ d ∧ m = d - e ∧ z = iI (((mhs x + e) % 16384 : Nat) : Int)) ?_ 100000 d _ (by omega) ⟨0, by omega, rfl, by rw [Nat.add_zero, Nat.mod_eq_of_lt hl]⟩
    rintro m z ⟨e, e1, rfl, rfl⟩ k hk
    obtain ⟨p, hp, hpe⟩ : ∃ p, p < 16384 ∧ (Unit → (mhs x + e) % 16384 = p) := ⟨_, Nat.mod_lt _ (by decide), fun _ => rfl⟩
    rw [hpe ()]
    have hsp := hσ p
    unfold fM_slotOf_L20 fM_slotOf_J56
    rw [chk_in (by omega) (by omega) (by omega), iI_natc (by omega), h6 p hp]
    by_cases hz : σ p = 0
    · rw [if_pos (by rw [iI_lt (by omega) (by omega) (by omega) (by omega)]; omega)]
      have ed : e = d := by
        by_cases e3 : e < d
        · have := (d2 e e3).1; rw [hpe ()] at this; exact absurd hz this
        · omega
      subst ed
      rw [hpe ()]
    · have hu := mkey_63 hn (hb (σ p - 1) (by omega))
      rw [if_neg (by rw [iI_lt (by omega) (by omega) (by omega) (by omega)]; omega), chk_in (by omega) (by omega) (by omega), show ((σ p : Nat) : Int) - 1 = ((σ p - 1 : Nat) : Int) by omega, iI_natc (by omega), h3 _ (by omega)]
      simp only [lg_n hu hx]
      by_cases hq : mkey (Us n T bk D0 (σ p - 1)) n = x
      · rw [if_pos hq]
        have ed : e = d := by
          by_cases e3 : e < d
          · have := (d2 e e3).2; rw [hpe ()] at this; exact absurd hq this
          · omega
        subst ed
        rw [hpe ()]
      · rw [if_neg hq]
        have ed : e < d := by
          by_cases e3 : e < d
          · exact e3
          · have : e = d := by omega
            subst this
            rw [hpe ()] at d3
            rcases d3 with ⟨i, _, k2, k3⟩ | ⟨k2, _⟩
            · rw [k2] at hq; exact absurd k3 hq
            · omega
        rw [iI_add, show (p : Int) + 1 = ((p + 1 : Nat) : Int) by omega, iRem16384 (by omega)]
        refine hk (d - (e + 1)) _ (by omega) ⟨e + 1, by omega, rfl, ?_⟩
        rw [← hpe ()]
        exact congrArg (fun z : Nat => iI (z : Int)) (mod_m _ _)
  refine ⟨(mhs x + d) % 16384, Nat.mod_lt _ (by decide), main, ?_⟩
  rcases d3 with ⟨i, k1, k2, k3⟩ | ⟨k1, k2⟩
  · exact Or.inl ⟨i, k1, k2, k3⟩
  · exact Or.inr ⟨k1, k2, d, d1, fun _ => rfl, fun e he => (d2 e he).1⟩
end MS
