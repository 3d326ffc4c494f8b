section SW
variable {s t : wM} {n : Nat} {T : Nat → Nat → Bool} {S : Nat → Nat → Int} {bk : Int} {D0 : Dp} {σ : Nat → Nat} {c : Nat}
def Prd (s : wM) (n : Nat) (T : Nat → Nat → Bool) (bk : Int) : Prop := s.1 23 6 = iI ((mvs n T).length : Int) ∧ s.1 23 7 = iI bk ∧ ∀ m (h : m < (mvs n T).length), s.1 26 m = iI ((mvs n T)[m].1 : Int) ∧ s.1 27 m = iI ((mvs n T)[m].2 : Int)
def SW (s : wM) (n : Nat) (T : Nat → Nat → Bool) (bk : Int) (D0 : Dp) (σ : Nat → Nat) (c : Nat) : Prop := c ≤ 3000 ∧ s.1 23 1 = iI (c : Int) ∧ Prd s n T bk ∧ (∀ i, i < c → s.2 24 i = lNn (wkey (Us n T bk D0 i) n)) ∧ (∀ q, q < 2048 → s.2 25 q = lNn (q4 σ q)) ∧ HT 8192 σ c (fun i => wkey (Us n T bk D0 i) n) whs
theorem Prd.of (h : Prd s n T bk) (e1 : t.1 23 6 = s.1 23 6) (e2 : t.1 23 7 = s.1 23 7) (e3 : t.1 26 = s.1 26) (e4 : t.1 27 = s.1 27) : Prd t n T bk := by
  obtain ⟨h1, h2, h3⟩ := h
  exact ⟨by rw [e1]; exact h1, by rw [e2]; exact h2, fun m hm => by rw [e3, e4]; exact h3 m hm⟩
theorem SW.of (h : SW s n T bk D0 σ c) (e1 : t.1 23 1 = s.1 23 1) (e2 : t.1 23 6 = s.1 23 6) (e3 : t.1 23 7 = s.1 23 7) (e4 : t.1 26 = s.1 26) (e5 : t.1 27 = s.1 27) (e6 : t.2 = s.2) : SW t n T bk D0 σ c := by
  obtain ⟨h1, h2, h3, h4, h5, h6⟩ := h
  exact ⟨h1, by rw [e1]; exact h2, h3.of e2 e3 e4 e5, by rw [e6]; exact h4, by rw [e6]; exact h5, h6⟩
theorem SW.s3 (h : SW s n T bk D0 σ c) {v : Int32} : SW (wsI s 23 3 v) n T bk D0 σ c := h.of (rd_of (by decide)) (rd_of (by decide)) (rd_of (by decide)) (rd_ne (by decide)) (rd_ne (by decide)) rfl
theorem nmL_k {ρ : Type} {e y : Int64} {k : Int64 → Option ρ} (h : e = y) : nmL e k = k y := by rw [h]; rfl
theorem nmI_k {ρ : Type} {e y : Int32} {k : Int32 → Option ρ} (h : e = y) : nmI e k = k y := by rw [h]; rfl
theorem mod_s (a e : Nat) : ((a + e) % 8192 + 1) % 8192 = (a + (e + 1)) % 8192 := by rw [Nat.mod_add_mod, Nat.add_assoc]
/-- the index, or -1 and the empty place -/
theorem Se_indexOf (hn : n ≤ 9) (hb : ∀ i, i < c → Bn n (Us n T bk D0 i)) (h : SW s n T bk D0 σ c) {x : Nat} (hx : x < 9223372036854775808) : ∃ v, (∃ i, i < c ∧ wkey (Us n T bk D0 i) n = x ∧ fSe_indexOf s (lNn x) = some (iI (i : Int), wsI s 23 3 v)) ∨ ((∀ i, i < c → wkey (Us n T bk D0 i) n ≠ x) ∧ fSe_indexOf s (lNn x) = some (iI (-1), wsI s 23 3 v) ∧ ∃ d, d < 8192 ∧ v = iI (((whs x + d) % 8192 : Nat) : Int) ∧ σ ((whs x + d) % 8192) = 0 ∧ ∀ e, e < d → σ ((whs x + e) % 8192) ≠ 0) := by
  have hc := h.1
  have hl := whs_lt x
  obtain ⟨d, d1, d2, d3⟩ := HT_look h.2.2.2.2.2 (by omega) hl
  have hσ : ∀ p, σ p ≤ 3000 := fun p => Nat.le_trans (h.2.2.2.2.2.1 p) hc
  refine ⟨iI (((whs x + d) % 8192 : Nat) : Int), ?_⟩
  have main : ∀ r, ((∃ i, i < c ∧ σ ((whs x + d) % 8192) = i + 1 ∧ wkey (Us n T bk D0 i) n = x ∧ r = iI (i : Int)) ∨ σ ((whs x + d) % 8192) = 0 ∧ r = iI (-1)) → fSe_indexOf s (lNn x) = some (r, wsI s 23 3 (iI (((whs x + d) % 8192 : Nat) : Int))) := by
    intro r hr
    unfold fSe_indexOf
    rw [whs_eq]
    simp only [nmM]
    refine wh2_w (Q := fun y => y = some (r, wsI s 23 3 (iI (((whs x + d) % 8192 : Nat) : Int)))) (fun m z t => ∃ e : Nat, e ≤ d ∧ m = d - e ∧ z = iI (e : Int) ∧ t = wsI s 23 3 (iI (((whs x + e) % 8192 : Nat) : Int))) ?_ 100000 d _ _ (by omega) ⟨0, by omega, rfl, rfl, by rw [Nat.add_zero, Nat.mod_eq_of_lt hl]⟩
    rintro m z t ⟨e, e1, rfl, rfl, rfl⟩ k hk
    have q1 : ¬ (iI 8192 ≤ iI (e : Int)) := by rw [iI_le (by omega) (by omega) (by omega) (by omega)]; omega
    obtain ⟨p, hp, hpe⟩ : ∃ p, p < 8192 ∧ (Unit → (whs x + e) % 8192 = p) := ⟨_, Nat.mod_lt _ (by decide), fun _ => rfl⟩
    rw [hpe ()]
    have hsp := hσ p
    have h5 : s.2 25 (p / 4) = lNn (q4 σ (p / 4)) := h.2.2.2.2.1 (p / 4) (by omega)
    unfold fSe_indexOf_L15
    rw [if_neg q1, rd_at, iDiv4 (by omega), iRem4 (by omega), chk_in (by omega) (by omega) (by omega), iI_natc (by omega), rd_2, h5, iI_mul, show ((p % 4 : Nat) : Int) * 16 = ((p % 4 * 16 : Nat) : Int) by omega, lUshr_n (by omega) (q4_lt hσ _)]
    refine (nmL_k rfl).trans ((nmI_k (y := iI ((σ p : Int) - 1)) ?_).trans ?_)
    · rw [l65535 (Nat.lt_of_le_of_lt (Nat.div_le_self _ _) (q4_lt hσ _)), q4_rd hσ, lto32, iI_sub]
    by_cases hz : σ p = 0
    · rw [if_pos (by rw [iI_lt (by omega) (by omega) (by omega) (by omega)]; omega)]
      have ed : e = d := by
        by_cases e3 : e < d
        · have := (d2 e e3).1; rw [hpe ()] at this; exact absurd hz this
        · omega
      subst ed
      rw [hpe ()] at hr ⊢
      rcases hr with ⟨i, _, h2, _⟩ | ⟨_, rfl⟩
      · omega
      · unfold fSe_indexOf_J82; rw [hz]; rfl
    · have hpc := h.2.2.2.2.2.1 p
      have hu := wkey_63 hn (hb (σ p - 1) (by omega))
      rw [if_neg (by rw [iI_lt (by omega) (by omega) (by omega) (by omega)]; omega), rd_of (by decide), h.2.1, if_neg (by rw [iI_le (by omega) (by omega) (by omega) (by omega)]; omega), chk_in (by omega) (by omega) (by omega), show ((σ p : Nat) : Int) - 1 = ((σ p - 1 : Nat) : Int) by omega, iI_natc (by omega), h.2.2.2.1 _ (by omega)]
      simp only [lg_n hu hx]
      by_cases hq : wkey (Us n T bk D0 (σ p - 1)) n = x
      · rw [if_pos hq]
        have ed : e = d := by
          by_cases e3 : e < d
          · have := (d2 e e3).2; rw [hpe ()] at this; exact absurd hq this
          · omega
        subst ed
        rw [hpe ()] at hr ⊢
        rcases hr with ⟨i, _, h2, _, rfl⟩ | ⟨h2, _⟩
        · unfold fSe_indexOf_J82; rw [h2]; rfl
        · omega
      · rw [if_neg hq]
        have ed : e < d := by
          by_cases e3 : e < d
          · exact e3
          · have : e = d := by omega
            subst this
            rw [hpe ()] at hr
            rcases hr with ⟨i, _, h2, h3, _⟩ | ⟨h2, _⟩
            · rw [h2] at hq; exact absurd h3 hq
            · omega
        unfold fSe_indexOf_J85
        simp only [nmM, rd_at, iI_add]
        rw [show (p : Int) + 1 = ((p + 1 : Nat) : Int) by omega, i8191]
        refine hk (d - (e + 1)) _ _ (by omega) ⟨e + 1, by omega, rfl, by simp, ?_⟩
        rw [wsI_wsI, ← hpe ()]
        exact congrArg (fun z : Nat => wsI s 23 3 (iI (z : Int))) (mod_s _ _)
  rcases d3 with ⟨i, k1, k2, k3⟩ | ⟨k1, k2⟩
  · exact Or.inl ⟨i, k1, k3, main _ (Or.inl ⟨i, k1, k2, k3, rfl⟩)⟩
  · exact Or.inr ⟨k2, main _ (Or.inr ⟨k1, rfl⟩), d, d1, rfl, k1, fun e he => (d2 e he).1⟩
end SW
