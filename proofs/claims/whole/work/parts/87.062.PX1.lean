/-! tables with free places -/
def nzc (σ : Nat → Nat) : Nat → Nat
  | 0 => 0
  | p + 1 => nzc σ p + (if σ p = 0 then 0 else 1)
theorem nzc_full {σ : Nat → Nat} : ∀ {N : Nat}, (∀ p, p < N → σ p ≠ 0) → nzc σ N = N
  | 0, _ => rfl
  | N + 1, h => by
    show nzc σ N + _ = _
    rw [nzc_full (N := N) fun p hp => h p (by omega), if_neg (h N (by omega))]
theorem nzc_upd {σ : Nat → Nat} {p v : Nat} : ∀ {N : Nat}, nzc (fun q => if q = p then v else σ q) N ≤ nzc σ N + (if p < N then 1 else 0)
  | 0 => by simp [nzc]
  | N + 1 => by
    have ih := nzc_upd (σ := σ) (p := p) (v := v) (N := N)
    show nzc _ N + (if (if N = p then v else σ N) = 0 then 0 else 1) ≤ nzc σ N + (if σ N = 0 then 0 else 1) + _
    by_cases e : N = p
    · subst e
      rw [if_neg (Nat.lt_irrefl _)] at ih
      rw [if_pos (show N < N + 1 by omega), if_pos rfl]
      split <;> split <;> omega
    · rw [if_neg e]
      by_cases e2 : p < N
      · rw [if_pos e2] at ih; rw [if_pos (show p < N + 1 by omega)]; omega
      · rw [if_neg e2] at ih; rw [if_neg (show ¬ p < N + 1 by omega)]; omega
def HT (N : Nat) (σ : Nat → Nat) (c : Nat) (K H : Nat → Nat) : Prop := (∀ p, σ p ≤ c) ∧ (∀ i, i < c → ∃ d, d < N ∧ σ ((H (K i) + d) % N) = i + 1 ∧ ∀ e, e < d → σ ((H (K i) + e) % N) ≠ 0) ∧ nzc σ N ≤ c
section HT
variable {N c : Nat} {σ K H : Nat → Nat}
theorem HT_0 : HT N (fun _ => 0) 0 K H := by
  refine ⟨fun _ => Nat.le_refl _, fun i hi => absurd hi (by omega), ?_⟩
  suffices ∀ M, nzc (fun _ => 0) M = 0 by rw [this]; exact Nat.le_refl _
  intro M
  induction M with
  | zero => rfl
  | succ M ih => show nzc _ M + _ = 0; rw [ih]; rfl
theorem HT_gap (h : HT N σ c K H) (hN : c < N) (a : Nat) (ha : a < N) : ∃ d, d < N ∧ σ ((a + d) % N) = 0 := by
  by_cases hc : ∃ p, p < N ∧ σ p = 0
  · obtain ⟨p, h1, h2⟩ := hc
    by_cases e : a ≤ p
    · refine ⟨p - a, by omega, ?_⟩
      rw [show a + (p - a) = p by omega, Nat.mod_eq_of_lt h1]; exact h2
    · refine ⟨p + N - a, by omega, ?_⟩
      rw [show a + (p + N - a) = p + N by omega, Nat.add_mod_right, Nat.mod_eq_of_lt h1]; exact h2
  · exfalso
    have := nzc_full (σ := σ) (N := N) fun p hp e => hc ⟨p, hp, e⟩
    have := h.2.2
    omega
theorem HT_look (h : HT N σ c K H) (hN : c < N) {x : Nat} (hx : H x < N) : ∃ d, d < N ∧ (∀ e, e < d → σ ((H x + e) % N) ≠ 0 ∧ K (σ ((H x + e) % N) - 1) ≠ x) ∧ ((∃ i, i < c ∧ σ ((H x + d) % N) = i + 1 ∧ K i = x) ∨ (σ ((H x + d) % N) = 0 ∧ ∀ i, i < c → K i ≠ x)) := by
  obtain ⟨d0, g1, g2⟩ := HT_gap h hN (H x) hx
  let P : Nat → Bool := fun d => decide (σ ((H x + d) % N) = 0) || decide (K (σ ((H x + d) % N) - 1) = x)
  have hle := ff_le P d0
  have hbf : ∀ e, e < ff P d0 → σ ((H x + e) % N) ≠ 0 ∧ K (σ ((H x + e) % N) - 1) ≠ x := fun e he => by
    have := ff_bf P d0 e he
    simp [P] at this; exact this
  refine ⟨ff P d0, by omega, hbf, ?_⟩
  have hP : P (ff P d0) = true := by
    by_cases e : ff P d0 < d0
    · exact ff_lt P d0 e
    · rw [show ff P d0 = d0 by omega]; simp [P, g2]
  generalize ff P d0 = d at hle hbf hP ⊢
  by_cases hz : σ ((H x + d) % N) = 0
  · refine Or.inr ⟨hz, fun i hi he => ?_⟩
    obtain ⟨d', k1, k2, k3⟩ := h.2.1 i hi
    rw [he] at k2 k3
    by_cases e1 : d' < d
    · have := (hbf d' e1).2
      rw [k2] at this
      exact this he
    · by_cases e2 : d' = d
      · subst e2; omega
      · exact k3 d (by omega) hz
  · left
    simp [P, hz] at hP
    have := h.1 ((H x + d) % N)
    exact ⟨σ ((H x + d) % N) - 1, by omega, by omega, hP⟩
theorem HT_add (h : HT N σ c K H) {d : Nat} (hd : d < N) (h0 : σ ((H (K c) + d) % N) = 0) (hb : ∀ e, e < d → σ ((H (K c) + e) % N) ≠ 0) : HT N (fun q => if q = (H (K c) + d) % N then c + 1 else σ q) (c + 1) K H := by
  refine ⟨fun p => ?_, fun i hi => ?_, ?_⟩
  · have := h.1 p
    show (if _ then _ else _) ≤ _
    split
    · exact Nat.le_refl _
    · exact Nat.le_succ_of_le this
  · by_cases e : i = c
    · subst e
      refine ⟨d, hd, if_pos rfl, fun e he => ?_⟩
      show (if _ then _ else _) ≠ 0
      split
      · exact Nat.succ_ne_zero _
      · exact hb e he
    · obtain ⟨d', k1, k2, k3⟩ := h.2.1 i (by omega)
      refine ⟨d', k1, ?_, fun e he => ?_⟩
      · show (if _ then _ else _) = _
        rw [if_neg]
        · exact k2
        · intro e'; rw [e'] at k2; omega
      · show (if _ then _ else _) ≠ 0
        split
        · exact Nat.succ_ne_zero _
        · exact k3 e he
  · have := h.2.2
    have h2 := nzc_upd (σ := σ) (p := (H (K c) + d) % N) (v := c + 1) (N := N)
    split at h2 <;> omega
end HT
/-- the depths after a carrying, told as a number -/
theorem wkey_uI {D : Nat → Int} {a : Nat} {v : Int} : ∀ {n : Nat}, a < n → wkey (uI D a v) n + (D a).toNat * 2 ^ (7 * a) = wkey D n + v.toNat * 2 ^ (7 * a)
  | 0, h => by omega
  | n + 1, h => by
    show wkey (uI D a v) n + (uI D a v n).toNat * 2 ^ (7 * n) + _ = wkey D n + (D n).toNat * 2 ^ (7 * n) + _
    by_cases e : a = n
    · subst e
      rw [uI_at, wkey_congr (n := a) (D := uI D a v) (E := D) fun j hj => uI_ne (by omega)]
      omega
    · have ih := wkey_uI (D := D) (a := a) (v := v) (n := n) (by omega)
      rw [uI_ne (by omega)]
      omega
