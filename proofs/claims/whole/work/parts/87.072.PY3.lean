section MV
variable {s t : wM} {n : Nat} {T : Nat → Nat → Bool} {S : Nat → Nat → Int} {bk : Int} {D0 : Dp} {σ : Nat → Nat} {c : Nat}
theorem M_findsFirst (hn : n ≤ 9) (h3 : s.1 161 3 = iI (n : Int)) {k : Nat} (hk : ∀ j, j < n → s.1 k j = iI (D0 j)) (hb : Bn n D0) (k1 : k ≠ 161) (k2 : k < 180 ∨ 183 < k) : ∃ t σ', fM_findsFirst s k = some t ∧ MT t n T bk D0 σ' 1 ∧ t.1 161 35 = iI 0 ∧ Off KFi s t := by
  unfold fM_findsFirst
  refine wh2_w (Q := fun y => ∃ t σ', y = some t ∧ MT t n T bk D0 σ' 1 ∧ t.1 161 35 = iI 0 ∧ Off KFi s t) (fun m x t => ∃ i : Nat, i ≤ 16384 ∧ m = 16384 - i ∧ x = iI (i : Int) ∧ (∀ p, p < i → t.1 183 p = iI (-1)) ∧ Off KFi s t ∧ t.2 = s.2) ?_ 100000 16384 _ _ (by omega) ⟨0, by omega, rfl, rfl, fun p hp => absurd hp (by omega), Off.refl s, rfl⟩
  rintro m x t ⟨i, hi, rfl, rfl, hf, ho, h2⟩ kk hkk
  unfold fM_findsFirst_L2
  by_cases c1 : i < 16384
  · rw [if_neg (by rw [iI_le (by omega) (by omega) (by omega) (by omega)]; omega), chk_in (by omega) (by omega) (by omega), nmM_e, iI_natc (by omega), iI_add]
    refine hkk (16384 - (i + 1)) _ _ (by omega) ⟨i + 1, by omega, rfl, by simp, fun p hp => ?_, ho.set rfl, h2⟩
    by_cases e : p = i
    · subst e; rw [rd_at]
    · rw [rd_of e]; exact hf p (by omega)
  · rw [if_pos (by rw [iI_le (by omega) (by omega) (by omega) (by omega)]; omega), nmM_e, nmM_e]
    have hM : MT (wsI (wsI t 161 34 (iI 0)) 161 35 (iI 0)) n T bk D0 (fun _ => 0) 0 := by
      refine ⟨by omega, by rw [rd_of (by decide), rd_at]; rfl, fun i hi => absurd hi (by omega), fun i hi => absurd hi (by omega), fun i _ hi => absurd hi (by omega), fun p hp => ?_, HT_0, fun h => absurd h (by omega)⟩
      rw [rd_ne (by decide), rd_ne (by decide), hf p (by omega)]; rfl
    have kf : ∀ j, KFi k j = false := fun j => by
      simp only [KFi, Bool.or_eq_false_iff, Bool.and_eq_false_iff, beq_eq_false_iff_ne]
      omega
    rcases M_finds (L := 1) (u := D0) (k := k) (x2 := iI (-1)) (x3 := iI (-1)) hn (by rw [rd_of (by decide), rd_of (by decide), ho 161 3 rfl]; exact h3) (fun i hi => absurd hi (by omega)) hM hb (fun j hj => by rw [rd_ne k1, rd_ne k1, ho k j (kf j)]; exact hk j hj) (by omega) (by omega) (fun _ _ => ⟨by rw [U_0], Or.inl ⟨rfl, rfl⟩⟩) with ⟨⟨i, hi, _⟩, _⟩ | ⟨_, ⟨h, _⟩ | ⟨_, u, σ', e, hu, h35, ou⟩⟩
    · omega
    · omega
    · rw [show iI (1 : Int) = iI ((1 : Nat) : Int) from rfl, e, Option.bind_some]
      exact ⟨u, σ', rfl, hu, by rw [h35, rd_at], ((ho.set rfl).set rfl).trans ou⟩
theorem mvR_pre {a b : Nat} : ∀ {b' : Nat}, b ≤ b' → mvR T a b <+: mvR T a b'
  | 0, h => by rw [show b = 0 by omega]; exact List.prefix_refl _
  | b' + 1, h => by
    by_cases e : b = b' + 1
    · rw [e]; exact List.prefix_refl _
    · exact List.IsPrefix.trans (mvR_pre (b' := b') (by omega)) (List.prefix_append _ _)
theorem mvL_pre {a : Nat} : ∀ {a' : Nat}, a ≤ a' → mvL T n a <+: mvL T n a'
  | 0, h => by rw [show a = 0 by omega]; exact List.prefix_refl _
  | a' + 1, h => by
    by_cases e : a = a' + 1
    · rw [e]; exact List.prefix_refl _
    · exact List.IsPrefix.trans (mvL_pre (a' := a') (by omega)) (List.prefix_append _ _)
theorem mv_at {a b : Nat} (ha : a < n) (hb : b < n) (hT : T a b = true) : ∃ h : (mvL T n a ++ mvR T a b).length < (mvs n T).length, (mvs n T)[(mvL T n a ++ mvR T a b).length] = (a, b) := by
  have h1 : mvL T n a ++ mvR T a b ++ [(a, b)] <+: mvs n T := by
    have e : mvR T a (b + 1) = mvR T a b ++ [(a, b)] := by show mvR T a b ++ _ = _; rw [if_pos hT]
    rw [List.append_assoc, ← e]
    refine List.IsPrefix.trans ?_ (mvL_pre (show a + 1 ≤ n by omega))
    exact (List.prefix_append_right_inj _).mpr (mvR_pre (by omega))
  obtain ⟨r, hr⟩ := h1
  have hl : (mvL T n a ++ mvR T a b).length < (mvs n T).length := by rw [← hr]; simp
  refine ⟨hl, ?_⟩
  have : (mvs n T)[(mvL T n a ++ mvR T a b).length]? = some (a, b) := by
    rw [← hr, List.append_assoc, List.getElem?_append_right (Nat.le_refl _)]; simp
  rw [List.getElem?_eq_getElem hl] at this
  exact Option.some.inj this
/-- the one just found came from h by the m-th move -/
theorem par_at {h m : Nat} (hm : m < (mvs n T).length) (hh : h < cG n T bk D0 h m) (h1 : cG n T bk D0 h (m + 1) = cG n T bk D0 h m + 1) : par n T bk D0 (cG n T bk D0 h m) = h ∧ pm n T bk D0 (cG n T bk D0 h m) = m := by
  have hpos : 1 ≤ cG n T bk D0 h m := cG_pos
  have hr : cG n T bk D0 h m < cG n T bk D0 h (m + 1) := by omega
  obtain ⟨p1, p2⟩ := par_ok hpos hr
  have hp : par n T bk D0 (cG n T bk D0 h m) = h := by
    by_cases e1 : par n T bk D0 (cG n T bk D0 h m) < h
    · have q1 : cG n T bk D0 (par n T bk D0 (cG n T bk D0 h m) + 1) 0 ≤ cG n T bk D0 h m := cG_mono (by omega)
      omega
    · by_cases e2 : h < par n T bk D0 (cG n T bk D0 h m)
      · have q1 : cG n T bk D0 h (m + 1) ≤ cG n T bk D0 (par n T bk D0 (cG n T bk D0 h m)) 0 := cG_mono (by omega)
        omega
      · omega
  refine ⟨hp, ?_⟩
  unfold pm
  rw [hp]
  refine ff_eq (by omega) (fun _ => by simp; omega) (fun j hj => ?_)
  have : cG n T bk D0 h (j + 1) ≤ cG n T bk D0 h m := cG_mono (by omega)
  simp; omega
theorem M_canCarry' {k a b : Nat} {u : Dp} (hL : LM s n T S) (h1 : s.1 k a = iI (u a)) (h2 : s.1 k b = iI (u b)) (b1 : 0 ≤ u a ∧ u a ≤ 99) (b2 : 0 ≤ u b ∧ u b ≤ 99) (hr : s.1 168 2 = iI bk) (hbk : 1 ≤ bk ∧ bk ≤ 9) (ha : a < 9) (hb : b < 9) : fM_canCarry s k (iI (a : Int)) (iI (b : Int)) = some (bI (cc T bk u a b)) := by
  simp only [fM_canCarry, fM_canCarry_J44, fM_canCarry_J45, iI_natc (show a ≤ 2147483647 by omega), iI_natc (show b ≤ 2147483647 by omega), M_tb hL ha hb, Option.bind_some, bI_0, h1, h2, z2, hr]
  simp (disch := omega) only [iI_add, iI_sub, iI_mul, iI_lt, iI_le, iI_eq, iI_natc, iI_nat, chk_in, chkZ_1, chkZ_0, iMax_i, iMin_i, iAbs_i, Option.bind_some, nmI, nmM, nmL, rd_ne, rd_at, rd_cne, rd_fne, rd_L, rd_2, rd_c2, rd_f2, if_true, if_false, Int.toNat_natCast, ne_eq]
  unfold cc
  cases T a b
  · simp [← bI_f]
  · by_cases h1 : u a < bk
    · simp [h1, show ¬ bk ≤ u a by omega, ← bI_f]
    · by_cases h2 : 99 - bk < u b
      · simp [h1, h2, show ¬ u b ≤ 99 - bk by omega, ← bI_f]
      · simp [h1, h2, show u b ≤ 99 - bk by omega, show bk ≤ u a by omega, ← bI_t]
end MV
