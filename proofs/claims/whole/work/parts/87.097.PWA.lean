/-! night: the reference's reading -/
def Kn : Nat → Nat → Bool := fun k j => (k == 161 && (j == 13 || j == 25)) || (decide (175 ≤ k) && decide (k ≤ 177))
def NCo (s : wM) (k : Nat) (g : Nat → Ln) : Prop := s.1 161 25 = iI (k : Int) ∧ ∀ i, i < k → s.1 175 i = iI (g i).1 ∧ s.1 176 i = iI (g i).2.1 ∧ s.1 177 i = iI (g i).2.2
theorem w3s {ρ A B C : Type} {f : A → B → C → (A → B → C → Option ρ) → Option ρ} (n : Nat) (a : A) (b : B) (c : C) : wh3 f (n + 1) a b c = f a b c (wh3 f n) := rfl
section NM
variable {s t : wM} {c : Nat → Nat} {L p q k : Nat} {g : Nat → Ln} {a b z : Int}
theorem NCo.of (h : NCo s k g) (o : Off K13 s t) : NCo t k g := ⟨by rw [o 161 25 rfl]; exact h.1, fun i hi => by rw [o 175 i rfl, o 176 i rfl, o 177 i rfl]; exact h.2 i hi⟩
theorem K13.kn (o : Off K13 s t) : Off Kn s t := o.mono fun k j hk => by
  simp only [K13, Kn, Bool.or_eq_false_iff, Bool.and_eq_false_iff, decide_eq_false_iff_not, beq_eq_false_iff_ne] at hk ⊢; omega
def NLine (s : wM) (k : Nat) (g : Nat → Ln) (c : Nat → Nat) (L p : Nat) (y : Option (Int32 × wM)) : Prop := ∃ t q, Off Kn s t ∧ MP t c L q ∧ ((nlN c L 9 p = (none, q) ∧ y = some (iI 0, t)) ∨ ∃ x, nlN c L 9 p = (some x, q) ∧ p + 3 ≤ q ∧ y = some (iI 1, t) ∧ NCo t (k + 1) (up g k x))
theorem M_J167 (h : NCo s k g) (hk : k < 16) (h5 : s.1 175 k = iI a) (h6 : s.1 176 k = iI b) (hp : MP s c L q) (hz : -1 ≤ z ∧ z ≤ 9) : ∃ t, fM_readsStep_J167 (iI z) (iI (k : Int)) s = some (bI (decide (0 < z)), t) ∧ MP t c L q ∧ NCo t (k + 1) (up g k (a, b, z)) ∧ Off Kn s t := by
  have o : Off Kn s (wsI (wsI s 177 k (iI z)) 161 25 (iI ((k : Int) + 1))) := ((Off.refl s).set rfl).set rfl
  have e25 : (wsI (wsI s 177 k (iI z)) 161 25 (iI ((k : Int) + 1))).1 161 25 - iI 1 = iI (k : Int) := by rw [rd_at, iI_sub]; exact iI_congr (by omega)
  unfold fM_readsStep_J167 fM_readsStep_J197
  rw [chk_in (by omega) (by omega) (by omega), iI_natc (by omega), nmM_e, rd_ne (show (161 : Nat) ≠ 177 by decide), h.1, iI_add, nmM_e, e25, chk_in (by omega) (by omega) (by omega), iI_natc (by omega), rd_ne (show (177 : Nat) ≠ 161 by decide), rd_at, chkZ_0, chkZ_1]
  refine ⟨_, ?_, hp.of ?_ ?_ (o.row fun j => rfl), ⟨by rw [rd_at]; simp, fun i hi => ?_⟩, o⟩
  · by_cases c1 : z ≤ 0
    · rw [if_pos (by rw [iI_le (by omega) (by omega) (by omega) (by omega)]; omega), bI_n (by omega)]
    · rw [if_neg (by rw [iI_le (by omega) (by omega) (by omega) (by omega)]; omega), bI_d (by omega)]
  · exact o 161 14 rfl
  · rw [rd_of (by decide), rd_ne (by decide)]
  · rw [rd_ne (show (175 : Nat) ≠ 161 by decide), rd_ne (show (175 : Nat) ≠ 177 by decide), rd_ne (show (176 : Nat) ≠ 161 by decide), rd_ne (show (176 : Nat) ≠ 177 by decide), rd_ne (show (177 : Nat) ≠ 161 by decide)]
    by_cases e : i = k
    · subst e; rw [rd_at, up_at]; exact ⟨h5, h6, rfl⟩
    · rw [rd_of e, up_of e]; exact h.2 i (by omega)
theorem M_readsStep (h : NCo s k g) (hp : MP s c L p) (hk : k < 16) : NLine s k g c L p (fM_readsStep s) := by
  have hL := hp.1
  have hpL := hp.2.1
  have h256 := hp.2.2.2.2.2
  have hp1 := h256 p
  have hp3 := h256 (p + 2)
  unfold fM_readsStep fM_readsStep_J33 fM_readsStep_J108
  rw [hp.2.2.1, hp.2.2.2.1]
  by_cases c0 : L ≤ p
  · rw [if_pos (by rw [iI_le (by omega) (by omega) (by omega) (by omega)]; omega)]
    refine ⟨s, p, Off.refl s, hp, Or.inl ⟨?_, rfl⟩⟩
    unfold nlN; rw [if_neg (fun h' => by have := h'.1; omega)]
  · rw [if_neg (by rw [iI_le (by omega) (by omega) (by omega) (by omega)]; omega), chk_in (by omega) (by omega) (by omega), iI_natc (by omega), hp.2.2.2.2.1 p (by omega), M_in, Option.bind_some, iL (by omega) (by omega)]
    by_cases c1 : ltr c L 9 p
    · have c1' := c1.2
      have pu : MP (wsI (wsI s 175 k (iI ((c p : Int) - 97))) 161 13 (iI ((p + 1 : Nat) : Int))) c L (p + 1) := MP.go (p := p) (hp.of (by rw [rd_ne (by decide)]) (by rw [rd_ne (by decide)]) (rd_ne (by decide))) c1.1
      have hu : NCo (wsI (wsI s 175 k (iI ((c p : Int) - 97))) 161 13 (iI ((p + 1 : Nat) : Int))) k g := ⟨by rw [rd_of (by decide), rd_ne (by decide)]; exact h.1, fun i hi => by
        rw [rd_ne (show (175 : Nat) ≠ 161 by decide), rd_ne (show (176 : Nat) ≠ 161 by decide), rd_ne (show (177 : Nat) ≠ 161 by decide), rd_of (show i ≠ k by omega), rd_ne (show (176 : Nat) ≠ 175 by decide), rd_ne (show (177 : Nat) ≠ 175 by decide)]; exact h.2 i hi⟩
      have u5 : (wsI (wsI s 175 k (iI ((c p : Int) - 97))) 161 13 (iI ((p + 1 : Nat) : Int))).1 175 k = iI ((c p : Int) - 97) := by rw [rd_ne (by decide), rd_at]
      have ou : Off Kn s (wsI (wsI s 175 k (iI ((c p : Int) - 97))) 161 13 (iI ((p + 1 : Nat) : Int))) := ((Off.refl s).set rfl).set rfl
      rw [bI_d (by rw [show (97 : Int64).toInt = 97 from rfl, show (105 : Int64).toInt = 105 from rfl]; omega), if_neg (by decide), h.1, chk_in (by omega) (by omega) (by omega), iI_natc (by omega), iI_sub, nmM_e, rd_ne (show (161 : Nat) ≠ 175 by decide), hp.2.2.2.1, iI_add, nmM_e, show (p : Int) + 1 = ((p + 1 : Nat) : Int) by omega]
      generalize wsI (wsI s 175 k (iI ((c p : Int) - 97))) 161 13 (iI ((p + 1 : Nat) : Int)) = u at pu hu u5 ou ⊢
      have htk := M_takesC (x := 62) pu (by omega)
      by_cases c2 : isC c L (p + 1) 62
      · obtain ⟨y, ey, py0, oy⟩ := htk.1 c2
        have ey' : fM_takes u (iI 62) = some (iI 1, y) := ey
        have py : MP y c L (p + 2) := py0
        have hy := hu.of oy
        have y5 : y.1 175 k = iI ((c p : Int) - 97) := by rw [oy 175 k rfl]; exact u5
        have hpy := py.2.1
        rw [ey', Option.bind_some]
        dsimp only
        rw [if_neg (by decide), py.2.2.1, py.2.2.2.1]
        by_cases c3 : L ≤ p + 2
        · rw [if_pos (by rw [iI_le (by omega) (by omega) (by omega) (by omega)]; omega)]
          refine ⟨y, p + 2, ou.trans (K13.kn oy), py, Or.inl ⟨?_, rfl⟩⟩
          unfold nlN; rw [if_pos c1, if_pos c2, if_neg (fun h' => by have := h'.1; omega)]
        · rw [if_neg (by rw [iI_le (by omega) (by omega) (by omega) (by omega)]; omega), chk_in (by omega) (by omega) (by omega), iI_natc (by omega), py.2.2.2.2.1 (p + 2) (by omega), M_in, Option.bind_some, iL (by omega) (by omega)]
          by_cases c4 : ltr c L 9 (p + 2)
          · have c4' := c4.2
            have pv : MP (wsI (wsI y 176 k (iI ((c (p + 2) : Int) - 97))) 161 13 (iI ((p + 3 : Nat) : Int))) c L (p + 3) := MP.go (p := p + 2) (py.of (by rw [rd_ne (by decide)]) (by rw [rd_ne (by decide)]) (rd_ne (by decide))) c4.1
            have hv : NCo (wsI (wsI y 176 k (iI ((c (p + 2) : Int) - 97))) 161 13 (iI ((p + 3 : Nat) : Int))) k g := ⟨by rw [rd_of (by decide), rd_ne (by decide)]; exact hy.1, fun i hi => by
              rw [rd_ne (show (175 : Nat) ≠ 161 by decide), rd_ne (show (176 : Nat) ≠ 161 by decide), rd_ne (show (177 : Nat) ≠ 161 by decide), rd_ne (show (175 : Nat) ≠ 176 by decide), rd_of (show i ≠ k by omega), rd_ne (show (177 : Nat) ≠ 176 by decide)]; exact hy.2 i hi⟩
            have v5 : (wsI (wsI y 176 k (iI ((c (p + 2) : Int) - 97))) 161 13 (iI ((p + 3 : Nat) : Int))).1 175 k = iI ((c p : Int) - 97) := by rw [rd_ne (by decide), rd_ne (by decide)]; exact y5
            have v6 : (wsI (wsI y 176 k (iI ((c (p + 2) : Int) - 97))) 161 13 (iI ((p + 3 : Nat) : Int))).1 176 k = iI ((c (p + 2) : Int) - 97) := by rw [rd_ne (by decide), rd_at]
            have ov : Off Kn s (wsI (wsI y 176 k (iI ((c (p + 2) : Int) - 97))) 161 13 (iI ((p + 3 : Nat) : Int))) := ((ou.trans (K13.kn oy)).set rfl).set rfl
            rw [bI_d (by rw [show (97 : Int64).toInt = 97 from rfl, show (105 : Int64).toInt = 105 from rfl]; omega), if_neg (by decide), hy.1, chk_in (by omega) (by omega) (by omega), iI_natc (by omega), iI_sub, nmM_e, rd_ne (show (161 : Nat) ≠ 176 by decide), py.2.2.2.1, iI_add, nmM_e, show ((p + 2 : Nat) : Int) + 1 = ((p + 3 : Nat) : Int) by omega]
            generalize wsI (wsI y 176 k (iI ((c (p + 2) : Int) - 97))) 161 13 (iI ((p + 3 : Nat) : Int)) = v at pv hv v5 v6 ov ⊢
            rw [hv.1]
            have htk2 := M_takesC (x := 42) pv (by omega)
            by_cases c5 : isC c L (p + 3) 42
            · obtain ⟨x, ex, px0, ox⟩ := htk2.1 c5
              have ex' : fM_takes v (iI 42) = some (iI 1, x) := ex
              have px : MP x c L (p + 4) := px0
              rw [ex', Option.bind_some]
              dsimp only
              rw [if_neg (by decide)]
              have hd := M_digitC (lo := 1) px (by omega)
              have x5 : x.1 175 k = iI ((c p : Int) - 97) := by rw [ox 175 k rfl]; exact v5
              have x6 : x.1 176 k = iI ((c (p + 2) : Int) - 97) := by rw [ox 176 k rfl]; exact v6
              by_cases c6 : dg c L 49 (p + 4)
              · have c6' := c6.2
                obtain ⟨r, er, pr, or⟩ := hd.1 c6
                have er' : fM_digit x (iI 1) = some (iI ((c (p + 4) : Int) - 48), r) := er
                obtain ⟨f, ef, pf, hf, of⟩ := M_J167 (z := (c (p + 4) : Int) - 48) ((hv.of ox).of or) hk (by rw [or 175 k rfl]; exact x5) (by rw [or 176 k rfl]; exact x6) pr (by omega)
                rw [er', Option.bind_some]
                dsimp only
                rw [ef, bI_d (by omega)]
                refine ⟨f, p + 5, ((ov.trans (K13.kn ox)).trans (K13.kn or)).trans of, pf, Or.inr ⟨_, ?_, by omega, rfl, hf⟩⟩
                unfold nlN; rw [if_pos c1, if_pos c2, if_pos c4, if_pos c5, if_pos c6]
              · have er' : fM_digit x (iI 1) = some (iI (-1), x) := hd.2 c6
                obtain ⟨f, ef, pf, hf, of⟩ := M_J167 (z := -1) (hv.of ox) hk x5 x6 px (by omega)
                rw [er', Option.bind_some]
                dsimp only
                rw [ef, bI_n (by omega)]
                refine ⟨f, p + 4, (ov.trans (K13.kn ox)).trans of, pf, Or.inl ⟨?_, rfl⟩⟩
                unfold nlN; rw [if_pos c1, if_pos c2, if_pos c4, if_pos c5, if_neg c6]
            · obtain ⟨x, ex, px, ox⟩ := htk2.2 c5
              have ex' : fM_takes v (iI 42) = some (iI 0, x) := ex
              obtain ⟨f, ef, pf, hf, of⟩ := M_J167 (z := 1) (hv.of ox) hk (by rw [ox 175 k rfl]; exact v5) (by rw [ox 176 k rfl]; exact v6) px (by omega)
              rw [ex', Option.bind_some]
              dsimp only
              rw [if_pos (by decide), ef, bI_d (by omega)]
              refine ⟨f, p + 3, (ov.trans (K13.kn ox)).trans of, pf, Or.inr ⟨_, ?_, by omega, rfl, hf⟩⟩
              unfold nlN; rw [if_pos c1, if_pos c2, if_pos c4, if_neg c5]
          · have c4' : ¬ (97 ≤ c (p + 2) ∧ c (p + 2) < 106) := fun h' => c4 ⟨by omega, h'⟩
            rw [bI_n (by rw [show (97 : Int64).toInt = 97 from rfl, show (105 : Int64).toInt = 105 from rfl]; omega), if_pos (by decide)]
            refine ⟨y, p + 2, ou.trans (K13.kn oy), py, Or.inl ⟨?_, rfl⟩⟩
            unfold nlN; rw [if_pos c1, if_pos c2, if_neg c4]
      · obtain ⟨y, ey, py, oy⟩ := htk.2 c2
        have ey' : fM_takes u (iI 62) = some (iI 0, y) := ey
        rw [ey', Option.bind_some]
        dsimp only
        rw [if_pos (by decide)]
        refine ⟨y, p + 1, ou.trans (K13.kn oy), py, Or.inl ⟨?_, rfl⟩⟩
        unfold nlN; rw [if_pos c1, if_neg c2]
    · have c1' : ¬ (97 ≤ c p ∧ c p < 106) := fun h' => c1 ⟨by omega, h'⟩
      rw [bI_n (by rw [show (97 : Int64).toInt = 97 from rfl, show (105 : Int64).toInt = 105 from rfl]; omega), if_pos (by decide)]
      refine ⟨s, p, Off.refl s, hp, Or.inl ⟨?_, rfl⟩⟩
      unfold nlN; rw [if_neg c1]
theorem M_nstep (h : NCo s k g) (hp : MP s c L p) (hk : k < 16) {x1 x2 : Int32} (kk : Int32 → Int32 → wM → Option (Int32 × wM)) : ∃ t, Off Kn s t ∧ ((∃ q, nlN c L 9 p = (none, q) ∧ MP t c L q ∧ fM_night_L29 x1 x2 (iI 1) s kk = kk (iI 0) (iI 0) t) ∨ ∃ x q, nlN c L 9 p = (some x, q) ∧ p + 3 ≤ q ∧ NCo t (k + 1) (up g k x) ∧ ((q < L ∧ c q = 59 ∧ MP t c L (q + 1) ∧ fM_night_L29 x1 x2 (iI 1) s kk = kk (iI 1) (iI 1) t) ∨ (¬ (q < L ∧ c q = 59) ∧ MP t c L q ∧ fM_night_L29 x1 x2 (iI 1) s kk = kk (iI 1) (iI 0) t))) := by
  obtain ⟨t, q, ot, pt, hcs⟩ := M_readsStep h hp hk
  unfold fM_night_L29 fM_night_J55 fM_night_J56
  rw [if_neg (by decide)]
  rcases hcs with ⟨hcl, e⟩ | ⟨x, hcl, hpq, e, hn⟩
  · refine ⟨t, ot, Or.inl ⟨q, hcl, pt, ?_⟩⟩
    rw [e, Option.bind_some]
    dsimp only
    rw [if_pos (by decide)]
  · have htk := M_takesC (x := 59) pt (by omega)
    rw [e, Option.bind_some]
    dsimp only
    rw [if_neg (by decide)]
    by_cases c1 : isC c L q 59
    · obtain ⟨u, e2, pu, ou⟩ := htk.1 c1
      have e2' : fM_takes t (iI 59) = some (iI 1, u) := e2
      refine ⟨u, ot.trans (K13.kn ou), Or.inr ⟨x, q, hcl, hpq, hn.of ou, Or.inl ⟨c1.1, c1.2, pu, ?_⟩⟩⟩
      rw [e2', Option.bind_some]
      dsimp only
      rw [if_neg (by decide)]
    · obtain ⟨u, e2, pu, ou⟩ := htk.2 c1
      have e2' : fM_takes t (iI 59) = some (iI 0, u) := e2
      refine ⟨u, ot.trans (K13.kn ou), Or.inr ⟨x, q, hcl, hpq, hn.of ou, Or.inr ⟨c1, pu, ?_⟩⟩⟩
      rw [e2', Option.bind_some]
      dsimp only
      rw [if_pos (by decide)]
end NM
def nOK (x : Ln) : Prop := (0 ≤ x.1 ∧ x.1 < 9) ∧ (0 ≤ x.2.1 ∧ x.2.1 < 9) ∧ (1 ≤ x.2.2 ∧ x.2.2 ≤ 9)
theorem nf9 {x : Ln} (h : nOK x) : nf x 9 = 9 := by
  have := h.1
  unfold nf; rw [if_neg (by omega)]
theorem nlN_lt {c : Nat → Nat} {L f p q : Nat} {x : Ln} (h : nlN c L f p = (some x, q)) : p + 3 ≤ q := by
  unfold nlN at h
  repeat' split at h
  all_goals first | (cases h; done) | (cases h; omega)
theorem rdLn_nok {c : Nat → Nat} {L : Nat} (hL : L ≤ 40) : ∀ m p k g, (∀ i, i < k → nOK (g i)) → 4 * k ≤ p → p ≤ L → (rdLn c L (nlN c L) m p 9 k g).1 = none → (∀ i, i < (rdLn c L (nlN c L) m p 9 k g).2.1 → nOK ((rdLn c L (nlN c L) m p 9 k g).2.2 i)) ∧ (rdLn c L (nlN c L) m p 9 k g).2.1 ≤ 15
  | 0, p, k, g, _, _, _, h => by cases h
  | m + 1, p, k, g, hg, hk, hp, h => by
    cases e : nlN c L 9 p with
    | mk o q =>
      cases o with
      | none => rw [rdLn_no e] at h; cases h
      | some x =>
        have hx : nOK x := nlN_ok e
        have hq := nlN_lt e
        have hg' : ∀ i, i < k + 1 → nOK (up g k x i) := fun i hi => by
          by_cases ei : i = k
          · rw [ei, up_at]; exact hx
          · rw [up_of ei]; exact hg i (by omega)
        by_cases c1 : q < L ∧ c q = 59
        · rw [rdLn_on e c1.1 c1.2, nf9 hx] at h ⊢
          exact rdLn_nok hL m (q + 1) (k + 1) (up g k x) hg' (by omega) (by omega) h
        · by_cases c2 : q = L
          · rw [c2] at e
            rw [rdLn_end e]
            exact ⟨hg', by show k + 1 ≤ 15; omega⟩
          · simp only [rdLn, e] at h
            rw [if_neg c1, if_neg c2] at h
            cases h
theorem M_nrd {c : Nat → Nat} {L : Nat} (hL : L ≤ 40) {x1 : Int32} : ∀ m N p k g s x2, m < N → 4 * k ≤ p → NCo s k g → MP s c L p → L - p < m → ∃ (t : wM) (q : Nat) (b : Bool) (N' : Nat), Off Kn s t ∧ MP t c L q ∧ wh3 (fM_night_L29 x1) N x2 (iI 1) s = fM_night_L29 x1 (bI b) (iI 0) t (wh3 (fM_night_L29 x1) N') ∧ (rdLn c L (nlN c L) m p 9 k g).1 = (if b = true ∧ q = L then none else some q) ∧ (b = true ∧ q = L → NCo t (rdLn c L (nlN c L) m p 9 k g).2.1 (rdLn c L (nlN c L) m p 9 k g).2.2)
  | 0, _, _, _, _, _, _, _, _, _, _, h => by omega
  | m + 1, N, p, k, g, s, x2, hN, hk, hn, hp, hm => by
    obtain ⟨N2, rfl⟩ : ∃ N2, N = N2 + 1 + 1 := ⟨N - 2, by omega⟩
    have hpL := hp.2.1
    obtain ⟨t, ot, hcs⟩ := M_nstep (x1 := x1) (x2 := x2) hn hp (by omega) (wh3 (fM_night_L29 x1) (N2 + 1))
    rw [w3s]
    rcases hcs with ⟨q, hcl, pt, e⟩ | ⟨x, q, hcl, hpq, hwt, hcs⟩
    · refine ⟨t, q, false, N2, ot, pt, by rw [e, bI_f]; exact w3s N2 _ _ _, ?_, fun h => by cases h.1⟩
      rw [rdLn_no hcl, if_neg (by simp)]
    · have hx : nOK x := nlN_ok hcl
      rcases hcs with ⟨h1, h2, pt, e⟩ | ⟨h1, pt, e⟩
      · obtain ⟨u, q', b, N', ou, pu, eu, r1, r2⟩ := M_nrd hL m (N2 + 1) (q + 1) (k + 1) (up g k x) t (iI 1) (by omega) (by omega) hwt pt (by omega)
        rw [rdLn_on hcl h1 h2, nf9 hx]
        exact ⟨u, q', b, N', ot.trans ou, pu, by rw [e, eu], r1, r2⟩
      · have hqL := pt.2.1
        refine ⟨t, q, true, N2, ot, pt, by rw [e, bI_t]; exact w3s N2 _ _ _, ?_, fun h => ?_⟩
        · by_cases c2 : q = L
          · rw [c2] at hcl
            rw [rdLn_end hcl, if_pos ⟨rfl, c2⟩]
          · rw [rdLn_bad hcl (by omega) (fun h => h1 ⟨by omega, h⟩), if_neg (fun h => c2 h.2)]
        · have hcl' := hcl
          rw [h.2] at hcl'
          rw [rdLn_end hcl']
          exact hwt
def KnO : Nat → Nat → Bool := fun k j => Kn k j || Ko k j
theorem KnO_f {k j : Nat} (h : ¬ ((k = 161 ∧ (j = 0 ∨ j = 12 ∨ j = 13 ∨ j = 14 ∨ j = 15 ∨ j = 25)) ∨ k = 172 ∨ k = 173 ∨ (175 ≤ k ∧ k ≤ 177))) : KnO k j = false := by
  simp only [KnO, Kn, Ko, Bool.or_eq_false_iff, Bool.and_eq_false_iff, decide_eq_false_iff_not, beq_eq_false_iff_ne]; omega
theorem M_nrdA {s : wM} {n : Nat} {T : Nat → Nat → Bool} {S : Nat → Nat → Int} {D SP : Nat → Int} {ap fi bk : Int} {G : Nat → Int32} {w : Int32} {pl : List PI} {kp : Nat → KI} {tx : List Nat} {se : List (Nat × Nat)} (hm : HM s n T S D SP ap fi bk G w pl kp tx se) (hx : TxV tx) : ∃ (t : wM) (q : Nat) (b : Bool) (N' : Nat), fM_night s = fM_night_L29 (iI (tx.length : Int)) (bI b) (iI 0) t (wh3 (fM_night_L29 (iI (tx.length : Int))) N') ∧ MP t (cT tx) (min 40 tx.length) q ∧ t.1 161 12 = iI 0 ∧ Off KnO s t ∧ (rdA tx 40 (nlN (cT tx) (min 40 tx.length)) 9).1 = (if b = true ∧ q = min 40 tx.length then none else some q) ∧ (b = true ∧ q = min 40 tx.length → NCo t (rdA tx 40 (nlN (cT tx) (min 40 tx.length)) 9).2.1 (rdA tx 40 (nlN (cT tx) (min 40 tx.length)) 9).2.2) := by
  have hx1 := hx.1
  obtain ⟨u, eu, u12, u13, u14, ou⟩ := M_begun (s := s) (M := 40) hx1 (by omega) hm.2.2.2.2.1.1
  have eu' : fM_begins (wsI s 161 0 (iI 0)) (iI 40) = some (iI (tx.length : Int), u) := eu
  have ot : Off KnO s (wsI u 161 25 (iI 0)) := (ou.mono fun k j hk => by simp only [KnO, Bool.or_eq_false_iff] at hk; exact hk.2).set rfl
  have pt : MP (wsI u 161 25 (iI 0)) (cT tx) (min 40 tx.length) 0 := by
    refine ⟨by omega, by omega, ?_, ?_, fun i hi => ?_, cT_lt hx⟩
    · rw [rd_of (by decide)]; exact u14
    · rw [rd_of (by decide)]; exact u13
    · rw [rd_ne (by decide), ou 169 i rfl, hm.2.2.2.2.1.2 i (by omega), cT_at (by omega)]
  have nt : NCo (wsI u 161 25 (iI 0)) 0 g0 := ⟨rd_at, fun i hi => absurd hi (Nat.not_lt_zero i)⟩
  have t12 : (wsI u 161 25 (iI 0)).1 161 12 = iI 0 := by rw [rd_of (by decide)]; exact u12
  unfold fM_night fM_night_J28
  rw [nmM_e, eu', Option.bind_some]
  dsimp only
  rw [nmM_e]
  generalize wsI u 161 25 (iI 0) = t at ot pt nt t12
  unfold rdA
  by_cases c0 : tx.length = 0
  · rw [if_pos (by rw [iI_le (by omega) (by omega) (by omega) (by omega)]; omega), if_pos c0]
    refine ⟨t, 0, true, 99999, ?_, pt, t12, ot, ?_, fun _ => nt⟩
    · rw [bI_t]; exact w3s 99999 _ _ _
    · rw [if_pos ⟨rfl, by omega⟩]
  · rw [if_neg (by rw [iI_le (by omega) (by omega) (by omega) (by omega)]; omega), if_neg c0]
    obtain ⟨v, q, b, N', ov, pv, ev, r1, r2⟩ := M_nrd (c := cT tx) (L := min 40 tx.length) (by omega) (x1 := iI (tx.length : Int)) (min 40 tx.length + 1) 100000 0 0 g0 t (iI 1) (by omega) (by omega) nt pt (by omega)
    refine ⟨v, q, b, N', ev, pv, ?_, ot.trans (ov.mono fun k j hk => by simp only [KnO, Bool.or_eq_false_iff] at hk; exact hk.1), r1, r2⟩
    rw [ov 161 12 rfl]; exact t12
