def rsv (L M sz : Nat) : Option Nat → Int
  | some q => (q : Int)
  | none => if sz ≤ M then -1 else (L : Int)
def OKl (f : Nat) (x : Ln) : Prop := (x.1 = -1 ∧ f < 9 ∧ (0 ≤ x.2.1 ∧ x.2.1 ≤ 99) ∧ (0 ≤ x.2.2 ∧ x.2.2 ≤ 9)) ∨ ((0 ≤ x.1 ∧ x.1 < f) ∧ (0 ≤ x.2.1 ∧ x.2.1 < f) ∧ x.1 ≠ x.2.1 ∧ (0 ≤ x.2.2 ∧ x.2.2 ≤ 9))
theorem clN_ok {c : Nat → Nat} {L f p q : Nat} {x : Ln} (hf : f ≤ 9) (h : clN c L f p = (some x, q)) : OKl f x := by
  unfold clN fTail at h
  repeat' split at h
  all_goals first | (cases h; done) | (cases h; simp only [dg, ltr, isC] at *; first | exact Or.inl ⟨rfl, (by first | omega | (dsimp only; omega)), ⟨(by first | omega | (dsimp only; omega)), (by first | omega | (dsimp only; omega))⟩, (by first | omega | (dsimp only; omega)), (by first | omega | (dsimp only; omega))⟩ | exact Or.inr ⟨⟨(by first | omega | (dsimp only; omega)), (by first | omega | (dsimp only; omega))⟩, ⟨(by first | omega | (dsimp only; omega)), (by first | omega | (dsimp only; omega))⟩, (by first | omega | (dsimp only; omega)), (by first | omega | (dsimp only; omega)), (by first | omega | (dsimp only; omega))⟩)
theorem nlN_ok {c : Nat → Nat} {L p q : Nat} {x : Ln} (h : nlN c L 9 p = (some x, q)) : (0 ≤ x.1 ∧ x.1 < 9) ∧ (0 ≤ x.2.1 ∧ x.2.1 < 9) ∧ (1 ≤ x.2.2 ∧ x.2.2 ≤ 9) := by
  unfold nlN at h
  repeat' split at h
  all_goals first | (cases h; done) | (cases h; (try simp only [dg, ltr, isC] at *); (try dsimp only); omega)
section WR
variable {c : Nat → Nat} {L M sz st0 : Nat} {pr : Nat → Nat → Option Ln × Nat} {Pf : Nat → Prop}
theorem W_rd (hL : L ≤ 76) (hM : M ≤ 80) (hz : sz ≤ 80) (hline : ∀ s p f k g, CHs s c L → k < 40 → Pf f → p ≤ L → RS s st0 f st0 k g → WLine c L M st0 pr s p f k g) (hnf : ∀ p f x q, Pf f → pr f p = (some x, q) → Pf (nf x f)) : ∀ m p f k g s, CHs s c L → s.1 1 1 = iI (sz : Int) → Pf f → p ≤ L → L - p < m → 2 * k ≤ p → RS s st0 f st0 k g → ∃ t, Off KRd s t ∧ (∀ N, L - p < N → wh2 (fRd_readUpTo_L34 (iI (M : Int)) (iI (L : Int))) N (iI (p : Int)) s = some (iI (rsv L M sz (rdLn c L pr m p f k g).1), t)) ∧ ((rdLn c L pr m p f k g).1 = none → LLs t (rdLn c L pr m p f k g).2.1 (rdLn c L pr m p f k g).2.2)
  | 0, p, f, k, g, s, _, _, _, _, h, _, _ => by omega
  | m + 1, p, f, k, g, s, hc, h1, hf, hp, hm, hk, hr => by
    obtain ⟨j, t, ha, hj, hcs⟩ := hline s p f k g hc (by omega) hf hp hr
    have hct := hc.of ha.1
    have h1t : t.1 1 1 = iI (sz : Int) := by rw [ha.1 1 1 rfl]; exact h1
    have hN : ∀ N, L - p < N → wh2 (fRd_readUpTo_L34 (iI (M : Int)) (iI (L : Int))) N (iI (p : Int)) s = wh2 (fRd_readUpTo_L34 (iI (M : Int)) (iI (L : Int))) (N - j - 1 + 1) (iI ((p + j : Nat) : Int)) t := fun N h => by
      conv => lhs; rw [show N = (N - j - 1 + 1) + j by omega]
      exact ha.2 _
    rcases hcs with ⟨hpr, hst⟩ | ⟨x, hpr, hj1, hfn⟩
    · rw [rdLn_no hpr]
      by_cases c1 : p + j = L
      · have hE := rdE (M := M) (L := L) (s := t) (by omega) hM hz h1t (v := false) (hst.1 c1)
        refine ⟨t, ha.1, fun N h => ?_, fun h => by cases h⟩
        rw [hN N h, c1, hE, if_neg (by simp)]; rfl
      · obtain ⟨u, o, e⟩ := hst.2 (by omega)
        refine ⟨u, ha.1.trans o, fun N h => ?_, fun h => by cases h⟩
        rw [hN N h, rdF' hct.1 (by omega) (hct.2.1 _ (by omega)) e]; rfl
    · by_cases c1 : p + j = L
      · have hE := rdE (M := M) (L := L) (s := t) (by omega) hM hz h1t (v := true) hfn.1
        rw [rdLn_end (by rw [hpr, c1])]
        refine ⟨t, ha.1, fun N h => ?_, fun _ => hfn.2.1⟩
        rw [hN N h, c1, hE]
        simp only [rsv, true_and]
      · have h2 := hfn.2.2 (by omega)
        by_cases c2 : c (p + j) = 59
        · obtain ⟨u, o, e, r⟩ := h2.1 c2
          have ou := ha.1.trans o
          obtain ⟨v, ov, hv, hl⟩ := W_rd hL hM hz hline hnf m (p + j + 1) (nf x f) (k + 1) (up g k x) u (hc.of ou) (by rw [ou 1 1 rfl]; exact h1) (hnf _ _ _ _ hf hpr) (by omega) (by omega) (by omega) r
          rw [rdLn_on hpr (by omega) c2]
          refine ⟨v, ou.trans ov, fun N h => ?_, hl⟩
          rw [hN N h, rdT hct.1 (by omega) (hct.2.1 _ (by omega)) e]
          exact hv _ (by omega)
        · obtain ⟨u, o, e⟩ := h2.2 c2
          rw [rdLn_bad hpr (by omega) c2]
          refine ⟨u, ha.1.trans o, fun N h => ?_, fun h => by cases h⟩
          rw [hN N h, rdF' hct.1 (by omega) (hct.2.1 _ (by omega)) e]; rfl
end WR
def cT (tx : List Nat) (i : Nat) : Nat := tx.getD i 0
def g0 : Nat → Ln := fun _ => (0, 0, 0)
/-- all the lines of a text, or where its fault is -/
def rdA (tx : List Nat) (M : Nat) (pr : Nat → Nat → Option Ln × Nat) (f : Nat) : Option Nat × Nat × (Nat → Ln) := if tx.length = 0 then (none, 0, g0) else rdLn (cT tx) (min M tx.length) pr (min M tx.length + 1) 0 f 0 g0
theorem cT_lt {tx : List Nat} (h : TxV tx) (i : Nat) : cT tx i < 256 := by
  unfold cT
  by_cases c : i < tx.length
  · rw [List.getD_eq_getElem?_getD, List.getElem?_eq_getElem c]; exact h.2 _ (List.getElem_mem c)
  · rw [List.getD_eq_getElem?_getD, List.getElem?_eq_none (by omega)]; decide
theorem CHs_tx {s : wM} {tx : List Nat} (h : TxV tx) (hw : TxW s tx) {L : Nat} (hL : L ≤ tx.length) : CHs s (cT tx) L := by
  refine ⟨by have := h.1; omega, fun i hi => ?_, cT_lt h⟩
  rw [hw.2 i (by omega)]
  unfold cT
  rw [List.getD_eq_getElem?_getD, List.getElem?_eq_getElem (by omega)]; rfl
section WA2
variable {s t : wM} {tx : List Nat} {M st0 f : Nat} {pr : Nat → Nat → Option Ln × Nat} {Pf : Nat → Prop}
theorem W_readUpTo (hM : M ≤ 76) (hx : TxV tx) (hw : TxW s tx) (h4 : s.1 3 4 = iI (f : Int)) (h5 : s.1 3 5 = iI (st0 : Int)) (hf : Pf f) (hline : ∀ s p f k g, CHs s (cT tx) (min M tx.length) → k < 40 → Pf f → p ≤ min M tx.length → RS s st0 f st0 k g → WLine (cT tx) (min M tx.length) M st0 pr s p f k g) (hnf : ∀ p f x q, Pf f → pr f p = (some x, q) → Pf (nf x f)) : ∃ t, fRd_readUpTo s (iI (M : Int)) = some (iI (rsv (min M tx.length) M tx.length (rdA tx M pr f).1), t) ∧ Off KRd s t ∧ ((rdA tx M pr f).1 = none → LLs t (rdA tx M pr f).2.1 (rdA tx M pr f).2.2) := by
  have hx1 := hx.1
  have o2 : Off KRd s (wsI (wsI s 3 3 (iI 0)) 3 6 (iI (st0 : Int))) := ((Off.refl s).set rfl).set rfl
  have hsz : (wsI (wsI s 3 3 (iI 0)) 3 6 (iI (st0 : Int))).1 1 1 = iI (tx.length : Int) := by rw [o2 1 1 rfl]; exact hw.1
  unfold fRd_readUpTo
  rw [nmM_e, nmM_e, rd_of (by decide), h5, hsz]
  unfold rdA
  by_cases c1 : tx.length = 0
  · rw [if_pos c1, if_pos (by rw [c1]; rfl)]
    refine ⟨_, ?_, o2, fun _ => ⟨by rw [rd_of (by decide), rd_at]; rfl, fun i hi => absurd hi (by simp)⟩⟩
    simp only [rsv]; rw [if_pos (by omega)]
  · have hc : CHs (wsI (wsI s 3 3 (iI 0)) 3 6 (iI (st0 : Int))) (cT tx) (min M tx.length) := (CHs_tx hx hw (by omega)).of o2
    obtain ⟨t, o, e, hl⟩ := W_rd (sz := tx.length) (L := min M tx.length) (M := M) (st0 := st0) (by omega) (by omega) hx1 hline hnf (min M tx.length + 1) 0 f 0 g0 _ hc hsz hf (by omega) (by omega) (by omega) ⟨rd_at, by rw [rd_of (by decide), rd_of (by decide)]; exact h4, by rw [rd_of (by decide), rd_of (by decide)]; exact h5, by rw [rd_of (by decide), rd_at]; rfl, fun i hi => absurd hi (by omega)⟩
    rw [if_neg c1, if_neg (by rw [iI_eq (by omega) (by omega) (by omega) (by omega)]; omega), iMin_i (by omega) (by omega) (by omega) (by omega), show min (M : Int) (tx.length : Int) = ((min M tx.length : Nat) : Int) by omega]
    exact ⟨t, e 100000 (by omega), o2.trans o, hl⟩
theorem W_readCounty (hx : TxV tx) (hw : TxW s tx) (hf : f ≤ 9) : ∃ t, fRd_readCounty s (iI (f : Int)) = some (iI (rsv (min 76 tx.length) 76 tx.length (rdA tx 76 (clN (cT tx) (min 76 tx.length)) f).1), t) ∧ Off KRd s t ∧ ((rdA tx 76 (clN (cT tx) (min 76 tx.length)) f).1 = none → LLs t (rdA tx 76 (clN (cT tx) (min 76 tx.length)) f).2.1 (rdA tx 76 (clN (cT tx) (min 76 tx.length)) f).2.2) := by
  have o2 : Off KRd s (wsI (wsI s 3 4 (iI (f : Int))) 3 5 (iI 0)) := ((Off.refl s).set rfl).set rfl
  obtain ⟨t, e, o, h⟩ := W_readUpTo (M := 76) (st0 := 0) (f := f) (Pf := fun f => f ≤ 9) (pr := clN (cT tx) (min 76 tx.length)) (by omega) hx (hw.of (t := wsI (wsI s 3 4 (iI (f : Int))) 3 5 (iI 0)) (o2 1 1 rfl) (o2.row fun j => rfl)) (by rw [rd_of (by decide), rd_at]) rd_at hf (fun s p f k g hc hk hf hp hr => W_cline hc hk hf hp hr) (fun p f x q hf h => by
    have := clN_ok hf h
    unfold nf OKl at *
    split <;> omega)
  unfold fRd_readCounty
  have e' : fRd_readUpTo (wsI (wsI s 3 4 (iI (f : Int))) 3 5 (iI 0)) (iI 76) = _ := e
  rw [nmM_e, nmM_e, e', Option.bind_some]
  exact ⟨t, rfl, o2.trans o, h⟩
theorem W_readNight (hx : TxV tx) (hw : TxW s tx) : ∃ t, fRd_readNight s = some (iI (rsv (min 40 tx.length) 40 tx.length (rdA tx 40 (nlN (cT tx) (min 40 tx.length)) 9).1), t) ∧ Off KRd s t ∧ ((rdA tx 40 (nlN (cT tx) (min 40 tx.length)) 9).1 = none → LLs t (rdA tx 40 (nlN (cT tx) (min 40 tx.length)) 9).2.1 (rdA tx 40 (nlN (cT tx) (min 40 tx.length)) 9).2.2) := by
  have o2 : Off KRd s (wsI (wsI s 3 4 (iI 9)) 3 5 (iI 7)) := ((Off.refl s).set rfl).set rfl
  obtain ⟨t, e, o, h⟩ := W_readUpTo (M := 40) (st0 := 7) (f := 9) (Pf := fun f => f = 9) (pr := nlN (cT tx) (min 40 tx.length)) (by omega) hx (hw.of (t := wsI (wsI s 3 4 (iI 9)) 3 5 (iI 7)) (o2 1 1 rfl) (o2.row fun j => rfl)) (by rw [rd_of (by decide), rd_at]; rfl) rd_at rfl (fun s p f k g hc hk hf hp hr => by subst hf; exact W_nline hc hk hp hr) (fun p f x q hf h => by
    subst hf
    have := nlN_ok h
    unfold nf
    split <;> omega)
  unfold fRd_readNight
  have e' : fRd_readUpTo (wsI (wsI s 3 4 (iI 9)) 3 5 (iI 7)) (iI 40) = _ := e
  rw [nmM_e, nmM_e, e', Option.bind_some]
  exact ⟨t, rfl, o2.trans o, h⟩
end WA2
