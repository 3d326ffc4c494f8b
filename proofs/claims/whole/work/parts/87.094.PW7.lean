/-! a county after its lines; the reference's reading of them -/
def apN (w : Lnd) (g : Nat → Ln) : Nat → Lnd
  | 0 => w
  | i + 1 => apL (apN w g i) (g i)
def GoodN (w : Lnd) (g : Nat → Ln) (k : Nat) : Prop := ∀ i, i < k → OKl (apN w g i).1 (g i)
section AN
variable {w w0 : Lnd} {g : Nat → Ln} {k : Nat} {x : Ln}
theorem apN_up : ∀ i, i ≤ k → apN w (up g k x) i = apN w g i
  | 0, _ => rfl
  | i + 1, h => by
    show apL (apN w (up g k x) i) (up g k x i) = apL (apN w g i) (g i)
    rw [apN_up i (by omega), up_of (by omega)]
theorem apN_s : apN w (up g k x) (k + 1) = apL (apN w g k) x := by
  show apL (apN w (up g k x) k) (up g k x k) = _
  rw [apN_up k (Nat.le_refl k), up_at]
theorem GoodN.more (h : GoodN w g k) (hx : OKl (apN w g k).1 x) : GoodN w (up g k x) (k + 1) := fun i hi => by
  by_cases e : i = k
  · subst e; rw [apN_up i (Nat.le_refl i), up_at]; exact hx
  · rw [apN_up i (by omega), up_of e]; exact h i (by omega)
theorem LV.many (h : LV w) (hg : GoodN w g k) : ∀ i, i ≤ k → LV (apN w g i)
  | 0, _ => h
  | i + 1, hi => (LV.many h hg i (by omega)).ap (hg i (by omega))
theorem apN_keep (hg : GoodN w g k) : ∀ i, i ≤ k → w.1 ≤ (apN w g i).1 ∧ ∀ j, j < w.1 ∨ (apN w g i).1 ≤ j → (apN w g i).2.2.2.1 j = w.2.2.2.1 j ∧ (apN w g i).2.2.2.2 j = w.2.2.2.2 j
  | 0, _ => ⟨Nat.le_refl _, fun j _ => ⟨rfl, rfl⟩⟩
  | i + 1, hi => by
    obtain ⟨h1, h2⟩ := apN_keep hg i (by omega)
    show w.1 ≤ (apL (apN w g i) (g i)).1 ∧ ∀ j, j < w.1 ∨ (apL (apN w g i) (g i)).1 ≤ j → (apL (apN w g i) (g i)).2.2.2.1 j = w.2.2.2.1 j ∧ (apL (apN w g i) (g i)).2.2.2.2 j = w.2.2.2.2 j
    unfold apL
    split
    · refine ⟨by show w.1 ≤ (apN w g i).1 + 1; omega, fun j hj => ?_⟩
      have hj' : j < w.1 ∨ (apN w g i).1 + 1 ≤ j := hj
      show uI _ _ _ j = _ ∧ uI _ _ _ j = _
      rw [uI_ne (by omega), uI_ne (by omega)]
      exact h2 j (by omega)
    · exact ⟨h1, h2⟩
end AN
theorem clN_lt {c : Nat → Nat} {L f p q : Nat} {x : Ln} (h : clN c L f p = (some x, q)) : p < q := by
  unfold clN fTail at h
  repeat' split at h
  all_goals first | (cases h; done) | (cases h; omega)
section RG
variable {c : Nat → Nat} {L n0 : Nat} {w0 : Lnd}
theorem rdLn_good (hv : LV w0) (hL : L ≤ 76) : ∀ m p k g, GoodN w0 g k → 2 * k ≤ p → p ≤ L → (rdLn c L (clN c L) m p (apN w0 g k).1 k g).1 = none → GoodN w0 (rdLn c L (clN c L) m p (apN w0 g k).1 k g).2.2 (rdLn c L (clN c L) m p (apN w0 g k).1 k g).2.1 ∧ (rdLn c L (clN c L) m p (apN w0 g k).1 k g).2.1 ≤ 40 ∧ 1 ≤ (rdLn c L (clN c L) m p (apN w0 g k).1 k g).2.1
  | 0, p, k, g, _, _, _, h => by cases h
  | m + 1, p, k, g, hg, hk, hp, h => by
    have hS := hv.many hg k (Nat.le_refl k)
    cases e : clN c L (apN w0 g k).1 p with
    | mk o q =>
      cases o with
      | none => rw [rdLn_no e] at h; cases h
      | some x =>
        have hx := clN_ok hS.1.1 e
        have hq := clN_lt e
        by_cases c1 : q < L ∧ c q = 59
        · rw [rdLn_on e c1.1 c1.2, ← apL_1, ← apN_s] at h ⊢
          exact rdLn_good hv hL m (q + 1) (k + 1) (up g k x) (hg.more hx) (by omega) (by omega) h
        · by_cases c2 : q = L
          · rw [c2] at e
            rw [rdLn_end e]
            exact ⟨hg.more hx, by show k + 1 ≤ 40; omega, by show 1 ≤ k + 1; omega⟩
          · simp only [rdLn, e] at h
            rw [if_neg c1, if_neg c2] at h
            cases h
theorem M_rd (hv : LV w0) {x1 : Int32} : ∀ m N p k g s x3, m < N → GoodN w0 g k → MP s c L p → WCo s n0 (apN w0 g k) → L - p < m → ∃ (t : wM) (q : Nat) (b : Bool) (k' N' : Nat), Off Kc s t ∧ MP t c L q ∧ wh4 (fM_county_L89 x1) N (iI (k : Int)) x3 (iI 1) s = fM_county_L89 x1 (iI (k' : Int)) (bI b) (iI 0) t (wh4 (fM_county_L89 x1) N') ∧ (rdLn c L (clN c L) m p (apN w0 g k).1 k g).1 = (if b = true ∧ q = L then none else some q) ∧ (b = true ∧ q = L → (rdLn c L (clN c L) m p (apN w0 g k).1 k g).2.1 = k' ∧ WCo t n0 (apN w0 (rdLn c L (clN c L) m p (apN w0 g k).1 k g).2.2 k'))
  | 0, _, _, _, _, _, _, _, _, _, _, h => by omega
  | m + 1, N, p, k, g, s, x3, hN, hg, hp, hw, hm => by
    obtain ⟨N2, rfl⟩ : ∃ N2, N = N2 + 1 + 1 := ⟨N - 2, by omega⟩
    have hS := hv.many hg k (Nat.le_refl k)
    obtain ⟨t, ot, hcs⟩ := M_cstep (x1 := x1) (x3 := x3) (k := k) hS.1 hw hp (wh4 (fM_county_L89 x1) (N2 + 1))
    rw [wh4_s]
    rcases hcs with ⟨q, hcl, pt, e⟩ | ⟨x, q, hcl, hpq, hwt, hcs⟩
    · refine ⟨t, q, false, k + 1, N2, ot, pt, by rw [e, bI_f]; exact wh4_s N2 _ _ _ _, ?_, fun h => by cases h.1⟩
      rw [rdLn_no hcl, if_neg (by simp)]
    · have hx := clN_ok hS.1.1 hcl
      rcases hcs with ⟨h1, h2, pt, e⟩ | ⟨h1, pt, e⟩
      · obtain ⟨u, q', b, k', N', ou, pu, eu, r1, r2⟩ := M_rd hv m (N2 + 1) (q + 1) (k + 1) (up g k x) t (iI 1) (by omega) (hg.more hx) pt (by rw [apN_s]; exact hwt) (by omega)
        rw [rdLn_on hcl h1 h2, ← apL_1, ← apN_s]
        exact ⟨u, q', b, k', N', ot.trans ou, pu, by rw [e, eu], r1, r2⟩
      · have hqL := pt.2.1
        refine ⟨t, q, true, k + 1, N2, ot, pt, by rw [e, bI_t]; exact wh4_s N2 _ _ _ _, ?_, fun h => ?_⟩
        · by_cases c2 : q = L
          · rw [c2] at hcl
            rw [rdLn_end hcl, if_pos ⟨rfl, c2⟩]
          · rw [rdLn_bad hcl (by omega) (fun h => h1 ⟨by omega, h⟩), if_neg (fun h => c2 h.2)]
        · have hcl' := hcl
          rw [h.2] at hcl'
          rw [rdLn_end hcl']
          refine ⟨rfl, ?_⟩
          show WCo t n0 (apN w0 (up g k x) (k + 1))
          rw [apN_s]; exact hwt
end RG
section OP
variable {s t : wM} {n : Nat} {T : Nat → Nat → Bool} {S : Nat → Nat → Int} {D SP : Nat → Int} {ap fi bk : Int} {G : Nat → Int32} {w : Int32} {pl : List PI} {kp : Nat → KI} {tx : List Nat} {se : List (Nat × Nat)} {x1 : Int32}
theorem row_c {A B : Nat → Int32} {i x : Nat} : (if x = i then A i else if x < i then A x else B x) = if x < i + 1 then A x else B x := by
  by_cases h1 : x = i
  · subst h1; rw [if_pos rfl, if_pos (by omega)]
  · rw [if_neg h1]
    by_cases h2 : x < i
    · rw [if_pos h2, if_pos (by omega)]
    · rw [if_neg h2, if_neg (by omega)]
theorem M_L22 : wh2 (fM_county_L22 x1) 100000 (iI 0) s = wh2 (fM_county_L48 x1) 100000 (iI 0) (wRo s 173 (fun j => if j < 81 then s.1 166 j else s.1 173 j)) := by
  have e0 : s = wRo s 173 (fun j => if j < 0 then s.1 166 j else s.1 173 j) := (wR_id (by funext j; simp)).symm
  conv => lhs; arg 4; rw [e0]
  refine for2b (fun i => wRo s 173 (fun j => if j < i then s.1 166 j else s.1 173 j)) (i0 := 0) (n := 81) (Nat.zero_le _) (by omega) (fun i _ hi c => ?_) (fun c => ?_)
  · unfold fM_county_L22
    rw [if_neg (by rw [iI_le (by omega) (by omega) (by omega) (by omega)]; omega), chk_in (by omega) (by omega) (by omega), iI_natc (by omega), nmM_e, iI_add, wR_ne (show (166 : Nat) ≠ 173 by decide), wsI_Rr]
    congr 2; funext x
    exact row_c
  · unfold fM_county_L22
    rw [if_pos (by decide)]
theorem M_L48 {z : Nat} (hz : z ≤ 80) (hn : s.1 161 3 = iI (n : Int)) (h9 : n ≤ 9) : wh2 (fM_county_L48 (iI (z : Int))) 100000 (iI 0) s = wh4 (fM_county_L89 (iI (z : Int))) 100000 (iI 0) (iI 1) (bI (decide (0 < z))) (wRo s 172 (fun j => if j < n then s.1 165 j else s.1 172 j)) := by
  have e0 : s = wRo s 172 (fun j => if j < 0 then s.1 165 j else s.1 172 j) := (wR_id (by funext j; simp)).symm
  conv => lhs; arg 4; rw [e0]
  refine for2b (fun i => wRo s 172 (fun j => if j < i then s.1 165 j else s.1 172 j)) (i0 := 0) (n := n) (Nat.zero_le _) (by omega) (fun i _ hi c => ?_) (fun c => ?_)
  · unfold fM_county_L48
    rw [wR_ne (show (161 : Nat) ≠ 172 by decide), hn, if_neg (by rw [iI_le (by omega) (by omega) (by omega) (by omega)]; omega), chk_in (by omega) (by omega) (by omega), iI_natc (by omega), nmM_e, iI_add, wR_ne (show (165 : Nat) ≠ 172 by decide), wsI_Rr]
    congr 2; funext x
    exact row_c
  · unfold fM_county_L48 fM_county_J87
    rw [wR_ne (show (161 : Nat) ≠ 172 by decide), hn, if_pos (by rw [iI_le (by omega) (by omega) (by omega) (by omega)]; omega)]
    by_cases c0 : z = 0
    · rw [if_pos (by rw [iI_le (by omega) (by omega) (by omega) (by omega)]; omega), bI_n (by omega)]
    · rw [if_neg (by rw [iI_le (by omega) (by omega) (by omega) (by omega)]; omega), bI_d (by omega)]
def Ko : Nat → Nat → Bool := fun k j => (k == 161 && (j == 0 || j == 12 || j == 13 || j == 14 || j == 15)) || k == 172 || k == 173
def KcO : Nat → Nat → Bool := fun k j => Kc k j || Ko k j
theorem KcO_f {k j : Nat} (h : ¬ ((k = 161 ∧ (j = 0 ∨ j = 12 ∨ j = 13 ∨ j = 14 ∨ j = 15)) ∨ (170 ≤ k ∧ k ≤ 173))) : KcO k j = false := by
  simp only [KcO, Kc, Ko, Bool.or_eq_false_iff, Bool.and_eq_false_iff, decide_eq_false_iff_not, beq_eq_false_iff_ne]; omega
theorem cT_at {l : List Nat} {i : Nat} (h : i < l.length) : cT l i = l[i] := by
  unfold cT
  rw [List.getD_eq_getElem?_getD, List.getElem?_eq_getElem h]; rfl
theorem M_begun {M z : Nat} (hz : z ≤ 80) (hM : M ≤ 80) (e12 : s.1 161 12 = iI (z : Int)) : ∃ t, fM_begins (wsI s 161 0 (iI 0)) (iI (M : Int)) = some (iI (z : Int), t) ∧ t.1 161 12 = iI 0 ∧ t.1 161 13 = iI 0 ∧ t.1 161 14 = iI ((min M z : Nat) : Int) ∧ Off Ko s t := by
  unfold fM_begins
  rw [nmM_e, nmM_e, nmM_e, rd_of (show (12 : Nat) ≠ 0 by decide), e12, iMin_i (by omega) (by omega) (by omega) (by omega), show min (z : Int) (M : Int) = ((min M z : Nat) : Int) by omega]
  refine ⟨_, rfl, ?_, ?_, rd_at, ((((Off.refl s).set rfl).set rfl).set rfl).set rfl⟩
  · rw [rd_of (by decide), rd_of (by decide), rd_at]
  · rw [rd_of (by decide), rd_at]
theorem M_ctyOpen (hm : HM s n T S D SP ap fi bk G w pl kp tx se) (hx : TxV tx) (hS : Cty n T S) : ∃ t, fM_county s = wh4 (fM_county_L89 (iI (tx.length : Int))) 100000 (iI 0) (iI 1) (bI (decide (0 < tx.length))) t ∧ MP t (cT tx) (min 76 tx.length) 0 ∧ WCo t n (n, T, S, D, SP) ∧ t.1 161 12 = iI 0 ∧ Off Ko s t := by
  have hn := hS.1
  have hx1 := hx.1
  obtain ⟨u, eu, u12, u13, u14, ou⟩ := M_begun (s := s) (M := 76) hx1 (by omega) hm.2.2.2.2.1.1
  have eu' : fM_begins (wsI s 161 0 (iI 0)) (iI 76) = some (iI (tx.length : Int), u) := eu
  have u3 : u.1 161 3 = iI (n : Int) := by rw [ou 161 3 rfl]; exact hm.1.1.1
  unfold fM_county
  rw [nmM_e, eu', Option.bind_some]
  dsimp only
  rw [nmM_e, u3, M_L22, M_L48 hx1 (by rw [wR_ne (by decide), rd_of (by decide)]; exact u3) hn]
  refine ⟨_, rfl, ⟨by omega, by omega, ?_, ?_, fun i hi => ?_, cT_lt hx⟩, ⟨?_, fun a ha => ?_, fun a b ha hb hT => ?_, fun j h1 h2 => ?_⟩, ?_, wR_off (wR_off (ou.set rfl) fun j => rfl) fun j => rfl⟩
  · rw [wR_ne (by decide), wR_ne (by decide), rd_of (by decide)]; exact u14
  · rw [wR_ne (by decide), wR_ne (by decide), rd_of (by decide)]; exact u13
  · rw [wR_ne (by decide), wR_ne (by decide), rd_ne (by decide), ou 169 i rfl, hm.2.2.2.2.1.2 i (by omega), cT_at (by omega)]
  · rw [wR_ne (by decide), wR_ne (by decide), rd_at]
  · have ha' : a < n := ha
    rw [wRo_at, if_pos ha', wR_ne (by decide), rd_ne (by decide), ou 165 a rfl]; exact hm.1.1.2.1 a (by omega)
  · rw [wR_ne (by decide), wRo_at, if_pos (by omega), rd_ne (by decide), ou 166 _ rfl]; exact hm.1.1.2.2 a b ha hb hT
  · have h2' : j < n := h2
    omega
  · rw [wR_ne (by decide), wR_ne (by decide), rd_of (by decide)]; exact u12
/-- all the reading of the reference, up to its last look -/
theorem M_rdA (hv : CV n T S D SP ap fi bk) (hm : HM s n T S D SP ap fi bk G w pl kp tx se) (hx : TxV tx) : ∃ (t : wM) (q : Nat) (b : Bool) (k' N' : Nat), fM_county s = fM_county_L89 (iI (tx.length : Int)) (iI (k' : Int)) (bI b) (iI 0) t (wh4 (fM_county_L89 (iI (tx.length : Int))) N') ∧ MP t (cT tx) (min 76 tx.length) q ∧ t.1 161 12 = iI 0 ∧ Off KcO s t ∧ (rdA tx 76 (clN (cT tx) (min 76 tx.length)) n).1 = (if b = true ∧ q = min 76 tx.length then none else some q) ∧ (b = true ∧ q = min 76 tx.length → (rdA tx 76 (clN (cT tx) (min 76 tx.length)) n).2.1 = k' ∧ WCo t n (apN (n, T, S, D, SP) (rdA tx 76 (clN (cT tx) (min 76 tx.length)) n).2.2 k')) := by
  obtain ⟨t, e, pt, wt, t12, ot⟩ := M_ctyOpen hm hx hv.1
  have ot' : Off KcO s t := ot.mono fun k j hk => by simp only [KcO, Bool.or_eq_false_iff] at hk; exact hk.2
  unfold rdA
  rw [e]
  by_cases c0 : tx.length = 0
  · rw [if_pos c0, bI_n (by omega)]
    refine ⟨t, 0, true, 0, 99999, ?_, pt, t12, ot', ?_, fun _ => ⟨rfl, wt⟩⟩
    · rw [bI_t]; exact wh4_1 _ _ _ _
    · rw [if_pos ⟨rfl, by omega⟩]
  · rw [if_neg c0, bI_d (by omega)]
    have hx1 := hx.1
    obtain ⟨u, q, b, k', N', ou, pu, eu, r1, r2⟩ := M_rd (c := cT tx) (L := min 76 tx.length) (n0 := n) (w0 := (n, T, S, D, SP)) ⟨hv.1, hv.2.1, hv.2.2.1, hv.2.2.2.1, hv.2.2.2.2.1⟩ (x1 := iI (tx.length : Int)) (min 76 tx.length + 1) 100000 0 0 g0 t (iI 1) (by omega) (fun i hi => absurd hi (by omega)) pt wt (by omega)
    refine ⟨u, q, b, k', N', eu, pu, ?_, ot'.trans (ou.mono fun k j hk => by simp only [KcO, Bool.or_eq_false_iff] at hk; exact hk.1), r1, r2⟩
    rw [ou 161 12 rfl]; exact t12
end OP
