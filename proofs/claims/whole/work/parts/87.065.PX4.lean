section SX
variable {s t : wM} {n : Nat} {T : Nat → Nat → Bool} {S : Nat → Nat → Int} {bk : Int} {D0 : Dp} {σ : Nat → Nat} {c : Nat}
theorem wkey_mv {u : Dp} {a b : Nat} (hn : n ≤ 9) (hu : VS n D0 u) (ha : a < n) (hb : b < n) (hab : a ≠ b) (h0 : 0 ≤ bk) (h1 : bk ≤ u a) (h2 : u b ≤ 99 - bk) : wkey u n = wkey (uI u a (u a - bk)) n + bk.toNat * 2 ^ (7 * a) ∧ wkey (mv bk u a b) n = wkey (uI u a (u a - bk)) n + bk.toNat * 2 ^ (7 * b) := by
  have ua := hu.1 a
  have ub := hu.1 b
  have e1 := wkey_uI (D := u) (v := u a - bk) ha
  have e2 := wkey_uI (D := uI u a (u a - bk)) (v := uI u a (u a - bk) b + bk) hb
  rw [uI_ne hab.symm] at e2
  rw [show (u a).toNat = (u a - bk).toNat + bk.toNat by omega, Nat.add_mul] at e1
  rw [show (u b + bk).toNat = (u b).toNat + bk.toNat by omega, Nat.add_mul] at e2
  unfold mv
  rw [uI_ne hab.symm]
  omega
theorem Se_carried (hS : Cty n T S) (hbk : 0 ≤ bk ∧ bk ≤ 99) (hp : Prd s n T bk) {u : Dp} (hu : VS n D0 u) {m : Nat} (hm : m < (mvs n T).length) : fSe_carried s (lNn (wkey u n)) (iI (m : Int)) = some (if cc T bk u (mvs n T)[m].1 (mvs n T)[m].2 = true then lNn (wkey (mv bk u (mvs n T)[m].1 (mvs n T)[m].2) n) else -1) := by
  have hn := hS.1
  have hl := mvs_len hS
  obtain ⟨p1, p2, p3⟩ := hp
  have hmem := mem_mvs.mp (List.getElem_mem hm)
  obtain ⟨r1, r2⟩ := p3 m hm
  have hT := hmem.2.2
  have hne := (hS.2.2.1 _ _ hT).2.2
  generalize (mvs n T)[m].1 = a at *
  generalize (mvs n T)[m].2 = b at *
  have ua := hu.1 a
  have ub := hu.1 b
  have h63 := wkey_63 hn hu.bn
  have da := wkey_dig hu.bn hmem.1
  have db := wkey_dig hu.bn hmem.2.1
  unfold fSe_carried
  rw [chk_in (by omega) (by omega) (by omega), iI_natc (by omega), r1, r2, p2, iI_mul, iI_mul, show (7 * (a : Int)) = ((7 * a : Nat) : Int) by omega, show (7 * (b : Int)) = ((7 * b : Nat) : Int) by omega, lUshr_n (by omega) h63, lUshr_n (by omega) h63, lto32, lto32, i127, i127, da, db]
  refine (nmI_k rfl).trans ((nmI_k rfl).trans ?_)
  unfold fSe_carried_J63
  rw [iI_sub, show ((u a).toNat : Int) = u a by omega, show ((u b).toNat : Int) = u b by omega]
  unfold cc
  rw [hT]
  by_cases c1 : bk ≤ u a
  · rw [if_neg (by rw [iI_lt (by omega) (by omega) (by omega) (by omega)]; omega)]
    by_cases c2 : u b ≤ 99 - bk
    · obtain ⟨k1, k2⟩ := wkey_mv hn hu hmem.1 hmem.2.1 hne hbk.1 c1 c2
      have hv := mv_bd hne hu.1 c1 c2 hbk.1
      have h63' := wkey_63 (D := mv bk u a b) hn fun j _ => hv j
      rw [if_pos (by rw [iI_le (by omega) (by omega) (by omega) (by omega)]; omega), if_pos (by simp [c1, c2]), i64n hbk.1 (by omega), lShl_n (by omega) (by omega), lShl_n (by omega) (by omega), lsub_n (by omega) h63, ladd_n (by omega)]
      congr 2
      omega
    · rw [if_neg (by rw [iI_le (by omega) (by omega) (by omega) (by omega)]; omega), if_neg (by simp [c2])]
  · rw [if_pos (by rw [iI_lt (by omega) (by omega) (by omega) (by omega)]; omega), if_neg (by simp [c1])]
def KS : Nat → Nat → Bool := fun k _ => k == 23 || k == 26 || k == 27
def Prl (s : wM) (bk : Int) (l : List (Nat × Nat)) : Prop := s.1 23 6 = iI (l.length : Int) ∧ s.1 23 7 = iI bk ∧ ∀ m (h : m < l.length), s.1 26 m = iI (l[m].1 : Int) ∧ s.1 27 m = iI (l[m].2 : Int)
theorem Prl_push {l : List (Nat × Nat)} {a b : Nat} (h : Prl t bk l) : Prl (wsI (wsI (wsI t 26 l.length (iI (a : Int))) 27 l.length (iI (b : Int))) 23 6 (iI ((l.length : Int) + 1))) bk (l ++ [(a, b)]) := by
  obtain ⟨h1, h2, h3⟩ := h
  refine ⟨by rw [rd_at]; simp, by rw [rd_of (by decide), rd_ne (by decide), rd_ne (by decide)]; exact h2, fun m hm => ?_⟩
  rw [show ∀ j, (wsI (wsI (wsI t 26 l.length (iI (a : Int))) 27 l.length (iI (b : Int))) 23 6 (iI ((l.length : Int) + 1))).1 26 j = (wsI t 26 l.length (iI (a : Int))).1 26 j from fun j => by rw [rd_ne (by decide), rd_ne (by decide)], show ∀ j, (wsI (wsI (wsI t 26 l.length (iI (a : Int))) 27 l.length (iI (b : Int))) 23 6 (iI ((l.length : Int) + 1))).1 27 j = (wsI (wsI t 26 l.length (iI (a : Int))) 27 l.length (iI (b : Int))).1 27 j from fun j => by rw [rd_ne (by decide)]]
  simp only [List.length_append, List.length_singleton] at hm
  by_cases e : m = l.length
  · subst e
    rw [rd_at, rd_at]
    simp
  · rw [rd_of e, rd_of e, rd_ne (by decide)]
    rw [List.getElem_append_left (by omega)]
    exact h3 m (by omega)
theorem Se_prepare (hS : Cty n T S) (hL : LW s n T S) (h11 : s.1 11 2 = iI bk) : ∃ t, fSe_prepare s = some t ∧ Prd t n T bk ∧ Off KS s t ∧ t.2 = s.2 := by
  have hn := hS.1
  have LWof : ∀ {t}, Off KS s t → LW t n T S := fun o => ⟨by rw [o 7 4 rfl]; exact hL.1, fun a b ha hb => by rw [o 12 _ rfl]; exact hL.2 a b ha hb⟩
  unfold fSe_prepare
  simp only [nmM]
  refine wh2_w (Q := fun y => ∃ t, y = some t ∧ Prd t n T bk ∧ Off KS s t ∧ t.2 = s.2) (fun m x t => ∃ a : Nat, a ≤ n ∧ m = n - a ∧ x = iI (a : Int) ∧ Prl t bk (mvL T n a) ∧ Off KS s t ∧ t.2 = s.2) ?_ 100000 n _ _ (by omega) ⟨0, by omega, rfl, rfl, ⟨by rw [rd_at]; rfl, by rw [rd_of (by decide), rd_at]; exact h11, fun m hm => absurd hm (by simp [mvL])⟩, ((Off.refl s).set rfl).set rfl, rfl⟩
  rintro m x t ⟨a, h1, rfl, rfl, hl, ho, h2⟩ k hk
  unfold fSe_prepare_L17
  rw [(LWof ho).1]
  by_cases ha : a < n
  · rw [if_neg (by rw [iI_le (by omega) (by omega) (by omega) (by omega)]; omega)]
    refine wh2_w (Q := fun y => ∃ t, y = some t ∧ Prd t n T bk ∧ Off KS s t ∧ t.2 = s.2) (fun m x t => ∃ b : Nat, b ≤ n ∧ m = n - b ∧ x = iI (b : Int) ∧ Prl t bk (mvL T n a ++ mvR T a b) ∧ Off KS s t ∧ t.2 = s.2) ?_ 100000 n _ _ (by omega) ⟨0, by omega, rfl, rfl, by simpa [mvR] using hl, ho, h2⟩
    rintro m x t ⟨b, h1, rfl, rfl, hl, ho, h2⟩ k' hk'
    have hlen := mvL_len hS a (by omega)
    have hlen2 := mvR_len hS a b
    unfold fSe_prepare_L27
    rw [(LWof ho).1]
    by_cases hb : b < n
    · rw [if_neg (by rw [iI_le (by omega) (by omega) (by omega) (by omega)]; omega), Land_between (LWof ho) (by omega) (by omega), Option.bind_some]
      simp only [between_n hS]
      unfold fSe_prepare_J75
      cases hT : T a b
      · rw [if_pos rfl, iI_add]
        refine hk' (n - (b + 1)) _ _ (by omega) ⟨b + 1, by omega, rfl, by simp, ?_, ho, h2⟩
        simp only [mvR, hT]
        simpa using hl
      · have hL2 : (mvL T n a ++ mvR T a b).length < 72 := by
          have e1 := mvR_len hS a (b + 1)
          simp only [mvR, hT, List.length_append] at e1
          simp at e1
          rw [List.length_append]
          have hab := (hS.2.2.1 a b hT).2.2
          have e2 : (mvR T a b).length ≤ 7 := by omega
          omega
        rw [if_neg (by simp), hl.1, chk_in (by omega) (by omega) (by omega), iI_natc (by omega)]
        simp only [nmM]
        rw [rd_ne (by decide), hl.1, chk_in (by omega) (by omega) (by omega), iI_natc (by omega), rd_ne (by decide), rd_ne (by decide), hl.1, iI_add, iI_add]
        refine hk' (n - (b + 1)) _ _ (by omega) ⟨b + 1, by omega, rfl, by simp, ?_, ((ho.set rfl).set rfl).set rfl, h2⟩
        simp only [mvR, hT, if_true]
        rw [← List.append_assoc]
        exact Prl_push hl
    · have : b = n := by omega
      subst this
      rw [if_pos (by rw [iI_le (by omega) (by omega) (by omega) (by omega)]; omega), iI_add]
      exact hk (b - (a + 1)) _ _ (by omega) ⟨a + 1, by omega, rfl, by simp, hl, ho, h2⟩
  · have : a = n := by omega
    subst this
    rw [if_pos (by rw [iI_le (by omega) (by omega) (by omega) (by omega)]; omega)]
    exact ⟨t, rfl, hl, ho, h2⟩
def K23 : Nat → Nat → Bool := fun k _ => k == 23
theorem wsL_atp {k j : Nat} {v : Int64} : (wsL s k j v).2 k j = v := by simp [wsL]
theorem wsL_of {k j a b : Nat} {v : Int64} (h : ¬ (a = k ∧ b = j)) : (wsL s k j v).2 a b = s.2 a b := if_neg h
theorem Se_add (hn : n ≤ 9) (hb : ∀ i, i < c → Bn n (Us n T bk D0 i)) (h : SW s n T bk D0 σ c) (hc : c < 3000) (hbc : Bn n (Us n T bk D0 c)) (hf : ∀ i, i < c → wkey (Us n T bk D0 i) n ≠ wkey (Us n T bk D0 c) n) : ∃ t σ', fSe_add s (lNn (wkey (Us n T bk D0 c) n)) = some (iI 1, t) ∧ SW t n T bk D0 σ' (c + 1) ∧ Off (fun k j => k == 23 && (j == 1 || j == 3)) s t := by
  have h63 := wkey_63 hn hbc
  obtain ⟨v, ⟨i, hi, he, _⟩ | ⟨_, h2, d, hd, rfl, hz, hnz⟩⟩ := Se_indexOf hn hb h h63
  · exact absurd he (hf i hi)
  · have hσ : ∀ p, σ p ≤ 3000 := fun p => Nat.le_trans (h.2.2.2.2.2.1 p) h.1
    obtain ⟨p, hp, hpe⟩ : ∃ p, p < 8192 ∧ (Unit → (whs (wkey (Us n T bk D0 c) n) + d) % 8192 = p) := ⟨_, Nat.mod_lt _ (by decide), fun _ => rfl⟩
    have hA := HT_add h.2.2.2.2.2 hd hz hnz
    simp only [hpe ()] at hz h2 hA
    have h1 := h.2.1
    have h5 : s.2 25 (p / 4) = lNn (q4 σ (p / 4)) := h.2.2.2.2.1 (p / 4) (by omega)
    have hq : q4 σ (p / 4) / 2 ^ (p % 4 * 16) % 65536 = 0 := by rw [q4_rd hσ, hz]
    have hup := q4_up (v := c + 1) hz
    have hσ' : ∀ q, (fun q => if q = p then c + 1 else σ q) q ≤ 3000 := fun q => by
      show (if q = p then c + 1 else σ q) ≤ 3000
      split
      · omega
      · exact hσ q
    have hlt := q4_lt hσ' (p / 4)
    rw [hup] at hlt
    unfold fSe_add
    rw [h1, if_neg (by rw [iI_le (by omega) (by omega) (by omega) (by omega)]; omega), h2, Option.bind_some, if_pos rfl]
    dsimp only
    rw [rd_at, iDiv4 (by omega), iRem4 (by omega), chk_in (by omega) (by omega) (by omega), iI_natc (by omega), rd_2, h5, rd_of (by decide), h1, i64n (by omega) (by omega), Int.toNat_natCast, show (1 : Int64) = lNn 1 from rfl, ladd_n (by omega), iI_mul, show ((p % 4 : Nat) : Int) * 16 = ((p % 4 * 16 : Nat) : Int) by omega, lShl_n (by omega) (by omega), lor_gap hq (by omega) hlt]
    rw [show ∀ (e : wM) (k : wM → Option (Int32 × wM)), nmM e k = k e from fun _ _ => rfl, rd_L, rd_of (by decide), h1, chk_in (by omega) (by omega) (by omega), iI_natc (by omega)]
    rw [show ∀ (e : wM) (k : wM → Option (Int32 × wM)), nmM e k = k e from fun _ _ => rfl, rd_L, rd_L, rd_of (by decide), h1, iI_add]
    rw [show ∀ (e : wM) (k : wM → Option (Int32 × wM)), nmM e k = k e from fun _ _ => rfl]
    refine ⟨_, fun q => if q = p then c + 1 else σ q, rfl, ⟨by omega, by rw [rd_at]; simp, ?_, fun i hi => ?_, fun q hq2 => ?_, hA⟩, ?_⟩
    · exact h.2.2.1.of (by rw [rd_of (by decide), rd_L, rd_L, rd_of (by decide)]) (by rw [rd_of (by decide), rd_L, rd_L, rd_of (by decide)]) (by rw [rd_ne (by decide), rd_L, rd_L, rd_ne (by decide)]) (by rw [rd_ne (by decide), rd_L, rd_L, rd_ne (by decide)])
    · rw [rd_2]
      by_cases e : i = c
      · subst e; rw [wsL_atp]
      · rw [wsL_of (by omega), wsL_of (by omega), rd_2]; exact h.2.2.2.1 i (by omega)
    · rw [rd_2, wsL_of (by omega)]
      by_cases e : q = p / 4
      · subst e; rw [wsL_atp, hup]
      · rw [wsL_of (by omega), rd_2, q4_ot e]; exact h.2.2.2.2.1 q hq2
    · exact ((Off.refl s).set (k := 23) (j := 3) rfl).setL.setL.set rfl
end SX
