section ST
variable {s t : wM} {n : Nat} {T : Nat → Nat → Bool} {S : Nat → Nat → Int} {bk : Int} {D0 : Dp} {σ : Nat → Nat} {c : Nat}
theorem Num_addAhead {l : List Int32} {v : Int32} (h : RW s l) (hl : l.length ≤ 10) : ∃ t, fNum_addAhead s v = some t ∧ RW t ((v :: l).take 10) ∧ Off KN s t ∧ t.2 = s.2 := by
  unfold fNum_addAhead
  obtain ⟨N, hN, hN1⟩ : ∃ N : Nat, N = min 10 (l.length + 1) ∧ 1 ≤ N := ⟨min 10 (l.length + 1), rfl, by omega⟩
  rw [nmM_e, rd_at, h.1, iI_add, iMin_i (by omega) (by omega) (by omega) (by omega), show min (10 : Int) ((l.length : Int) + 1) = (N : Int) by omega, iI_sub, show (N : Int) - 1 = ((N - 1 : Nat) : Int) by omega]
  refine wh2_w (Q := fun y => ∃ t, y = some t ∧ RW t ((v :: l).take 10) ∧ Off KN s t ∧ t.2 = s.2) (fun m x t => ∃ k : Nat, k ≤ N - 1 ∧ m = k ∧ x = iI (k : Int) ∧ t.1 32 1 = iI (N : Int) ∧ (∀ j, j ≤ k → t.1 33 j = s.1 33 j) ∧ (∀ j, k < j → j < N → t.1 33 j = s.1 33 (j - 1)) ∧ Off KN s t ∧ t.2 = s.2) ?_ 100000 (N - 1) _ _ (by omega) ⟨N - 1, by omega, rfl, rfl, rd_at, fun j _ => by rw [rd_ne (by decide)], fun j _ _ => by omega, (Off.refl s).set rfl, rfl⟩
  rintro m x t ⟨k, k1, rfl, rfl, k2, k3, k4, ko, k5⟩ kk hkk
  unfold fNum_addAhead_L22
  by_cases c1 : m = 0
  · subst c1
    rw [if_pos (by rw [iI_le (by omega) (by omega) (by omega) (by omega)]; omega), nmM_e]
    refine ⟨_, rfl, ⟨?_, fun j hj => ?_⟩, ko.set rfl, k5⟩
    · rw [rd_ne (by decide), k2]
      exact iI_congr (by rw [List.length_take, List.length_cons]; omega)
    · have hj2 : j < N := by simp at hj; omega
      rw [List.getElem_take]
      by_cases e : j = 0
      · subst e
        rw [show (iI 0).toNatClampNeg = 0 from rfl, rd_at]; rfl
      · rw [show (iI 0).toNatClampNeg = 0 from rfl, rd_of e, k4 j (by omega) hj2]
        obtain ⟨q, rfl⟩ : ∃ q, j = q + 1 := ⟨j - 1, by omega⟩
        rw [List.getElem_cons_succ]
        exact h.2 q (by omega)
  · rw [if_neg (by rw [iI_le (by omega) (by omega) (by omega) (by omega)]; omega), iI_sub, chk_in (by omega) (by omega) (by omega), chk_in (by omega) (by omega) (by omega), nmM_e, show (m : Int) - 1 = ((m - 1 : Nat) : Int) by omega, iI_natc (by omega), iI_natc (by omega), iI_add]
    refine hkk (m - 1) _ _ (by omega) ⟨m - 1, by omega, rfl, iI_congr (by omega), by rw [rd_ne (by decide)]; exact k2, fun j hj => ?_, fun j hj1 hj2 => ?_, ko.set rfl, k5⟩
    · rw [rd_of (by omega)]; exact k3 j (by omega)
    · by_cases e : j = m
      · subst e; rw [rd_at, k3 (j - 1) (by omega)]
      · rw [rd_of e]; exact k4 j (by omega) hj2
def KTw : Nat → Nat → Bool := fun k j => (k == 32 || k == 33) || (k == 23 && j == 3)
theorem SW.kt (h : SW s n T bk D0 σ c) (o : Off KTw s t) (e : t.2 = s.2) : SW t n T bk D0 σ c := h.of (o _ _ rfl) (o _ _ rfl) (o _ _ rfl) (o.row fun j => rfl) (o.row fun j => rfl) e
theorem N3.kt (h : N3 s t) : Off KTw s t := h.1.mono fun k j hk => by simp only [KTw, Bool.or_eq_false_iff] at hk; exact hk.2
theorem KN.kt (h : Off KN s t) : Off KTw s t := h.mono fun k j hk => by simp only [KTw, Bool.or_eq_false_iff] at hk; simp only [KN, Bool.or_eq_false_iff]; exact hk.1
def eWy (p : Nat × Nat) : Int32 := iI (10 * (p.1 : Int) + p.2)
theorem RW.n3 {l : List Int32} (h : RW s l) (o : N3 s t) : RW t l := ⟨by rw [o.1 32 1 rfl]; exact h.1, fun j hj => by rw [o.1 33 j rfl]; exact h.2 j hj⟩
theorem Se_tellWay (hS : Cty n T S) (hbk : 1 ≤ bk ∧ bk ≤ 9) (h0 : Bd D0 0 99) {h m j : Nat} (hc : c ≤ cG n T bk D0 h m) (hw : SW s n T bk D0 σ c) (hjc : j < c) : ∃ t, fSe_tellWay s (iI (j : Int)) = some (iI (fr n T bk D0 j : Int), t) ∧ Off KTw s t ∧ t.2 = s.2 ∧ RW t (((pth n T bk D0 j).map eWy).take 10) := by
  have hc3 := hw.1
  have hl := mvs_len hS
  have hfj := fr_le (n := n) (T := T) (bk := bk) (D0 := D0) j
  obtain ⟨s0, e0, r0, o0⟩ := Num_clear (s := s)
  have o2 : s0.2 = s.2 := by
    unfold fNum_clear at e0
    rw [nmM_e, Option.some_inj] at e0
    rw [← e0]; rfl
  unfold fSe_tellWay
  rw [e0, Option.bind_some]
  refine wh3_w (Q := fun y => ∃ t, y = some (iI (fr n T bk D0 j : Int), t) ∧ Off KTw s t ∧ t.2 = s.2 ∧ RW t (((pth n T bk D0 j).map eWy).take 10)) (fun mm x y t => ∃ (i : Nat) (rest : List (Nat × Nat)), x = iI (rest.length : Int) ∧ y = iI (i : Int) ∧ i < c ∧ Off KTw s t ∧ t.2 = s.2 ∧ pth n T bk D0 j = pth n T bk D0 i ++ rest ∧ RW t ((rest.map eWy).take 10) ∧ mm = i) ?_ 100000 j _ _ _ (by omega) ⟨j, [], rfl, rfl, hjc, KN.kt o0, o2, by simp, r0, rfl⟩
  rintro mm x y t ⟨i, rest, rfl, rfl, hi, ho, ho2, hpt, hr, rfl⟩ kk hkk
  have hlen : rest.length ≤ fr n T bk D0 j := by
    have := congrArg List.length hpt
    rw [List.length_append] at this
    show _ ≤ (pth n T bk D0 j).length
    omega
  unfold fSe_tellWay_L9 fSe_tellWay_J71
  by_cases c1 : mm = 0
  · subst c1
    rw [if_pos (by rw [iI_le (by omega) (by omega) (by omega) (by omega)]; omega)]
    rw [pth_0, List.nil_append] at hpt
    refine ⟨t, ?_, ho, ho2, by rw [hpt]; exact hr⟩
    unfold fr; rw [hpt]
  · rw [if_neg (by rw [iI_le (by omega) (by omega) (by omega) (by omega)]; omega), if_neg (by rw [iI_le (by omega) (by omega) (by omega) (by omega)]; omega)]
    have hm1 : 1 ≤ mm := by omega
    have hwt := hw.kt ho ho2
    obtain ⟨u, q, hq, e, hu, k1, k2⟩ := Se_moveBack hS hbk h0 hc hwt hm1 hi
    have hwu := hwt.n3 hu
    obtain ⟨q', hq', hp', t1, t2, t3, t4⟩ := par_turn hS hbk.1 h0 hm1 (show mm < cG n T bk D0 h m by omega)
    have hne1 := (hS.2.2.1 _ _ (mem_mvs.mp (List.getElem_mem hq)).2.2)
    have hne2 := (hS.2.2.1 _ _ (mem_mvs.mp (List.getElem_mem hq')).2.2)
    obtain ⟨u1, u2⟩ := mv_uni hbk.1 hne1.2.2 hne2.2.2 (k2.trans t2.symm)
    have hg : (mvs n T).getD (pm n T bk D0 mm) (0, 0) = (mvs n T)[pm n T bk D0 mm] := by rw [List.getD_eq_getElem?_getD, List.getElem?_eq_getElem hp']; rfl
    have hrows := hwu.2.2.1.2.2 q hq
    have hlr : ((rest.map eWy).take 10).length ≤ 10 := by simp; omega
    obtain ⟨w, e2, r2, ow, ow2⟩ := Num_addAhead (v := eWy (mvs n T)[pm n T bk D0 mm]) (hr.n3 hu) hlr
    have hlt := par_lt (n := n) (T := T) (bk := bk) (D0 := D0) hm1
    have how : Off KTw s w := (ho.trans hu.kt).trans (KN.kt ow)
    have how2 : w.2 = s.2 := ow2.trans (hu.2.trans ho2)
    obtain ⟨z, e3, hz⟩ := Se_cameFrom hS hbk h0 hc (hw.kt how how2) hm1 hi
    rw [e, Option.bind_some]
    dsimp only
    rw [if_neg (by rw [iI_eq (by omega) (by omega) (by omega) (by omega)]; omega), chk_in (by omega) (by omega) (by omega), iI_natc (by omega), hrows.1, hrows.2, iI_mul, iI_add, u1, u2, t3, t4, show iI (10 * ((mvs n T)[pm n T bk D0 mm].1 : Int) + ((mvs n T)[pm n T bk D0 mm].2 : Int)) = eWy (mvs n T)[pm n T bk D0 mm] from rfl, e2, Option.bind_some]
    unfold fSe_tellWay_J57
    rw [e3, Option.bind_some, iI_add]
    refine hkk (par n T bk D0 mm) _ _ _ hlt ⟨par n T bk D0 mm, (mvs n T)[pm n T bk D0 mm] :: rest, by simp, rfl, by omega, how.trans hz.kt, hz.2.trans how2, ?_, ?_, rfl⟩
    · rw [hpt, pth_s hm1, hg, List.append_assoc]; rfl
    · have : ((eWy (mvs n T)[pm n T bk D0 mm] :: (rest.map eWy).take 10).take 10) = (((mvs n T)[pm n T bk D0 mm] :: rest).map eWy).take 10 := by
        rw [List.map_cons, List.take_succ_cons, List.take_succ_cons, List.take_take]; rfl
      rw [← this]
      exact r2.n3 hz
theorem Eb_s (b : Nat) : Eb n T bk D0 (b + 1) = cG n T bk D0 (Eb n T bk D0 b) 0 := rfl
/-- all within b bucketfuls, or more than may be kept -/
theorem Se_findWithin (hS : Cty n T S) (hbk : 1 ≤ bk ∧ bk ≤ 9) (h0 : Bd D0 0 99) (hp : Prd s n T bk) {b : Nat} (hb : b ≤ 100) : ∃ t, Off K23 s t ∧ ((fSe_findWithin s (lNn (wkey D0 n)) (iI (b : Int)) = some (iI 1, t) ∧ ∃ σ, SW t n T bk D0 σ (Eb n T bk D0 (b + 1))) ∨ (fSe_findWithin s (lNn (wkey D0 n)) (iI (b : Int)) = some (iI 0, t) ∧ 3000 < Eb n T bk D0 (b + 1))) := by
  obtain ⟨t0, e0, f0, m0, o0⟩ := Se_start hS h0 hp
  unfold fSe_findWithin
  rw [e0, Option.bind_some]
  have hs : ∀ k, Eb n T bk D0 k ≤ Eb n T bk D0 (k + 1) := by
    intro k
    induction k with
    | zero => exact Nat.zero_le _
    | succ k ih =>
      rw [Eb_s (k + 1)]
      by_cases e : Eb n T bk D0 k = Eb n T bk D0 (k + 1)
      · rw [← e]; exact ih
      · exact cG_mono (h := Eb n T bk D0 k) (m := 0) (by omega)
  have hEb : ∀ k, k ≤ b → Eb n T bk D0 (k + 1) ≤ Eb n T bk D0 (b + 1) := by
    intro k
    clear hb
    induction b with
    | zero => intro hk; rw [show k = 0 by omega]; exact Nat.le_refl _
    | succ b ih =>
      intro hk
      by_cases e : k = b + 1
      · rw [e]; exact Nat.le_refl _
      · exact Nat.le_trans (ih (by omega)) (hs _)
  refine wh2_w (Q := fun y => ∃ t, Off K23 s t ∧ ((y = some (iI 1, t) ∧ ∃ σ, SW t n T bk D0 σ (Eb n T bk D0 (b + 1))) ∨ (y = some (iI 0, t) ∧ 3000 < Eb n T bk D0 (b + 1)))) (fun mm x t => ∃ k : Nat, k ≤ b ∧ mm = b - k ∧ x = iI (k : Int) ∧ Off K23 s t ∧ ((∃ h m, SF t n T bk D0 (Eb n T bk D0 (k + 1)) h m ∧ t.1 23 10 = iI 0) ∨ (t.1 23 10 = iI 1 ∧ 3000 < Eb n T bk D0 (b + 1)))) ?_ 100000 b _ _ (by omega) ⟨0, by omega, rfl, rfl, o0, Or.inl ⟨0, 0, f0, m0⟩⟩
  rintro mm x t ⟨k, hk, rfl, rfl, ho, hcs⟩ kk hkk
  unfold fSe_findWithin_L8 fSe_findWithin_J66 fSe_findWithin_J78
  rcases hcs with ⟨h, m, hf, hm0⟩ | ⟨hm1, hbig⟩
  · by_cases c1 : k = b
    · subst c1
      rw [if_pos (by rw [iI_le (by omega) (by omega) (by omega) (by omega)]; omega), hm0, if_pos rfl, chkZ_1]
      exact ⟨t, ho, Or.inl ⟨rfl, hf.1⟩⟩
    · rw [if_neg (by rw [iI_le (by omega) (by omega) (by omega) (by omega)]; omega), hm0, if_pos rfl]
      obtain ⟨σ, hw⟩ := hf.1
      have hE := hw.1
      rw [hw.2.1]
      have hpos : 1 ≤ Eb n T bk D0 (k + 1) := cG_pos
      have hX1 : Eb n T bk D0 (k + 1) ≤ cG n T bk D0 (Eb n T bk D0 (k + 1)) 0 := hs (k + 1)
      generalize hX : Eb n T bk D0 (k + 1) = X at hf hw hE hpos hX1 ⊢
      refine wh3_w (Q := fun y => ∃ t, Off K23 s t ∧ ((y = some (iI 1, t) ∧ ∃ σ, SW t n T bk D0 σ (Eb n T bk D0 (b + 1))) ∨ (y = some (iI 0, t) ∧ 3000 < Eb n T bk D0 (b + 1)))) (fun mm y z t => ∃ c e : Nat, X ≤ c ∧ c ≤ 3000 ∧ c ≤ cG n T bk D0 X 0 ∧ Off K23 s t ∧ z = iI (e : Int) ∧ mm = 3002 - e ∧ ((y = iI 1 ∧ e + X = c + 0 ∧ t.1 23 10 = iI 0 ∧ ∃ h m, SF t n T bk D0 c h m ∧ (h < X ∨ (h = X ∧ m = 0 ∧ c = cG n T bk D0 h 0) ∨ c ≤ h)) ∨ (y = iI 0 ∧ e ≤ 3000 ∧ ((t.1 23 10 = iI 0 ∧ ∃ h m, SF t n T bk D0 c h m ∧ (h = X ∧ m = 0 ∧ c = cG n T bk D0 h 0 ∨ c ≤ h)) ∨ (t.1 23 10 = iI 1 ∧ ∃ h m, h < X ∧ cG n T bk D0 h (m + 1) = 3001))))) ?_ 100000 3002 _ _ _ (by omega) ⟨X, 0, Nat.le_refl _, hE, hX1, ho, rfl, rfl, Or.inl ⟨rfl, by omega, hm0, h, m, hf, by omega⟩⟩
      rintro mm y z u ⟨c, e, hXc, hc3, hcX, hou, rfl, rfl, hcs⟩ kk' hkk'
      unfold fSe_findWithin_L33
      rcases hcs with ⟨rfl, he, hmu, h', m', hfu, hpre⟩ | ⟨rfl, he, hend⟩
      · rw [if_neg (by rw [iI_lt (by omega) (by omega) (by omega) (by omega)]; omega), if_neg (by decide)]
        obtain ⟨v, h2, m2, ov, ⟨e1, f1, l1, l2, l3, l4, l5⟩ | ⟨e1, f1, l1, l2⟩ | ⟨e1, l1, l2, f1, l3, l4⟩⟩ := Se_findOne hS hbk h0 (show X ≤ 3000 by omega) hfu hpre
        · rw [e1, Option.bind_some, iI_add]
          have hc4 : c + 1 ≤ 3000 := by obtain ⟨⟨_, hh⟩, _⟩ := f1; exact hh.1
          exact hkk' (3002 - (e + 1)) _ _ _ (by omega) ⟨c + 1, e + 1, by omega, hc4, by rw [l4]; exact cG_mono (by omega), hou.trans ov, by simp, rfl, Or.inl ⟨rfl, by omega, l5, h2, m2, f1, by omega⟩⟩
        · rw [e1, Option.bind_some, iI_add]
          exact hkk' (3002 - (e + 1)) _ _ _ (by omega) ⟨c, e + 1, by omega, hc3, hcX, hou.trans ov, by simp, rfl, Or.inr ⟨rfl, by omega, Or.inl ⟨by rw [l2]; exact hmu, h2, m2, f1, l1⟩⟩⟩
        · rw [e1, Option.bind_some, iI_add]
          exact hkk' (3002 - (e + 1)) _ _ _ (by omega) ⟨c, e + 1, by omega, hc3, hcX, hou.trans ov, by simp, rfl, Or.inr ⟨rfl, by omega, Or.inr ⟨l1, h2, m2, l3, l4⟩⟩⟩
      · rw [if_neg (by rw [iI_lt (by omega) (by omega) (by omega) (by omega)]; omega), if_pos rfl]
        unfold fSe_findWithin_J60
        rw [iI_add]
        refine hkk (b - (k + 1)) _ _ (by omega) ⟨k + 1, by omega, rfl, by simp, hou, ?_⟩
        rcases hend with ⟨hmu, h', m', hfu, hfin⟩ | ⟨hmu, h', m', hlt, h3⟩
        · left
          have hcc : c = Eb n T bk D0 (k + 1 + 1) := by
            rw [Eb_s, hX]
            rcases hfin with ⟨rfl, _, e⟩ | hle
            · exact e
            · exact Nat.le_antisymm hcX (PT_end hfu.2 hle X 0)
          exact ⟨h', m', by rw [← hcc]; exact hfu, hmu⟩
        · right
          refine ⟨hmu, ?_⟩
          have h5 : cG n T bk D0 h' (m' + 1) ≤ Eb n T bk D0 (k + 1 + 1) := by rw [Eb_s, hX]; exact cG_mono (by omega)
          have h6 := hEb (k + 1) (by omega)
          omega
  · by_cases c1 : k = b
    · rw [if_pos (by rw [iI_le (by omega) (by omega) (by omega) (by omega)]; omega), hm1, if_neg (by decide), chkZ_0]
      exact ⟨t, ho, Or.inr ⟨rfl, hbig⟩⟩
    · rw [if_neg (by rw [iI_le (by omega) (by omega) (by omega) (by omega)]; omega), hm1, if_neg (by decide), if_neg (by decide), chkZ_0]
      exact ⟨t, ho, Or.inr ⟨rfl, hbig⟩⟩
end ST
