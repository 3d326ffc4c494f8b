section MW
variable {s t : wM} {n : Nat} {T : Nat → Nat → Bool} {S : Nat → Nat → Int} {bk : Int} {D0 : Dp} {σ : Nat → Nat} {c : Nat}
def KFu : Nat → Nat → Bool := fun k j => (k == 184 && decide (j < 9)) || ((k == 161 && (j == 34 || j == 35)) || k == 180 || k == 181 || k == 182 || k == 183)
theorem KU.fu (h : Off KU s t) : Off KFu s t := h.mono fun k j hk => by simp only [KFu, Bool.or_eq_false_iff] at hk; exact hk.1
theorem KFi.fu (h : Off KFi s t) : Off KFu s t := h.mono fun k j hk => by unfold KFu at hk; rw [Bool.or_eq_false_iff] at hk; exact hk.2
theorem LM.fu (h : LM s n T S) (o : Off KFu s t) : LM t n T S := by
  obtain ⟨h1, h2, h3⟩ := h
  exact ⟨by rw [o 161 3 rfl]; exact h1, fun a ha => by rw [o 165 a rfl]; exact h2 a ha, fun a b ha hb hT => by rw [o 166 _ rfl]; exact h3 a b ha hb hT⟩
theorem mkw {u v : Dp} (hu : Bn n u) (hv : Bn n v) : mkey u n = mkey v n ↔ wkey u n = wkey v n := ⟨fun h => wkey_congr (mkey_inj hu hv h), fun h => mkey_congr (wkey_inj hu hv h)⟩
/-- the state while head h is gone through, m moves done -/
def MG (s t : wM) (n : Nat) (T : Nat → Nat → Bool) (bk : Int) (D0 : Dp) (h m : Nat) : Prop := Off KFu s t ∧ ∃ σ, (t.1 161 35 = iI 0 ∧ MT t n T bk D0 σ (cG n T bk D0 h m)) ∨ (t.1 161 35 = iI 1 ∧ MT t n T bk D0 σ 3000 ∧ 3000 < cG n T bk D0 (h + 1) 0)
theorem M_carries' {a b : Nat} {u : Dp} (hk : ∀ j, j < n → s.1 184 j = iI (u j)) (hr : s.1 168 2 = iI bk) (ha : a < n) (hb : b < n) (hab : a ≠ b) (hn : n ≤ 9) : ∃ t, fM_carries s 184 (iI (a : Int)) (iI (b : Int)) = some t ∧ (∀ j, j < n → t.1 184 j = iI (mv bk u a b j)) ∧ Off KU s t ∧ t.2 = s.2 := by
  unfold fM_carries
  simp only [z2, hr]
  rw [chk_in (by omega) (by omega) (by omega), nmM_e, iI_natc (by omega), hk a ha, iI_sub, chk_in (by omega) (by omega) (by omega), nmM_e, iI_natc (by omega), rd_of hab.symm, hk b hb, rd_ne (by decide), hr, iI_add]
  refine ⟨_, rfl, fun j hj => ?_, ((Off.refl s).set (by simp [KU]; omega)).set (by simp [KU]; omega), rfl⟩
  unfold mv
  rw [uI_ne hab.symm]
  by_cases e : j = b
  · subst e; rw [rd_at, uI_at]
  · rw [rd_of e, uI_ne e]
    by_cases e2 : j = a
    · subst e2; rw [rd_at, uI_at]
    · rw [rd_of e2, uI_ne e2]; exact hk j hj
theorem M_findsFrom (hS : Cty n T S) (hbk : 1 ≤ bk ∧ bk ≤ 9) (h0 : Bd D0 0 99) (hL : LM s n T S) (hr : s.1 168 2 = iI bk) {h : Nat} (hh : h < cG n T bk D0 h 0) (h3 : h < 3000) (hg : MG s s n T bk D0 h 0) : ∃ t, fM_findsFrom s (iI (h : Int)) (iI 3000) = some t ∧ MG s t n T bk D0 h (mvs n T).length := by
  have hn := hS.1
  unfold fM_findsFrom
  refine wh2_w (Q := fun y => ∃ t, y = some t ∧ MG s t n T bk D0 h (mvs n T).length) (fun m x t => ∃ a : Nat, a ≤ n ∧ m = n - a ∧ x = iI (a : Int) ∧ MG s t n T bk D0 h (mvL T n a).length) ?_ 100000 n _ _ (by omega) ⟨0, by omega, rfl, rfl, hg⟩
  rintro m x t ⟨a, h1, rfl, rfl, hmg⟩ k hk
  unfold fM_findsFrom_L2
  rw [(hL.fu hmg.1).1]
  by_cases ha : a < n
  · rw [if_neg (by rw [iI_le (by omega) (by omega) (by omega) (by omega)]; omega)]
    refine wh2_w (Q := fun y => ∃ t, y = some t ∧ MG s t n T bk D0 h (mvs n T).length) (fun m x t => ∃ b : Nat, b ≤ n ∧ m = n - b ∧ x = iI (b : Int) ∧ MG s t n T bk D0 h (mvL T n a ++ mvR T a b).length) ?_ 100000 n _ _ (by omega) ⟨0, by omega, rfl, rfl, by simpa [mvR] using hmg⟩
    clear hmg t
    rintro m x t ⟨b, h1, rfl, rfl, hmg⟩ k' hk'
    obtain ⟨ho, σ, hcs⟩ := hmg
    unfold fM_findsFrom_L13 fM_findsFrom_J88
    rw [(hL.fu ho).1]
    by_cases hb : b < n
    · rw [if_neg (by rw [iI_le (by omega) (by omega) (by omega) (by omega)]; omega)]
      rcases hcs with ⟨h35, hmt⟩ | ⟨h35, hmt, hbig⟩
      · rw [h35, if_pos rfl]
        have hvs := (U_ok hS (show 0 ≤ bk by omega) h0 h (mvL T n a ++ mvR T a b).length).1
        have hh' : h < cG n T bk D0 h (mvL T n a ++ mvR T a b).length := Nat.lt_of_lt_of_le hh (cG_mono (by omega))
        have hvh := hvs h hh'
        have hLt := hL.fu ho
        obtain ⟨u, e1, u1, ou, u2⟩ := M_unpacks hn hLt.1 h3 hvh.bn (hmt.2.2.1 h hh')
        have hmtu : MT u n T bk D0 σ (cG n T bk D0 h (mvL T n a ++ mvR T a b).length) := hmt.of (ou _ _ rfl) (ou.row fun j => rfl) (ou.row fun j => rfl) (ou.row fun j => rfl) (ou.row fun j => rfl) u2
        have hou := ho.trans (KU.fu ou)
        have h35u : u.1 161 35 = iI 0 := by rw [ou 161 35 rfl]; exact h35
        rw [e1, Option.bind_some]
        have next : ∀ v, MG s v n T bk D0 h (mvL T n a ++ mvR T a (b + 1)).length → ∃ t, fM_findsFrom_J82 k k' (iI (h : Int)) (iI 3000) (iI (a : Int)) (iI (b : Int)) v = some t ∧ MG s t n T bk D0 h (mvs n T).length := fun v hv => by
          unfold fM_findsFrom_J82
          rw [iI_add]
          exact hk' (n - (b + 1)) _ _ (by omega) ⟨b + 1, by omega, rfl, by simp, hv⟩
        have same : T a b = false → MG s u n T bk D0 h (mvL T n a ++ mvR T a (b + 1)).length := fun hT => by
          have : mvR T a (b + 1) = mvR T a b := by simp [mvR, hT]
          rw [this]
          exact ⟨hou, σ, Or.inl ⟨h35u, hmtu⟩⟩
        by_cases hab : a = b
        · rw [if_pos (by rw [hab])]
          refine next u (same ?_)
          cases hT : T a b
          · rfl
          · exact absurd hab (hS.2.2.1 a b hT).2.2
        · have ba := hvh.1 a
          have bb := hvh.1 b
          rw [if_neg (by rw [iI_eq (by omega) (by omega) (by omega) (by omega)]; omega), M_canCarry' (hL.fu hou) (u1 a ha) (u1 b hb) ba bb (by rw [hou 168 2 rfl]; exact hr) hbk (by omega) (by omega), Option.bind_some]
          simp only [bI_0]
          cases hT : T a b
          · rw [if_pos (by unfold cc; simp [hT])]
            exact next u (same hT)
          · obtain ⟨hm, hat⟩ := mv_at ha hb hT
            have hlen : (mvL T n a ++ mvR T a (b + 1)).length = (mvL T n a ++ mvR T a b).length + 1 := by simp [mvR, hT]; omega
            have hcg := cG_s hm hh'
            rw [hat] at hcg
            rw [hlen] at next
            generalize (mvL T n a ++ mvR T a b).length = m at *
            dsimp only at hcg
            cases hcc : cc T bk (Us n T bk D0 h) a b
            · rw [if_pos rfl]
              refine next u ⟨hou, σ, Or.inl ⟨h35u, ?_⟩⟩
              rcases hcg with ⟨_, e⟩ | ⟨e, _⟩ | ⟨e, _⟩
              · rw [e]; exact hmtu
              · rw [hcc] at e; cases e
              · rw [hcc] at e; cases e
            · rw [if_neg (by simp)]
              have hvm := hvh.mvd hS (by omega) hcc
              obtain ⟨v, e2, v1, ov, v2⟩ := M_carries' (bk := bk) u1 (by rw [hou 168 2 rfl]; exact hr) ha hb hab hn
              have hov := hou.trans (KU.fu ov)
              have hmtv : MT v n T bk D0 σ (cG n T bk D0 h m) := hmtu.of (ov _ _ rfl) (ov.row fun j => rfl) (ov.row fun j => rfl) (ov.row fun j => rfl) (ov.row fun j => rfl) v2
              have h35v : v.1 161 35 = iI 0 := by rw [ov 161 35 rfl]; exact h35u
              have hc3 := hmtv.1
              rw [e2, Option.bind_some, iI_mul, iI_add]
              have hmono : cG n T bk D0 h (m + 1) ≤ cG n T bk D0 (h + 1) 0 := cG_mono (by omega)
              rcases M_finds (L := 3000) (u := mv bk (Us n T bk D0 h) a b) (k := 184) (x2 := iI (h : Int)) (x3 := iI (10 * (a : Int) + b)) hn (hL.fu hov).1 (fun i hi => (hvs i hi).bn) hmtv hvm.bn v1 (Nat.le_refl _) hc3 (fun hne hlt => by
                rcases hcg with ⟨e, _⟩ | ⟨_, ⟨i, hi, e⟩, _⟩ | ⟨_, _, e, e'⟩
                · rw [hcc] at e; cases e
                · exact absurd ((mkw (hvs i hi).bn hvm.bn).mpr e) (hne i hi)
                · obtain ⟨p1, p2⟩ := par_at hm hh' e
                  refine ⟨by rw [e'], Or.inr ⟨by omega, by rw [p1], ?_⟩⟩
                  rw [p2, List.getD_eq_getElem?_getD, List.getElem?_eq_getElem hm, hat]; rfl) with ⟨⟨i, hi, ei⟩, e3⟩ | ⟨hne, ⟨hc, e3⟩ | ⟨hc, w, σ', e3, hw, h35w, ow⟩⟩
              · rw [show iI (3000 : Int) = iI ((3000 : Nat) : Int) from rfl, e3, Option.bind_some]
                refine next v ⟨hov, σ, Or.inl ⟨h35v, ?_⟩⟩
                rcases hcg with ⟨e, _⟩ | ⟨_, _, e⟩ | ⟨_, hne, _⟩
                · rw [hcc] at e; cases e
                · rw [e]; exact hmtv
                · exact absurd ((mkw (hvs i hi).bn hvm.bn).mp ei) (hne i hi)
              · rw [show iI (3000 : Int) = iI ((3000 : Nat) : Int) from rfl, e3, Option.bind_some]
                refine next _ ⟨hov.set rfl, σ, Or.inr ⟨rd_at, ?_, ?_⟩⟩
                · rw [← hc]
                  exact hmtv.of (rd_of (by decide)) (rd_ne (by decide)) (rd_ne (by decide)) (rd_ne (by decide)) (rd_ne (by decide)) rfl
                · rcases hcg with ⟨e, _⟩ | ⟨_, ⟨i, hi, e⟩, _⟩ | ⟨_, _, e, _⟩
                  · rw [hcc] at e; cases e
                  · exact absurd ((mkw (hvs i hi).bn hvm.bn).mpr e) (hne i hi)
                  · omega
              · rw [show iI (3000 : Int) = iI ((3000 : Nat) : Int) from rfl, e3, Option.bind_some]
                refine next w ⟨hov.trans (KFi.fu ow), σ', Or.inl ⟨by rw [h35w]; exact h35v, ?_⟩⟩
                rcases hcg with ⟨e, _⟩ | ⟨_, ⟨i, hi, e⟩, _⟩ | ⟨_, _, e, _⟩
                · rw [hcc] at e; cases e
                · exact absurd ((mkw (hvs i hi).bn hvm.bn).mpr e) (hne i hi)
                · rw [e]; exact hw
      · rw [h35, if_neg (by decide), iI_add]
        exact hk (n - (a + 1)) _ _ (by omega) ⟨a + 1, by omega, rfl, by simp, ho, σ, Or.inr ⟨h35, hmt, hbig⟩⟩
    · have : b = n := by omega
      subst this
      rw [if_pos (by rw [iI_le (by omega) (by omega) (by omega) (by omega)]; omega), iI_add]
      exact hk (b - (a + 1)) _ _ (by omega) ⟨a + 1, by omega, rfl, by simp, ho, σ, hcs⟩
  · have : a = n := by omega
    subst this
    rw [if_pos (by rw [iI_le (by omega) (by omega) (by omega) (by omega)]; omega)]
    exact ⟨t, rfl, hmg⟩
end MW
