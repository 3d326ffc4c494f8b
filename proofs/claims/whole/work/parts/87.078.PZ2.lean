section MFW
variable {s t : wM} {n : Nat} {T : Nat → Nat → Bool} {S : Nat → Nat → Int} {ap bk : Int} {D0 : Dp}
def KFw : Nat → Nat → Bool := fun k j => KFu k j || KTm k j
def MR (s t : wM) : Option (List Int32) → Prop
  | none => Off KFu s t
  | some l => Off KFw s t ∧ RM t l
def MQf (n : Nat) (T : Nat → Nat → Bool) (ap bk : Int) (D0 : Dp) (f z : Int) (s : wM) (y : Option (Int32 × wM)) : Prop := ∃ r o t, y = some (r, t) ∧ MR s t o ∧ ANS n T ap bk D0 f z r o
theorem M_fewestTo (hS : Cty n T S) (hbk : 1 ≤ bk ∧ bk ≤ 9) (hap : 0 ≤ ap ∧ ap ≤ 9) (h0 : Bd D0 0 99) (hL : LM s n T S) (hr0 : s.1 168 0 = iI ap) (hr : s.1 168 2 = iI bk) (hk : ∀ j, j < n → s.1 163 j = iI (D0 j)) {f z : Int} (hf : f = -1 ∨ 0 ≤ f ∧ f < n) (hz : 0 ≤ z ∧ z ≤ 99) : MQf n T ap bk D0 f z s (fM_fewestTo s (iI f) (iI z)) := by
  have hn := hS.1
  obtain ⟨t0, σ0, e0, mt0, f0, o0⟩ := M_findsFirst (T := T) (bk := bk) hn hL.1 hk (fun j _ => h0 j) (by decide) (by omega)
  unfold fM_fewestTo
  rw [e0, Option.bind_some]
  refine wh4_w (Q := MQf n T ap bk D0 f z s) (fun m x y w t => ∃ i c p : Nat, m = 3002 - i ∧ i ≤ 3001 ∧ w = iI (i : Int) ∧ y = iI (p : Int) ∧ Off KFu s t ∧ (∃ σ, MT t n T bk D0 σ c) ∧ ((x = iI (-1) ∧ i ≤ 3000 ∧ p ≤ c ∧ (p < c → i < c) ∧ (∀ j, j < p → PP n T ap f z (Us n T bk D0 j) = false) ∧ (t.1 161 35 = iI 0 ∧ c = cG n T bk D0 i 0 ∨ t.1 161 35 = iI 1 ∧ c = 3000 ∧ ∃ H M, 3000 < cG n T bk D0 H M)) ∨ ∃ a H M : Nat, x = iI (a : Int) ∧ a < c ∧ c ≤ cG n T bk D0 H M ∧ PP n T ap f z (Us n T bk D0 a) = true ∧ ∀ j, j < a → PP n T ap f z (Us n T bk D0 j) = false)) ?_ 100000 3002 _ _ _ _ (by omega) ⟨0, 1, 0, rfl, by omega, rfl, rfl, KFi.fu o0, ⟨σ0, mt0⟩, Or.inl ⟨rfl, by omega, by omega, fun _ => by omega, fun j hj => absurd hj (by omega), Or.inl ⟨f0, by rw [cG_0]; rfl⟩⟩⟩
  rintro m x y w t ⟨i, c, p, rfl, hi, rfl, rfl, ho, ⟨σ, hmt⟩, hcs⟩ kk hkk
  have hc3 := hmt.1
  unfold fM_fewestTo_L16 fM_fewestTo_J132 fM_fewestTo_J150
  rcases hcs with ⟨rfl, hi3, hpc, hpi, hall, hful⟩ | ⟨a, H, M, rfl, hac, hcg, hP, hall⟩
  · rw [if_neg (by decide), hmt.2.1]
    by_cases c1 : c ≤ i
    · rw [if_pos (by rw [iI_le (by omega) (by omega) (by omega) (by omega)]; omega), if_neg (by decide)]
      have hp : p = c := by
        by_cases e : p < c
        · have := hpi e; omega
        · omega
      subst hp
      rcases hful with ⟨h35, hc⟩ | ⟨h35, hc, hbig⟩
      · rw [h35, if_pos rfl]
        exact ⟨_, none, t, rfl, ho, Or.inr (Or.inl ⟨rfl, rfl, p, hc3, fun H M => by rw [hc]; exact cG_end (by omega) H M, hall⟩)⟩
      · rw [h35, if_neg (by decide)]
        exact ⟨_, none, t, rfl, ho, Or.inr (Or.inr ⟨rfl, rfl, hbig, by rw [← hc]; exact hall⟩)⟩
    · rw [if_neg (by rw [iI_le (by omega) (by omega) (by omega) (by omega)]; omega)]
      have hex : ∃ H M, c ≤ cG n T bk D0 H M := by
        rcases hful with ⟨_, hc⟩ | ⟨_, hc, H, M, hbig⟩
        · exact ⟨i, 0, by omega⟩
        · exact ⟨H, M, by omega⟩
      obtain ⟨H, M, hHM⟩ := hex
      have hvs : ∀ j, j < c → VS n D0 (Us n T bk D0 j) := fun j hj => (U_ok hS (by omega) h0 H M).1 j (by omega)
      refine wh3_w (Q := MQf n T ap bk D0 f z s) (fun m x y u => ∃ p : Nat, m = 3000 - p ∧ y = iI (p : Int) ∧ Off KFu s u ∧ MT u n T bk D0 σ c ∧ u.1 161 35 = t.1 161 35 ∧ p ≤ c ∧ ((x = iI (-1) ∧ ∀ j, j < p → PP n T ap f z (Us n T bk D0 j) = false) ∨ ∃ a : Nat, x = iI (a : Int) ∧ a < c ∧ PP n T ap f z (Us n T bk D0 a) = true ∧ ∀ j, j < a → PP n T ap f z (Us n T bk D0 j) = false)) ?_ 100000 (3000 - p) _ _ _ (by omega) ⟨p, rfl, rfl, ho, hmt, rfl, hpc, Or.inl ⟨rfl, hall⟩⟩
      clear hall hpi hpc p
      rintro m x y u ⟨p, rfl, rfl, hou, hmtu, h35u, hpc, hcs⟩ kk2 hkk2
      have after : (p = c ∨ x ≠ iI (-1)) → MQf n T ap bk D0 f z s (fM_fewestTo_J106 kk (iI f) (iI z) x (iI (p : Int)) (iI (i : Int)) u) := fun hpx => by
        unfold fM_fewestTo_J106 fM_fewestTo_J126
        rcases hcs with ⟨rfl, hall⟩ | ⟨a, rfl, hac, hP, hall⟩
        · have hp : p = c := by
            rcases hpx with h | h
            · exact h
            · exact absurd rfl h
          subst hp
          rw [if_neg (by decide), h35u, iI_add]
          rcases hful with ⟨h35, hc⟩ | ⟨h35, hc, hbig⟩
          · rw [h35, if_pos rfl]
            obtain ⟨v, e1, ov, σ', hv⟩ := M_findsFrom hS hbk h0 (hL.fu hou) (by rw [hou 168 2 rfl]; exact hr) (h := i) (by omega) (by omega) ⟨Off.refl u, σ, Or.inl ⟨h35u.trans h35, by rw [← hc]; exact hmtu⟩⟩
            rw [e1, Option.bind_some]
            have hmono : cG n T bk D0 i 0 ≤ cG n T bk D0 (i + 1) 0 := cG_mono (by omega)
            rcases hv with ⟨v1, v2⟩ | ⟨v1, v2, v3⟩
            · rw [cG_M (Nat.le_refl _)] at v2
              exact hkk (3002 - (i + 1)) _ _ _ _ (by omega) ⟨i + 1, _, p, rfl, by omega, by simp, rfl, hou.trans ov, ⟨σ', v2⟩, Or.inl ⟨rfl, by omega, by omega, fun _ => by omega, hall, Or.inl ⟨v1, rfl⟩⟩⟩
            · exact hkk (3002 - (i + 1)) _ _ _ _ (by omega) ⟨i + 1, 3000, p, rfl, by omega, by simp, rfl, hou.trans ov, ⟨σ', v2⟩, Or.inl ⟨rfl, by omega, by omega, fun _ => by omega, hall, Or.inr ⟨v1, rfl, _, _, v3⟩⟩⟩
          · rw [h35, if_neg (by decide)]
            exact hkk (3002 - (i + 1)) _ _ _ _ (by omega) ⟨i + 1, p, p, rfl, by omega, by simp, rfl, hou, ⟨σ, hmtu⟩, Or.inl ⟨rfl, by omega, by omega, fun h => by omega, hall, Or.inr ⟨h35u.trans h35, hc, hbig⟩⟩⟩
        · rw [if_pos (by rw [iI_le (by omega) (by omega) (by omega) (by omega)]; omega), iI_add]
          exact hkk (3002 - (i + 1)) _ _ _ _ (by omega) ⟨i + 1, c, p, rfl, by omega, by simp, rfl, hou, ⟨σ, hmtu⟩, Or.inr ⟨a, H, M, rfl, hac, hHM, hP, hall⟩⟩
      unfold fM_fewestTo_L29
      rw [hmtu.2.1]
      by_cases c2 : c ≤ p
      · rw [if_pos (by rw [iI_le (by omega) (by omega) (by omega) (by omega)]; omega)]
        exact after (Or.inl (by omega))
      · rw [if_neg (by rw [iI_le (by omega) (by omega) (by omega) (by omega)]; omega)]
        rcases hcs with ⟨rfl, hall⟩ | ⟨a, rfl, hac, hP, hall⟩
        · rw [if_neg (by decide)]
          have hvp := hvs p (by omega)
          obtain ⟨v, e1, v1, ov, v2⟩ := M_unpacks hn (hL.fu hou).1 (show p < 3000 by omega) hvp.bn (hmtu.2.2.1 p (by omega))
          have hov := hou.trans (KU.fu ov)
          have hmtv : MT v n T bk D0 σ c := hmtu.of (ov _ _ rfl) (ov.row fun j => rfl) (ov.row fun j => rfl) (ov.row fun j => rfl) (ov.row fun j => rfl) v2
          have h35v : v.1 161 35 = t.1 161 35 := by rw [ov 161 35 rfl]; exact h35u
          rw [e1, Option.bind_some]
          unfold fM_fewestTo_J86 fM_fewestTo_J99
          have yes : PP n T ap f z (Us n T bk D0 p) = true → MQf n T ap bk D0 f z s (kk2 (iI (p : Int)) (iI (p : Int) + iI 1) v) := fun hP => by
            rw [iI_add]
            exact hkk2 (3000 - (p + 1)) _ _ _ (by omega) ⟨p + 1, rfl, by simp, hov, hmtv, h35v, by omega, Or.inr ⟨p, rfl, by omega, hP, hall⟩⟩
          have no : PP n T ap f z (Us n T bk D0 p) = false → MQf n T ap bk D0 f z s (kk2 (iI (-1)) (iI (p : Int) + iI 1) v) := fun hP => by
            rw [iI_add]
            refine hkk2 (3000 - (p + 1)) _ _ _ (by omega) ⟨p + 1, rfl, by simp, hov, hmtv, h35v, by omega, Or.inl ⟨rfl, fun j hj => ?_⟩⟩
            by_cases e : j = p
            · rw [e]; exact hP
            · exact hall j (by omega)
          by_cases cf : f = -1
          · subst cf
            rw [if_neg (by decide), M_evenPairs' hS (hL.fu hov) v1 hvp.bn (by rw [hov 168 0 rfl]; exact hr0) hap, Option.bind_some]
            have hep := ep_36 hS ap (Us n T bk D0 p)
            by_cases ce : ep n T ap (Us n T bk D0 p) = 0
            · rw [if_pos (by rw [ce]), if_neg (by decide)]
              exact yes (by unfold PP; simp [ce])
            · rw [if_neg (by rw [iI_eq (by omega) (by omega) (by omega) (by omega)]; omega), if_pos rfl]
              exact no (by unfold PP; simp [ce])
          · have hf2 : 0 ≤ f ∧ f < n := by
              rcases hf with h | h
              · exact absurd h cf
              · exact h
            have hb := hvp.1 f.toNat
            rw [if_pos (by rw [iI_le (by omega) (by omega) (by omega) (by omega)]; omega), chk_in (by omega) (by omega) (by omega), iI_nat (by omega) (by omega), v1 f.toNat (by omega)]
            by_cases ce : z ≤ Us n T bk D0 p f.toNat
            · rw [if_neg (by rw [iI_lt (by omega) (by omega) (by omega) (by omega)]; omega), if_neg (by decide)]
              exact yes (by unfold PP; rw [if_neg (by omega)]; simp [ce])
            · rw [if_pos (by rw [iI_lt (by omega) (by omega) (by omega) (by omega)]; omega), if_pos rfl]
              exact no (by unfold PP; rw [if_neg (by omega)]; simp [ce])
        · rw [if_pos (by rw [iI_le (by omega) (by omega) (by omega) (by omega)]; omega)]
          exact after (Or.inr (by intro h; rw [iI_eq (by omega) (by omega) (by omega) (by omega)] at h; omega))
  · rw [if_pos (by rw [iI_le (by omega) (by omega) (by omega) (by omega)]; omega), if_pos (by rw [iI_le (by omega) (by omega) (by omega) (by omega)]; omega)]
    obtain ⟨v, e, rv, ov⟩ := M_tellsWay hmt hac
    rw [e, Option.bind_some]
    refine ⟨_, some (((pth n T bk D0 a).map eWy).take 10), v, rfl, ⟨(ho.mono fun k j h => ?_).trans (ov.mono fun k j h => ?_), rv⟩, Or.inl ⟨a, H, M, by omega, by omega, hP, hall, rfl, rfl⟩⟩
    · simp only [KFw, Bool.or_eq_false_iff] at h; exact h.1
    · simp only [KFw, Bool.or_eq_false_iff] at h; exact h.2
end MFW
