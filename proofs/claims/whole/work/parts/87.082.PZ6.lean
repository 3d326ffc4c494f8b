section RM
variable {s t : wM} {n : Nat} {T : Nat → Nat → Bool} {S : Nat → Nat → Int} {D SP : Nat → Int} {ap fi bk : Int}
theorem M_reach (hv : CV n T S D SP ap fi bk) (hm : CM s n T S D SP ap fi bk) {x : Nat} (hx : x ≤ 4) : ∃ t, fM_reach s (iI (x : Int)) = some ((rE n T ap bk D x).1, t) ∧ MQn s t (rE n T ap bk D x).2 := by
  have hn := hv.1.1
  have hS := hv.1
  have hbk := hv.2.2.2.2.2.2.2
  have hap : 0 ≤ ap ∧ ap ≤ 9 := by have := hv.2.2.2.2.2.1; omega
  have hg : ∀ i, 0 ≤ gE n T ap bk D i ∧ gE n T ap bk D i ≤ 36 := fun i => ep_36 hS ap _
  have hL : LM (wsI s 161 0 (iI 0)) n T S := hm.1.of (rd_of (by decide)) (rd_ne (by decide)) (rd_ne (by decide))
  have h168 : ∀ j, (wsI s 161 0 (iI 0)).1 168 j = s.1 168 j := fun j => by rw [rd_ne (by decide)]
  obtain ⟨u, ou, hcs⟩ := M_findsAll hS hbk hv.2.1 hL (by rw [h168]; exact hm.2.2.2.2.2.1) (k := 163) (X := x) (by omega) (fun j _ => by rw [rd_ne (by decide), show s.1 163 = _ from hm.2.1]) (by decide) (by omega)
  unfold fM_reach
  rw [nmM_e, M_in, Option.bind_some, iL (by omega) (by omega), if_neg (by rw [bI_0]; simp only [show (0 : Int64).toInt = 0 from rfl, show (4 : Int64).toInt = 4 from rfl]; simp; omega)]
  rcases hcs with ⟨e2, σ, hmt⟩ | ⟨e2, hbig⟩
  · have hc3 := hmt.1
    have hrE : rE n T ap bk D x = (iI (Eb n T bk D (x + 1) : Int), some [iI (gC n T ap bk D (Eb n T bk D (x + 1)) : Int), iI (mF (gE n T ap bk D) 36 (Eb n T bk D (x + 1)))]) := by unfold rE; rw [if_neg (by omega)]
    rw [hrE, e2, Option.bind_some]
    dsimp only
    rw [if_neg (by decide)]
    have hvs : ∀ i, i < Eb n T bk D (x + 1) → VS n D (Us n T bk D i) := fun i hi => (U_ok hS (by omega) hv.2.1 (Eb n T bk D x) 0).1 i hi
    have hpos : 1 ≤ Eb n T bk D (x + 1) := cG_pos
    generalize Eb n T bk D (x + 1) = c at *
    refine wh4_w (Q := fun y => ∃ t, y = some (iI (c : Int), t) ∧ MQn s t (some [iI (gC n T ap bk D c : Int), iI (mF (gE n T ap bk D) 36 c)])) (fun m x y z v => ∃ (i : Nat), i ≤ c ∧ m = c - i ∧ x = iI (gC n T ap bk D i : Int) ∧ y = iI (mF (gE n T ap bk D) 2147483647 i) ∧ z = iI (i : Int) ∧ Off KFu (wsI s 161 0 (iI 0)) v ∧ MT v n T bk D σ c) ?_ 100000 c _ _ _ _ (by omega) ⟨0, by omega, rfl, rfl, rfl, rfl, ou, hmt⟩
    rintro m x' y z v ⟨i, hi, rfl, rfl, rfl, rfl, hov, hmtv⟩ k hk
    have hgi := hg i
    have hm2 := mF_bd hg (a := 2147483647) (by omega) (by omega) i
    unfold fM_reach_L43
    rw [hmtv.2.1]
    by_cases c1 : i < c
    · obtain ⟨v', e1, v1, ov, ov2⟩ := M_unpacks hn (hL.fu hov).1 (show i < 3000 by omega) (hvs i c1).bn (hmtv.2.2.1 i c1)
      have hmtv' : MT v' n T bk D σ c := hmtv.of (ov _ _ rfl) (ov.row fun j => rfl) (ov.row fun j => rfl) (ov.row fun j => rfl) (ov.row fun j => rfl) ov2
      have hov' := hov.trans (KU.fu ov)
      rw [if_neg (by rw [iI_le (by omega) (by omega) (by omega) (by omega)]; omega), e1, Option.bind_some, M_evenPairs' hS (hL.fu hov') v1 (hvs i c1).bn (by rw [hov' 168 0 rfl, h168]; exact hm.2.2.2.1) hap, Option.bind_some]
      unfold fM_reach_J79
      rw [show ep n T ap (Us n T bk D i) = gE n T ap bk D i from rfl, iMin_i (by omega) (by omega) (by omega) (by omega), iI_add]
      have hs := gC_s (n := n) (T := T) (ap := ap) (bk := bk) D i
      by_cases ce : gE n T ap bk D i = 0
      · rw [if_pos (by rw [ce]), show fM_flag v' (iI 1) = some (iI 1) from rfl, Option.bind_some, iI_add]
        rw [if_pos ce] at hs
        exact hk (c - (i + 1)) _ _ _ _ (by omega) ⟨i + 1, by omega, rfl, iI_congr (by omega), rfl, by simp, hov', hmtv'⟩
      · rw [if_neg (by rw [iI_eq (by omega) (by omega) (by omega) (by omega)]; omega), show fM_flag v' (iI 0) = some (iI 0) from rfl, Option.bind_some, iI_add]
        rw [if_neg ce] at hs
        exact hk (c - (i + 1)) _ _ _ _ (by omega) ⟨i + 1, by omega, rfl, iI_congr (by omega), rfl, by simp, hov', hmtv'⟩
    · have : i = c := by omega
      subst this
      obtain ⟨q, rfl⟩ : ∃ q, i = q + 1 := ⟨i - 1, by omega⟩
      rw [if_pos (by rw [iI_le (by omega) (by omega) (by omega) (by omega)]; omega), nmM_e, ← mF_eq hg q]
      obtain ⟨w1, e1, r1, o1⟩ := M_enters (s := wsI v 161 1 (iI 0)) (v := iI (gC n T ap bk D (q + 1) : Int)) M_rows0 (by simp)
      obtain ⟨w2, e3, r2, o2⟩ := M_enters (v := iI (mF (gE n T ap bk D) 36 (q + 1))) r1 (by simp)
      rw [e1, Option.bind_some, e3, Option.bind_some, o2 161 34 rfl, o1 161 34 rfl, rd_of (by decide), hmtv.2.1]
      refine ⟨w2, rfl, MR.mq (o := some [iI (gC n T ap bk D (q + 1) : Int), iI (mF (gE n T ap bk D) 36 (q + 1))]) hm.2.2.2.2.2.2 ⟨?_, r2⟩⟩
      have o3 : Off KTm v w2 := (((Off.refl v).set rfl).trans (KMn.tm o1)).trans (KMn.tm o2)
      refine (hov.mono fun k j h => ?_).trans (o3.mono fun k j h => ?_)
      · simp only [KFw, Bool.or_eq_false_iff] at h; exact h.1
      · simp only [KFw, Bool.or_eq_false_iff] at h; exact h.2
  · have hrE : rE n T ap bk D x = (iI (-3), none) := by unfold rE; rw [if_pos hbig]
    rw [hrE, e2, Option.bind_some]
    dsimp only
    rw [if_pos rfl]
    exact ⟨u, rfl, MR.mq (o := none) hm.2.2.2.2.2.2 ou⟩
end RM
theorem op16 : op_16 wInv := fun s a1 hI => by
  obtain ⟨n, T, S, D, SP, ap, fi, bk, G, w, pl, kp, tx, se, l, hv, hw, hm, r1, r2, hl⟩ := id hI
  obtain ⟨x, x1, x2, rfl⟩ := exI a1
  by_cases c1 : 0 ≤ x ∧ x ≤ 4
  · obtain ⟨a, rfl⟩ : ∃ g : Nat, x = g := ⟨x.toNat, by omega⟩
    obtain ⟨t, e, q⟩ := W_reach hv.1 hw.1 (x := a) (by omega)
    obtain ⟨u, e', q'⟩ := M_reach hv.1 (hm.byW q.off.1).1 (x := a) (by omega)
    exact ⟨_, t, u, e, e', wInv_q hI q q'⟩
  · refine ⟨iI (-1), s, wsI s 161 0 (iI 0), ?_, ?_, wInv_thr hI⟩
    · unfold fW_reach
      rw [W_isWithin x1 x2 (by omega) (by omega) (by omega) (by omega), Option.bind_some, if_pos (by rw [bI_0]; simp; omega)]
    · unfold fM_reach
      rw [nmM_e, M_in, Option.bind_some, iL x1 x2, if_pos (by rw [bI_0]; simp only [show (0 : Int64).toInt = 0 from rfl, show (4 : Int64).toInt = 4 from rfl]; simp; omega)]
