theorem op20 : op_20 wInv := fun s a1 a2 hI => by
  obtain ⟨n, T, S, D, SP, ap, fi, bk, G, w, pl, kp, tx, se, l, hv, hw, hm, r1, r2, hl⟩ := id hI
  obtain ⟨f, f1, f2, rfl⟩ := exI a1
  obtain ⟨z, z1, z2, rfl⟩ := exI a2
  have hn := hv.1.1.1
  have hap : 0 ≤ ap ∧ ap ≤ 9 := by have := hv.1.2.2.2.2.2.1; omega
  have wE : fW_fill s (iI f) (iI z) = if 0 ≤ f ∧ f < n then (if 0 ≤ z ∧ z ≤ 99 then fW_fewestSuch s (iI f) (iI z) else some (iI (-1), s)) else some (iI (-1), s) := by
    unfold fW_fill fW_fill_J21
    rw [Land_has hn hw.1.1 f1 f2, Option.bind_some, W_isWithin z1 z2 (by omega) (by omega) (by omega) (by omega), Option.bind_some]
    simp only [bI_0, decide_eq_false_iff_not]
    by_cases c1 : 0 ≤ f ∧ f < n
    · rw [if_neg (by simpa using c1), if_pos c1]
      by_cases c2 : 0 ≤ z ∧ z ≤ 99
      · rw [if_neg (by simpa using c2), if_pos c2]
        cases fW_fewestSuch s (iI f) (iI z) <;> rfl
      · rw [if_pos c2, if_neg c2]
    · rw [if_pos c1, if_neg c1]
  have mE : ∀ t : wM, LM t n T S → fM_fill t (iI f) (iI z) = if 0 ≤ f ∧ f < n then (if 0 ≤ z ∧ z ≤ 99 then fM_fewestTo (wsI t 161 0 (iI 0)) (iI f) (iI z) else some (iI (-1), wsI t 161 0 (iI 0))) else some (iI (-1), wsI t 161 0 (iI 0)) := fun t hL => by
    unfold fM_fill fM_fill_J34 fM_fill_J35
    rw [nmM_e, M_isFarm hn (hL.of (rd_of (by decide)) (rd_ne (by decide)) (rd_ne (by decide))) f1 f2, Option.bind_some, M_in, Option.bind_some, iL z1 z2]
    simp only [bI_0, decide_eq_false_iff_not, show (0 : Int64).toInt = 0 from rfl, show (99 : Int64).toInt = 99 from rfl]
    by_cases c1 : 0 ≤ f ∧ f < n
    · rw [if_neg (by simpa using c1), if_pos c1]
      by_cases c2 : 0 ≤ z ∧ z ≤ 99
      · rw [if_neg (by simpa using c2), if_pos c2]
        cases fM_fewestTo (wsI s 161 0 (iI 0)) (iI f) (iI z) <;> cases fM_fewestTo (wsI t 161 0 (iI 0)) (iI f) (iI z) <;> rfl
      · rw [if_pos c2, if_neg c2]
    · rw [if_pos c1, if_neg c1]
  by_cases c1 : 0 ≤ f ∧ f < n
  · by_cases c2 : 0 ≤ z ∧ z ≤ 99
    · rw [if_pos c1, if_pos c2] at wE
      obtain ⟨r, o, t, e, q, a⟩ := W_fewestSuch hv.1 hw.1 (f := f) (z := z) (Or.inr c1) c2
      have hmt := (hm.byW q.off.1).1
      have mE' := mE t hmt.1
      rw [if_pos c1, if_pos c2] at mE'
      obtain ⟨r', o', u, e', mr, a'⟩ := M_fewestTo (s := wsI t 161 0 (iI 0)) (f := f) (z := z) hv.1.1 hv.1.2.2.2.2.2.2.2 hap hv.1.2.1 (hmt.1.of (rd_of (by decide)) (rd_ne (by decide)) (rd_ne (by decide))) (by rw [rd_ne (by decide)]; exact hmt.2.2.2.1) (by rw [rd_ne (by decide)]; exact hmt.2.2.2.2.2.1) (fun j _ => by rw [rd_ne (by decide), show t.1 163 = _ from hmt.2.1]) (Or.inr c1) c2
      obtain ⟨rfl, rfl⟩ := ANS_uni a a'
      exact ⟨r', t, u, wE.trans e, mE'.trans e', wInv_q hI q (mr.mq hmt.2.2.2.2.2.2)⟩
    · rw [if_pos c1, if_neg c2] at wE
      have mE' := mE s hm.1.1
      rw [if_pos c1, if_neg c2] at mE'
      exact ⟨_, _, _, wE, mE', wInv_thr hI⟩
  · rw [if_neg c1] at wE
    have mE' := mE s hm.1.1
    rw [if_neg c1] at mE'
    exact ⟨_, _, _, wE, mE', wInv_thr hI⟩
