section OP15
variable {s t u : wM} {o : Option (List Int32)}
theorem MR.mq (hz : ZM s) (h : MR (wsI s 161 0 (iI 0)) t o) : MQn s t o := by
  cases o with
  | none =>
    have h' : Off KFu (wsI s 161 0 (iI 0)) t := h
    refine ⟨((Off.refl s).set rfl).trans (h'.mono fun k j hk => ?_), fun j hj => ?_⟩
    · simp only [KMq, KFu, Bool.or_eq_false_iff, Bool.and_eq_false_iff, decide_eq_false_iff_not, beq_eq_false_iff_ne] at hk ⊢; omega
    · rw [h' 184 j (by simp [KFu]; omega), h' 187 j rfl, rd_ne (by decide), rd_ne (by decide)]; exact hz j hj
  | some l =>
    obtain ⟨h', r⟩ := h
    refine ⟨((Off.refl s).set rfl).trans (h'.mono fun k j hk => ?_), fun j hj => ?_, r⟩
    · simp only [KMr, KMq, KFw, KFu, KTm, Bool.or_eq_false_iff, Bool.and_eq_false_iff, decide_eq_false_iff_not, beq_eq_false_iff_ne] at hk ⊢; omega
    · rw [h' 184 j (by simp [KFw, KFu, KTm]; omega), h' 187 j rfl, rd_ne (by decide), rd_ne (by decide)]; exact hz j hj
end OP15
theorem op15 : op_15 wInv := fun s hI => by
  obtain ⟨n, T, S, D, SP, ap, fi, bk, G, w, pl, kp, tx, se, l, hv, hw, hm, r1, r2, hl⟩ := id hI
  have hap : 0 ≤ ap ∧ ap ≤ 9 := by have := hv.1.2.2.2.2.2.1; omega
  obtain ⟨r, o, t, e, q, a⟩ := W_fewestSuch hv.1 hw.1 (f := -1) (z := 0) (Or.inl rfl) (by omega)
  have hmt := (hm.byW q.off.1).1
  obtain ⟨r', o', u, e', mr, a'⟩ := M_fewestTo (s := wsI t 161 0 (iI 0)) (f := -1) (z := 0) hv.1.1 hv.1.2.2.2.2.2.2.2 hap hv.1.2.1 (hmt.1.of (rd_of (by decide)) (rd_ne (by decide)) (rd_ne (by decide))) (by rw [rd_ne (by decide)]; exact hmt.2.2.2.1) (by rw [rd_ne (by decide)]; exact hmt.2.2.2.2.2.1) (fun j _ => by rw [rd_ne (by decide), show t.1 163 = _ from hmt.2.1]) (Or.inl rfl) (by omega)
  obtain ⟨rfl, rfl⟩ := ANS_uni a a'
  refine ⟨r', t, u, ?_, ?_, wInv_q hI q (mr.mq hmt.2.2.2.2.2.2)⟩
  · unfold fW_fewest; rw [e]; rfl
  · unfold fM_fewest; rw [nmM_e, e']; rfl
