section CO
variable {s t : wM} {n : Nat} {T : Nat → Nat → Bool} {S : Nat → Nat → Int} {D SP : Nat → Int} {ap fi bk : Int} {G : Nat → Int32} {w v : Int32} {pl : List PI} {kp : Nat → KI} {tx : List Nat} {se : List (Nat × Nat)} {l : List Int32}
theorem PdW.of (h : PdW s n G w) (e1 : t.1 10 = s.1 10) (e2 : t.1 7 5 = s.1 7 5) : PdW t n G w := ⟨e1.trans h.1, e2.trans h.2.1, h.2.2⟩
theorem PdM.of (h : PdM s n G w) (e1 : t.1 167 = s.1 167) (e2 : t.1 161 10 = s.1 161 10) : PdM t n G w := ⟨e1.trans h.1, e2.trans h.2⟩
theorem TxW.of (h : TxW s tx) (e1 : t.1 1 1 = s.1 1 1) (e2 : t.1 2 = s.1 2) : TxW t tx := by unfold TxW; rw [e1, e2]; exact h
theorem TxM.of (h : TxM s tx) (e1 : t.1 161 12 = s.1 161 12) (e2 : t.1 169 = s.1 169) : TxM t tx := by unfold TxM; rw [e1, e2]; exact h
theorem SeW.of (h : SeW s se) (e1 : t.1 142 0 = s.1 142 0) (e2 : t.1 143 = s.1 143) (e3 : t.1 144 = s.1 144) : SeW t se := by unfold SeW; rw [e1, e2, e3]; exact h
theorem SeM.of (h : SeM s se) (e1 : t.1 161 43 = s.1 161 43) (e2 : t.1 191 = s.1 191) (e3 : t.1 192 = s.1 192) : SeM t se := by unfold SeM; rw [e1, e2, e3]; exact h
theorem HM.lo (h : HM s n T S D SP ap fi bk G w pl kp tx se) (e : ∀ k, 161 ≤ k → t.1 k = s.1 k) : HM t n T S D SP ap fi bk G w pl kp tx se := h.of fun k j hk => congrFun (e k (by unfold cM at hk; omega)) j
theorem HW.hi (h : HW s n T S D SP ap fi bk G w pl kp tx se) (e : ∀ k, k < 161 → t.1 k = s.1 k) : HW t n T S D SP ap fi bk G w pl kp tx se := h.of fun k j hk => congrFun (e k (by unfold cW at hk; omega)) j
theorem RM.lo (h : RM s l) (e : ∀ k, 161 ≤ k → t.1 k = s.1 k) : RM t l := h.of (congrFun (e 161 (by omega)) 1) (e 162 (by omega))
theorem RW.hi (h : RW s l) (e : ∀ k, k < 161 → t.1 k = s.1 k) : RW t l := h.of (congrFun (e 32 (by omega)) 1) (e 33 (by omega))
theorem HM.thr (h : HM s n T S D SP ap fi bk G w pl kp tx se) : HM (wsI s 161 0 v) n T S D SP ap fi bk G w pl kp tx se := h.of fun k j hk => by
  by_cases e : k = 161
  · subst e; rw [rd_of (by unfold cM at hk; omega)]
  · rw [rd_ne e]
theorem RM.thr (h : RM s l) : RM (wsI s 161 0 v) l := h.of (rd_of (by decide)) (rd_ne (by decide))
theorem thr_hi (k : Nat) (hk : k < 161) : (wsI s 161 0 v).1 k = s.1 k := rd_ne (by omega)
end CO
theorem wInv_thr {s : wM} {v : Int32} (h : wInv s) : wInv (wsI s 161 0 v) := by
  obtain ⟨n, T, S, D, SP, ap, fi, bk, G, w, pl, kp, tx, se, l, hv, hw, hm, r1, r2, hl⟩ := h
  exact ⟨n, T, S, D, SP, ap, fi, bk, G, w, pl, kp, tx, se, l, hv, hw.hi thr_hi, hm.thr, r1.hi thr_hi, r2.thr, hl⟩
theorem wInv_L {s : wM} {k j : Nat} {v : Int64} (h : wInv s) : wInv (wsL s k j v) := h
section RE
variable {s t s1 s2 : wM} {n n' : Nat} {T T' : Nat → Nat → Bool} {S S' : Nat → Nat → Int} {D SP D' SP' : Nat → Int} {ap fi bk ap' fi' bk' : Int} {G G' : Nat → Int32} {w w' v : Int32} {pl pl' : List PI} {kp : Nat → KI} {tx tx' : List Nat} {se se' : List (Nat × Nat)} {l l' : List Int32}
def Lo (s t : wM) : Prop := ∀ k, 161 ≤ k → t.1 k = s.1 k
def Hi (s t : wM) : Prop := ∀ k, k < 161 → t.1 k = s.1 k
theorem Hi.thr : Hi s (wsI s 161 0 v) := thr_hi
theorem Lo.refl (s : wM) : Lo s s := fun _ _ => rfl
theorem HW.toSe (h : HW s n T S D SP ap fi bk G w pl kp tx se) (e : ∀ k, k ≠ 142 → k ≠ 143 → k ≠ 144 → t.1 k = s.1 k) (h' : SeW t se') : HW t n T S D SP ap fi bk G w pl kp tx se' :=
  ⟨h.1.of fun k j hk => congrFun (e k (by omega) (by omega) (by omega)) j, h.2.1.of (e 10 (by omega) (by omega) (by omega)) (congrFun (e 7 (by omega) (by omega) (by omega)) 5), ⟨h.2.2.1.choose, h.2.2.1.choose_spec.of fun k j hk => congrFun (e k (by omega) (by omega) (by omega)) j⟩, fun i hi => KpW.of hi _ (h.2.2.2.1 i hi) fun k j hk => congrFun (e k (by omega) (by omega) (by omega)) j, h.2.2.2.2.1.of (congrFun (e 1 (by omega) (by omega) (by omega)) 1) (e 2 (by omega) (by omega) (by omega)), h'⟩
theorem HM.toSe (h : HM s n T S D SP ap fi bk G w pl kp tx se) (e : ∀ k j, ¬ (k = 161 ∧ (j = 43 ∨ j = 0)) → k ≠ 191 → k ≠ 192 → t.1 k j = s.1 k j) (h' : SeM t se') : HM t n T S D SP ap fi bk G w pl kp tx se' :=
  ⟨h.1.of fun k j hk => e k j (by omega) (by omega) (by omega), h.2.1.of (funext fun j => e 167 j (by omega) (by omega) (by omega)) (e 161 10 (by omega) (by omega) (by omega)), h.2.2.1.of (e 161 20 (by omega) (by omega) (by omega)) (funext fun j => e 174 j (by omega) (by omega) (by omega)), fun i hi => KpM.of _ (h.2.2.2.1 i hi) (funext fun j => e 194 j (by omega) (by omega) (by omega)) (funext fun j => e 195 j (by omega) (by omega) (by omega)), h.2.2.2.2.1.of (e 161 12 (by omega) (by omega) (by omega)) (funext fun j => e 169 j (by omega) (by omega) (by omega)), h'⟩
theorem HW.toTx (h : HW s n T S D SP ap fi bk G w pl kp tx se) (e : ∀ k, k ≠ 1 → k ≠ 2 → t.1 k = s.1 k) (h' : TxW t tx') : HW t n T S D SP ap fi bk G w pl kp tx' se :=
  ⟨h.1.of fun k j hk => congrFun (e k (by omega) (by omega)) j, h.2.1.of (e 10 (by omega) (by omega)) (congrFun (e 7 (by omega) (by omega)) 5), ⟨h.2.2.1.choose, h.2.2.1.choose_spec.of fun k j hk => congrFun (e k (by omega) (by omega)) j⟩, fun i hi => KpW.of hi _ (h.2.2.2.1 i hi) fun k j hk => congrFun (e k (by omega) (by omega)) j, h', h.2.2.2.2.2.of (congrFun (e 142 (by omega) (by omega)) 0) (e 143 (by omega) (by omega)) (e 144 (by omega) (by omega))⟩
theorem HM.toTx (h : HM s n T S D SP ap fi bk G w pl kp tx se) (e : ∀ k j, ¬ (k = 161 ∧ (j = 12 ∨ j = 0)) → k ≠ 169 → t.1 k j = s.1 k j) (h' : TxM t tx') : HM t n T S D SP ap fi bk G w pl kp tx' se :=
  ⟨h.1.of fun k j hk => e k j (by omega) (by omega), h.2.1.of (funext fun j => e 167 j (by omega) (by omega)) (e 161 10 (by omega) (by omega)), h.2.2.1.of (e 161 20 (by omega) (by omega)) (funext fun j => e 174 j (by omega) (by omega)), fun i hi => KpM.of _ (h.2.2.2.1 i hi) (funext fun j => e 194 j (by omega) (by omega)) (funext fun j => e 195 j (by omega) (by omega)), h', h.2.2.2.2.2.of (e 161 43 (by omega) (by omega)) (funext fun j => e 191 j (by omega) (by omega)) (funext fun j => e 192 j (by omega) (by omega))⟩
/-- the land changed, and nothing else that is kept -/
theorem HW.cw (h : HW s n T S D SP ap fi bk G w pl kp tx se) (c : CW t n' T' S' D' SP' ap' fi' bk') (p : PdW t n' G' w') (e : ∀ k, (k = 1 ∨ k = 2 ∨ (34 ≤ k ∧ k ≤ 144) ∨ (146 ≤ k ∧ k ≤ 160)) → t.1 k = s.1 k) : HW t n' T' S' D' SP' ap' fi' bk' G' w' pl kp tx se :=
  ⟨c, p, ⟨h.2.2.1.choose, h.2.2.1.choose_spec.of fun k j hk => congrFun (e k (by omega)) j⟩, fun i hi => KpW.of hi _ (h.2.2.2.1 i hi) fun k j hk => congrFun (e k (by omega)) j, h.2.2.2.2.1.of (congrFun (e 1 (by omega)) 1) (e 2 (by omega)), h.2.2.2.2.2.of (congrFun (e 142 (by omega)) 0) (e 143 (by omega)) (e 144 (by omega))⟩
theorem HM.cm2 (h : HM s n T S D SP ap fi bk G w pl kp tx se) (c : CM t n' T' S' D' SP' ap' fi' bk') (p : PdM t n' G' w') (e : ∀ k j, (k = 161 ∧ (j = 12 ∨ j = 20 ∨ j = 43)) ∨ k = 169 ∨ k = 174 ∨ k = 191 ∨ k = 192 ∨ k = 194 ∨ k = 195 → t.1 k j = s.1 k j) : HM t n' T' S' D' SP' ap' fi' bk' G' w' pl kp tx se :=
  ⟨c, p, h.2.2.1.of (e 161 20 (by omega)) (funext fun j => e 174 j (by omega)), fun i hi => KpM.of _ (h.2.2.2.1 i hi) (funext fun j => e 194 j (by omega)) (funext fun j => e 195 j (by omega)), h.2.2.2.2.1.of (e 161 12 (by omega)) (funext fun j => e 169 j (by omega)), h.2.2.2.2.2.of (e 161 43 (by omega)) (funext fun j => e 191 j (by omega)) (funext fun j => e 192 j (by omega))⟩
theorem wInv_mk (hv : HV n T S D SP ap fi bk pl kp tx se) (hw : HW s1 n T S D SP ap fi bk G w pl kp tx se) (hi : Hi s1 s2) (hm : HM s2 n T S D SP ap fi bk G w pl kp tx se) (r1 : RW s1 l) (r2 : RM s2 l) (hl : l.length ≤ 10) : wInv s2 := ⟨n, T, S, D, SP, ap, fi, bk, G, w, pl, kp, tx, se, l, hv, hw.hi hi, hm, r1.hi hi, r2, hl⟩
end RE
