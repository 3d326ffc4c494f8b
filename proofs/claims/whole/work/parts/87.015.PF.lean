def cW : Nat → Nat → Prop := fun k j => k = 1 ∨ k = 2 ∨ k = 7 ∨ (8 ≤ k ∧ k ≤ 12) ∨ ((k = 14 ∨ k = 15) ∧ 9 ≤ j) ∨ (34 ≤ k ∧ k ≤ 144) ∨ (146 ≤ k ∧ k ≤ 160)
def cM : Nat → Nat → Prop := fun k j => (k = 161 ∧ (j = 3 ∨ j = 10 ∨ j = 12 ∨ j = 20 ∨ j = 43)) ∨ (163 ≤ k ∧ k ≤ 169) ∨ k = 174 ∨ ((k = 184 ∨ k = 187) ∧ 9 ≤ j) ∨ k = 191 ∨ k = 192 ∨ k = 194 ∨ k = 195
section FR
variable {s t : wM} {n : Nat} {T : Nat → Nat → Bool} {S : Nat → Nat → Int} {D SP : Nat → Int} {ap fi bk : Int} {G : Nat → Int32} {w : Int32} {pl : List PI} {kp : Nat → KI} {tx : List Nat} {se : List (Nat × Nat)}
theorem SnW.of {k : Nat} {x : PI} (h : SnW s k x) (e : ∀ j, t.1 (k + 1) j = s.1 (k + 1) j ∧ t.1 (k + 3) j = s.1 (k + 3) j ∧ t.1 k j = s.1 k j) : SnW t k x := ⟨fun f hf => by rw [(e f).1]; exact h.1 f hf, fun f hf => by rw [(e f).2.1]; exact h.2.1 f hf, by rw [(e 4).2.2]; exact h.2.2⟩
theorem SnM.of {i : Nat} {x : PI} (h : SnM s i x) (e : t.1 174 = s.1 174) : SnM t i x := by unfold SnM; rw [e]; exact h
theorem CW.of (h : CW s n T S D SP ap fi bk) (e : ∀ k j, (k = 7 ∧ j = 4) ∨ (8 ≤ k ∧ k ≤ 12 ∧ k ≠ 10) ∨ ((k = 14 ∨ k = 15) ∧ 9 ≤ j) → t.1 k j = s.1 k j) : CW t n T S D SP ap fi bk := by
  obtain ⟨h1, h2, h3, h4, h5, h6, h7⟩ := h
  refine ⟨h1.of (e 7 4 (by simp)) (funext fun j => e 12 j (by simp)), h2.of (funext fun j => e 8 j (by simp)), h3.of (funext fun j => e 9 j (by simp)), ?_, ?_, ?_, fun j hj => ?_⟩
  · rw [e 11 0 (by simp)]; exact h4
  · rw [e 11 1 (by simp)]; exact h5
  · rw [e 11 2 (by simp)]; exact h6
  · rw [e 14 j (by simp [hj]), e 15 j (by simp [hj])]; exact h7 j hj
theorem CM.of (h : CM s n T S D SP ap fi bk) (e : ∀ k j, (k = 161 ∧ j = 3) ∨ (163 ≤ k ∧ k ≤ 168 ∧ k ≠ 167) ∨ ((k = 184 ∨ k = 187) ∧ 9 ≤ j) → t.1 k j = s.1 k j) : CM t n T S D SP ap fi bk := by
  obtain ⟨h1, h2, h3, h4, h5, h6, h7⟩ := h
  refine ⟨h1.of (e 161 3 (by simp)) (funext fun j => e 165 j (by simp)) (funext fun j => e 166 j (by simp)), h2.of (funext fun j => e 163 j (by simp)), h3.of (funext fun j => e 164 j (by simp)), ?_, ?_, ?_, fun j hj => ?_⟩
  · rw [e 168 0 (by simp)]; exact h4
  · rw [e 168 1 (by simp)]; exact h5
  · rw [e 168 2 (by simp)]; exact h6
  · rw [e 184 j (by simp [hj]), e 187 j (by simp [hj])]; exact h7 j hj
theorem PaW.of {nt : Nat} (h : PaW s nt pl) (e : ∀ k j, k = 34 ∨ (36 ≤ k ∧ k ≤ 140) → t.1 k j = s.1 k j) : PaW t nt pl := by
  obtain ⟨h1, h2, h3, h4⟩ := h
  refine ⟨h1, by rw [e 34 0 (by simp)]; exact h2, by rw [e 34 2 (by simp)]; exact h3, fun i hi => (h4 i hi).of fun j => ?_⟩
  have : (nt + 21 - pl.length + i) % 21 < 21 := Nat.mod_lt _ (by omega)
  exact ⟨e _ _ (by omega), e _ _ (by omega), e _ _ (by omega)⟩
theorem PaM.of (h : PaM s pl) (e1 : t.1 161 20 = s.1 161 20) (e : t.1 174 = s.1 174) : PaM t pl := ⟨by rw [e1]; exact h.1, fun i hi => (h.2 i hi).of e⟩
theorem KpW.of {i : Nat} (hi : i < 3) (x : KI) (h : KpW s i x) (e : ∀ k j, 146 ≤ k ∧ k ≤ 160 → t.1 k j = s.1 k j) : KpW t i x := by
  cases x with
  | none => show t.1 _ 5 = _; rw [e _ _ (by omega)]; exact h
  | some x =>
    obtain ⟨m, x, SP, ap, fi, bk⟩ := x
    obtain ⟨h1, h2, h3, h4, h5, h6⟩ := h
    refine ⟨by rw [e _ _ (by omega)]; exact h1, h2.of fun j => ⟨e _ _ (by omega), e _ _ (by omega), e _ _ (by omega)⟩, fun f hf => by rw [e _ _ (by omega)]; exact h3 f hf, ?_, ?_, ?_⟩
    · rw [e _ _ (by omega)]; exact h4
    · rw [e _ _ (by omega)]; exact h5
    · rw [e _ _ (by omega)]; exact h6
theorem KpM.of {i : Nat} (x : KI) (h : KpM s i x) (e : t.1 194 = s.1 194) (e2 : t.1 195 = s.1 195) : KpM t i x := by
  cases x with
  | none => show t.1 194 i = _; rw [e]; exact h
  | some x =>
    obtain ⟨m, x, SP, ap, fi, bk⟩ := x
    unfold KpM at h ⊢
    simp only at h ⊢
    rw [e, e2]; exact h
theorem HW.of (h : HW s n T S D SP ap fi bk G w pl kp tx se) (e : ∀ k j, cW k j → t.1 k j = s.1 k j) : HW t n T S D SP ap fi bk G w pl kp tx se := by
  obtain ⟨h1, ⟨p1, p2, p3⟩, ⟨nt, h3⟩, h4, ⟨x1, x2⟩, ⟨y1, y2⟩⟩ := h
  refine ⟨h1.of fun k j hk => e k j (by unfold cW; omega), ⟨?_, ?_, p3⟩, ⟨nt, h3.of fun k j hk => e k j (by unfold cW; omega)⟩, fun i hi => KpW.of hi _ (h4 i hi) fun k j hk => e k j (by unfold cW; omega), ⟨?_, fun i hi => ?_⟩, ⟨?_, fun i hi => ?_⟩⟩
  · rw [← p1]; exact funext fun j => e 10 j (by unfold cW; omega)
  · rw [← p2]; exact e 7 5 (by unfold cW; omega)
  · rw [e 1 1 (by unfold cW; omega)]; exact x1
  · rw [e 2 i (by unfold cW; omega)]; exact x2 i hi
  · rw [e 142 0 (by unfold cW; omega)]; exact y1
  · rw [e 143 i (by unfold cW; omega), e 144 i (by unfold cW; omega)]; exact y2 i hi
theorem HM.of (h : HM s n T S D SP ap fi bk G w pl kp tx se) (e : ∀ k j, cM k j → t.1 k j = s.1 k j) : HM t n T S D SP ap fi bk G w pl kp tx se := by
  obtain ⟨h1, ⟨p1, p2⟩, h3, h4, ⟨x1, x2⟩, ⟨y1, y2⟩⟩ := h
  refine ⟨h1.of fun k j hk => e k j (by unfold cM; omega), ⟨?_, ?_⟩, h3.of (e 161 20 (by unfold cM; omega)) (funext fun j => e 174 j (by unfold cM; omega)), fun i hi => KpM.of _ (h4 i hi) (funext fun j => e 194 j (by unfold cM; omega)) (funext fun j => e 195 j (by unfold cM; omega)), ⟨?_, fun i hi => ?_⟩, ⟨?_, fun i hi => ?_⟩⟩
  · rw [← p1]; exact funext fun j => e 167 j (by unfold cM; omega)
  · rw [← p2]; exact e 161 10 (by unfold cM; omega)
  · rw [e 161 12 (by unfold cM; omega)]; exact x1
  · rw [e 169 i (by unfold cM; omega)]; exact x2 i hi
  · rw [e 161 43 (by unfold cM; omega)]; exact y1
  · rw [e 191 i (by unfold cM; omega), e 192 i (by unfold cM; omega)]; exact y2 i hi
theorem RW.of {l : List Int32} (h : RW s l) (e : t.1 32 1 = s.1 32 1) (e' : t.1 33 = s.1 33) : RW t l := by unfold RW; rw [e, e']; exact h
theorem RM.of {l : List Int32} (h : RM s l) (e : t.1 161 1 = s.1 161 1) (e' : t.1 162 = s.1 162) : RM t l := by unfold RM; rw [e, e']; exact h
theorem KWr_f {k j : Nat} (h : KWr k j = true) : (3 ≤ k ∧ k ≤ 6) ∨ (13 ≤ k ∧ k ≤ 33) ∨ k = 145 := by
  simp only [KWr, KWq, Bool.or_eq_true, Bool.and_eq_true, decide_eq_true_eq, beq_iff_eq] at h; omega
theorem KMr_f {k j : Nat} (h : KMr k j = true) : (k = 161 ∧ (j = 0 ∨ j = 1 ∨ j = 13 ∨ j = 14 ∨ j = 15 ∨ j = 25 ∨ j = 27 ∨ j = 34 ∨ j = 35 ∨ j = 37)) ∨ k = 162 ∨ (170 ≤ k ∧ k ≤ 173) ∨ (175 ≤ k ∧ k ≤ 190) ∨ k = 193 ∨ k = 196 := by
  simp only [KMr, KMq, Bool.or_eq_true, Bool.and_eq_true, decide_eq_true_eq, beq_iff_eq] at h; omega
theorem Off.atW (o : Off KWr s t) {k j : Nat} (h : ¬ ((3 ≤ k ∧ k ≤ 6) ∨ (13 ≤ k ∧ k ≤ 33) ∨ k = 145)) : t.1 k j = s.1 k j := o k j (by
  cases e : KWr k j with
  | false => rfl
  | true => exact absurd (KWr_f e) h)
theorem Off.atM (o : Off KMr s t) {k j : Nat} (h : ¬ ((k = 161 ∧ (j = 0 ∨ j = 1 ∨ j = 13 ∨ j = 14 ∨ j = 15 ∨ j = 25 ∨ j = 27 ∨ j = 34 ∨ j = 35 ∨ j = 37)) ∨ k = 162 ∨ (170 ≤ k ∧ k ≤ 173) ∨ (175 ≤ k ∧ k ≤ 190) ∨ k = 193 ∨ k = 196)) : t.1 k j = s.1 k j := o k j (by
  cases e : KMr k j with
  | false => rfl
  | true => exact absurd (KMr_f e) h)
theorem HW.q (h : HW s n T S D SP ap fi bk G w pl kp tx se) (o : Off KWr s t) (z : ZW t) : HW t n T S D SP ap fi bk G w pl kp tx se := by
  have z0 : ZW s := h.1.2.2.2.2.2.2
  refine h.of fun k j hk => ?_
  by_cases h9 : (k = 14 ∨ k = 15) ∧ 9 ≤ j
  · obtain ⟨rfl | rfl, h9⟩ := h9
    · rw [(z j h9).1, (z0 j h9).1]
    · rw [(z j h9).2, (z0 j h9).2]
  · exact o.atW (by unfold cW at hk; omega)
theorem HM.q (h : HM s n T S D SP ap fi bk G w pl kp tx se) (o : Off KMr s t) (z : ZM t) : HM t n T S D SP ap fi bk G w pl kp tx se := by
  have z0 : ZM s := h.1.2.2.2.2.2.2
  refine h.of fun k j hk => ?_
  by_cases h9 : (k = 184 ∨ k = 187) ∧ 9 ≤ j
  · obtain ⟨rfl | rfl, h9⟩ := h9
    · rw [(z j h9).1, (z0 j h9).1]
    · rw [(z j h9).2, (z0 j h9).2]
  · exact o.atM (by unfold cM at hk; omega)
theorem HM.byW (h : HM s n T S D SP ap fi bk G w pl kp tx se) (o : Off KWr s t) : HM t n T S D SP ap fi bk G w pl kp tx se := h.of fun k j hk => o.atW (by unfold cM at hk; omega)
theorem HW.byM (h : HW s n T S D SP ap fi bk G w pl kp tx se) (o : Off KMr s t) : HW t n T S D SP ap fi bk G w pl kp tx se := h.of fun k j hk => o.atM (by unfold cW at hk; omega)
/-- what an asking call of the program, and of the model, leaves; its row, if it tells one -/
def WQ (s t : wM) : Option (List Int32) → Prop
  | none => Off KWq s t ∧ ZW t
  | some l => Off KWr s t ∧ ZW t ∧ RW t l ∧ l.length ≤ 10
def MQn (s t : wM) : Option (List Int32) → Prop
  | none => Off KMq s t ∧ ZM t
  | some l => Off KMr s t ∧ ZM t ∧ RM t l
theorem WQ.off {o : Option (List Int32)} (h : WQ s t o) : Off KWr s t ∧ ZW t := by
  cases o with
  | none => exact ⟨h.1.mono fun k j hk => by simp only [KWr, Bool.or_eq_false_iff] at hk; exact hk.1.1, h.2⟩
  | some l => exact ⟨h.1, h.2.1⟩
theorem MQn.off {o : Option (List Int32)} (h : MQn s t o) : Off KMr s t ∧ ZM t := by
  cases o with
  | none => exact ⟨h.1.mono fun k j hk => by simp only [KMr, Bool.or_eq_false_iff] at hk; exact hk.1.1, h.2⟩
  | some l => exact ⟨h.1, h.2.1⟩
end FR
theorem wInv_q {s s1 s2 : wM} {o : Option (List Int32)} (h : wInv s) (h1 : WQ s s1 o) (h2 : MQn s1 s2 o) : wInv s2 := by
  obtain ⟨n, T, S, D, SP, ap, fi, bk, G, w, pl, kp, tx, se, l, hv, hw, hm, rw0, rm0, hl⟩ := h
  have o1 := h1.off
  have o2 := h2.off
  have hw2 := (hw.q o1.1 o1.2).byM o2.1
  have hm2 := (hm.byW o1.1).q o2.1 o2.2
  cases o with
  | none => exact ⟨n, T, S, D, SP, ap, fi, bk, G, w, pl, kp, tx, se, l, hv, hw2, hm2, rw0.of (by rw [o2.1.atM (by omega), h1.1 32 1 rfl]) (funext fun j => by rw [o2.1.atM (by omega), h1.1 33 j rfl]), rm0.of (by rw [h2.1 161 1 rfl, o1.1.atW (by omega)]) (funext fun j => by rw [h2.1 162 j rfl, o1.1.atW (by omega)]), hl⟩
  | some l' => exact ⟨n, T, S, D, SP, ap, fi, bk, G, w, pl, kp, tx, se, l', hv, hw2, hm2, h1.2.2.1.of (by rw [o2.1.atM (by omega)]) (funext fun j => by rw [o2.1.atM (by omega)]), h2.2.2, h1.2.2.2⟩
