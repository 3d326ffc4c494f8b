section P2L
variable {s t : wM} {ρ A B : Type}
def F2L (s : wM) (o : Option wM) : Prop := ∀ t, o = some t → t.2 = s.2
theorem F2L.none : F2L s none := fun t h => by cases h
theorem F2L.some (h : t.2 = s.2) : F2L s (some t) := fun t' e => by cases e; exact h
theorem F2L.ck {i : Int32} {n : Nat} {k : Option wM} (h : F2L s k) : F2L s (chk i n k) := by unfold chk; split; exact F2L.none; exact h
theorem F2L.ckD {i : Int32} {k : Option wM} (h : F2L s k) : F2L s (chkD i k) := by unfold chkD; split; exact F2L.none; exact h
theorem F2L.ckZ {i : Int32} {k : Option wM} (h : F2L s k) : F2L s (chkZ i k) := by unfold chkZ; split; exact h; exact F2L.none
theorem F2L.ite {c : Prop} [Decidable c] {a b : Option wM} (h1 : F2L s a) (h2 : F2L s b) : F2L s (if c then a else b) := by split; exact h1; exact h2
theorem F2L.bind {o : Option wM} {k : wM → Option wM} (h1 : F2L s o) (h2 : ∀ t, t.2 = s.2 → F2L s (k t)) : F2L s (o.bind k) := by
  cases o with
  | none => exact F2L.none
  | some t => exact h2 t (h1 t rfl)
theorem ms2 {u : wM} (hu : u.2 = s.2) : F2L s (fAh_measureSeep u) := by
  unfold fAh_measureSeep
  simp only [nmM]
  refine wh2_p (fun _ b => b.2 = s.2) F2L.none (fun a b k hb hk => ?_) _ _ _ hu
  have J : ∀ v, F2L s (fAh_measureSeep_J63 k a v b) := fun v => by
    unfold fAh_measureSeep_J63 fAh_measureSeep_J94
    simp only [nmM]
    refine F2L.ck (F2L.ite (F2L.ck (hk _ _ ?_)) (F2L.ck (hk _ _ ?_))) <;> (exact hb)
  unfold fAh_measureSeep_L10
  exact F2L.ite (F2L.some hb) (F2L.ck (F2L.ite (J _) (F2L.ck (F2L.ck (F2L.ckD (J _))))))
theorem ls2 {u : wM} (hu : u.2 = s.2) : F2L s (fAh_letSeep u) := by
  unfold fAh_letSeep
  refine wh2_p (fun _ b => b.2 = s.2) F2L.none (fun a b k hb hk => ?_) _ _ _ hu
  unfold fAh_letSeep_L2
  refine F2L.ite ?_ (F2L.ck ?_)
  · refine wh2_p (fun _ b => b.2 = s.2) F2L.none (fun a b k hb hk => ?_) _ _ _ hb
    have J : ∀ v, F2L s (fAh_letSeep_J85 k a v b) := fun v => by
      unfold fAh_letSeep_J85 fAh_letSeep_J130
      simp only [nmM]
      refine F2L.ck (F2L.ite (hk _ _ hb) (F2L.ck (F2L.ck (F2L.ck (hk _ _ ?_)))))
      exact hb
    unfold fAh_letSeep_L49
    exact F2L.ite (F2L.some hb) (F2L.ck (F2L.ite (J _) (J _)))
  · unfold fAh_letSeep_J40
    simp only [nmM]
    refine F2L.ite (F2L.ck (hk _ _ ?_)) (F2L.ck (hk _ _ ?_)) <;> (exact hb)
theorem pass2 {x y : Int32} : F2L s (fAh_pass s x y) := by
  have J50 : ∀ v u, u.2 = s.2 → F2L s (fAh_pass_J50 x y v u) := fun v u hu => by
    unfold fAh_pass_J50
    simp only [nmM]
    refine F2L.ckZ (wh2_p (fun _ b => b.2 = s.2) F2L.none (fun a b k hb hk => ?_) _ _ _ (by exact hu))
    have J150 : ∀ v u, u.2 = s.2 → F2L s (fAh_pass_J150 k x y a v u) := fun v u hu => by
      unfold fAh_pass_J150
      simp only [nmM]
      exact F2L.ckZ (hk _ _ (by exact hu))
    have J90 : ∀ v w, F2L s (fAh_pass_J90 k x y a v w b) := fun v w => by
      unfold fAh_pass_J90 fAh_pass_J149 fW_putToDepth
      simp only [nmM, Option.bind_some]
      have h2 : ∀ z z' : Int32, ∀ q : Nat, (wsI (wsI b 13 7 z) 14 q z').2 = s.2 := fun z z' q => by exact hb
      exact F2L.ck (F2L.ite (J150 _ _ (h2 _ _ _)) (F2L.ite (J150 _ _ (h2 _ _ _)) (J150 _ _ (h2 _ _ _))))
    unfold fAh_pass_L55
    exact F2L.ite (F2L.some hb) (F2L.ck (F2L.ite (J90 _ _) (J90 _ _)))
  have J12 : F2L s (fAh_pass_J12 x y s) := by
    unfold fAh_pass_J12
    rw [chkC9]
    simp only [nmM]
    refine F2L.bind (ms2 rfl) fun u hu => F2L.bind (ls2 hu) fun v hv => F2L.ite (J50 _ _ ?_) (J50 _ _ ?_) <;> (exact hv)
  unfold fAh_pass
  exact F2L.ite J12 (F2L.ite (F2L.some rfl) J12)
end P2L
