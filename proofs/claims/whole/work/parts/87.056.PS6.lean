/-! colours -/
def fsN {α : Type} (F : Nat → Option α) : Nat → Option α
  | 0 => none
  | m + 1 => match fsN F m with
    | some x => some x
    | none => F m
theorem fsN_none {α : Type} {F : Nat → Option α} : ∀ {m : Nat}, (∀ j, j < m → F j = none) → fsN F m = none
  | 0, _ => rfl
  | m + 1, h => by unfold fsN; rw [fsN_none (m := m) fun j hj => h j (by omega)]; exact h m (by omega)
theorem fsN_first {α : Type} {F : Nat → Option α} {i : Nat} {x : α} (h : ∀ j, j < i → F j = none) (hx : F i = some x) : ∀ {m : Nat}, i < m → fsN F m = some x
  | 0, hm => by omega
  | m + 1, hm => by
    unfold fsN
    by_cases e : i = m
    · subst e; rw [fsN_none h]; exact hx
    · rw [fsN_first h hx (m := m) (by omega)]
theorem fsN_some {α : Type} {F : Nat → Option α} {i : Nat} (h : (F i).isSome = true) : ∀ {m : Nat}, i < m → (fsN F m).isSome = true
  | 0, hm => by omega
  | m + 1, hm => by
    unfold fsN
    by_cases e : i = m
    · subst e
      cases fsN F i with
      | some x => rfl
      | none => exact h
    · have := fsN_some h (m := m) (by omega)
      cases hq : fsN F m with
      | some x => rfl
      | none => rw [hq] at this; cases this
def okC (T : Nat → Nat → Bool) (C : Nat → Nat) (f c : Nat) : Bool := alB (fun g => !(T f g && decide (C g = c))) f
def ptF (T : Nat → Nat → Bool) : Nat → Nat → Nat → Nat → (Nat → Nat) → Option (Nat → Nat)
  | 0, _, _, _, C => some C
  | k + 1, f, used, most, C => fsN (fun c => if okC T C f c then ptF T k (f + 1) (max used (c + 1)) most (uN C f c) else none) (min most (used + 1))
theorem ptF_ok {T : Nat → Nat → Bool} {n : Nat} : ∀ {k f used : Nat} {C : Nat → Nat}, k + f = n → used ≤ f → (∀ g, g < f → C g < used) → (ptF T k f used n C).isSome = true
  | 0, f, used, C, _, _, _ => rfl
  | k + 1, f, used, C, hk, hu, hC => by
    unfold ptF
    refine fsN_some (i := used) ?_ (by omega)
    have hok : okC T C f used = true := alB_t.mpr fun g hg => by
      have := hC g hg
      rw [decide_eq_false (show ¬ C g = used by omega)]; simp
    rw [if_pos hok]
    refine ptF_ok (by omega) (by omega) fun g hg => ?_
    unfold uN
    by_cases e : g = f
    · rw [if_pos e]; omega
    · rw [if_neg e]; have := hC g (by omega); omega
section CO1
variable {s t u : wM} {n : Nat} {T : Nat → Nat → Bool} {S : Nat → Nat → Int} {D SP : Nat → Int} {ap fi bk : Int}
theorem Gr_isUnlike {f c : Nat} {C : Nat → Nat} (hn : n ≤ 9) (hG : GW s n T) (hf : f < n) (hc : c < 100) (hC : ∀ g, g < f → s.1 29 g = iI ((C g : Nat) : Int) ∧ C g < 100) (hfc : s.1 29 f = iI (c : Int)) : fGr_isUnlike s (iI (f : Int)) = some (bI (okC T C f c)) := by
  have step : ∀ i : Nat, i < f → ∀ k, fGr_isUnlike_L2 (iI (f : Int)) s (iI (i : Int)) k = if !(T f i && decide (C i = c)) then k (iI ((i : Int) + 1)) else some (iI 0) := fun i hi k => by
    obtain ⟨c1, c2⟩ := hC i hi
    have hb : (bt (T f) n).testBit i = T f i := by rw [bt_bit]; simp; omega
    unfold fGr_isUnlike_L2 fGr_isUnlike_J38
    rw [if_neg (by rw [iI_le (by omega) (by omega) (by omega) (by omega)]; omega), chk_in (by omega) (by omega) (by omega), iI_natc (by omega), hG.2 f hf, chk_in (by omega) (by omega) (by omega), iI_natc (by omega), c1, hfc, iI_add]
    simp only [has_bit (bt_lt9 (T f) hn) (show i < 9 by omega), hb, iI_eq (a := ((C i : Nat) : Int)) (b := (c : Int)) (by omega) (by omega) (by omega) (by omega)]
    by_cases hT : T f i = true
    · rw [if_pos hT]
      by_cases e : C i = c
      · rw [if_pos (by omega), if_neg (by simp [hT, e])]
      · rw [if_neg (by omega), if_pos (by simp [e])]
    · rw [if_neg hT, if_pos (by simp [hT])]
  have fin : ∀ k, fGr_isUnlike_L2 (iI (f : Int)) s (iI (f : Int)) k = some (iI 1) := fun k => by
    unfold fGr_isUnlike_L2
    rw [if_pos (by rw [iI_le (by omega) (by omega) (by omega) (by omega)]; omega)]
  unfold fGr_isUnlike
  rcases first_or (fun g => !(T f g && decide (C g = c))) f with h | ⟨i, h1, h2, h3⟩
  · rw [show okC T C f c = true from alB_t.mpr h, bI_t]
    exact for1 (i0 := 0) (n := f) (Nat.zero_le _) (by omega) (fun i _ hi k => by rw [step i hi k]; exact if_pos (h i hi)) fin
  · rw [show okC T C f c = false from alB_f h1 h2, bI_f]
    exact for1 (i0 := 0) (n := i) (Nat.zero_le _) (by omega) (fun j _ hj k => by rw [step j (by omega) k]; exact if_pos (h3 j hj)) (fun k => by rw [step i h1 k]; exact if_neg (by simpa using h2))
def K29 : Nat → Nat → Bool := fun k _ => k == 29
theorem Gr_paint (hn : n ≤ 9) : ∀ {k : Nat} {N f used most : Nat} {C : Nat → Nat} {s : wM}, k + f = n → k < N → used ≤ 9 → most ≤ 9 → GW s n T → (∀ g, g < f → s.1 29 g = iI ((C g : Nat) : Int) ∧ C g < 100) → ∃ t, fGr_paintFrom N s (iI (f : Int)) (iI (used : Int)) (iI (most : Int)) = some (bI (ptF T k f used most C).isSome, t) ∧ (∀ C', ptF T k f used most C = some C' → ∀ g, g < n → t.1 29 g = iI ((C' g : Nat) : Int)) ∧ (∀ g, g < f → t.1 29 g = iI ((C g : Nat) : Int)) ∧ Off K29 s t
  | 0, N + 1, f, used, most, C, s, hk, hN, hu, hm, hG, hC => by
    unfold fGr_paintFrom fGr_paintFrom_B
    rw [hG.1]
    first | rw [if_pos (by rw [iI_le (by omega) (by omega) (by omega) (by omega)]; omega)] | rw [if_neg (by rw [iI_lt (by omega) (by omega) (by omega) (by omega)]; omega)]
    refine ⟨s, rfl, fun C' h g hg => ?_, fun g hg => (hC g hg).1, Off.refl s⟩
    unfold ptF at h
    cases h
    exact (hC g (by omega)).1
  | k + 1, N + 1, f, used, most, C, s, hk, hN, hu, hm, hG, hC => by
    unfold fGr_paintFrom fGr_paintFrom_B
    rw [hG.1]
    first | rw [if_neg (by rw [iI_le (by omega) (by omega) (by omega) (by omega)]; omega)] | rw [if_pos (by rw [iI_lt (by omega) (by omega) (by omega) (by omega)]; omega)]
    generalize hF : (fun c => if okC T C f c then ptF T k (f + 1) (max used (c + 1)) most (uN C f c) else none) = F
    have hpt : ptF T (k + 1) f used most C = fsN F (min most (used + 1)) := by rw [← hF]; rfl
    rw [hpt]
    refine wh2_w (Q := fun x => ∃ t, x = some (bI (fsN F (min most (used + 1))).isSome, t) ∧ (∀ C', fsN F (min most (used + 1)) = some C' → ∀ g, g < n → t.1 29 g = iI ((C' g : Nat) : Int)) ∧ (∀ g, g < f → t.1 29 g = iI ((C g : Nat) : Int)) ∧ Off K29 s t) (fun m x t => ∃ c : Nat, c ≤ min most (used + 1) ∧ m = min most (used + 1) - c ∧ x = iI (c : Int) ∧ (∀ j, j < c → F j = none) ∧ (∀ g, g < f → t.1 29 g = iI ((C g : Nat) : Int)) ∧ Off K29 s t) ?_ 100000 (min most (used + 1)) _ s (by omega) ⟨0, by omega, rfl, rfl, fun j hj => by omega, fun g hg => (hC g hg).1, Off.refl s⟩
    rintro m x t ⟨c, h1, rfl, rfl, g1, g2, ho⟩ kc hkc
    unfold fGr_paintFrom_L13 fGr_paintFrom_J62 fGr_paintFrom_J68
    by_cases hc : c < min most (used + 1)
    · have hG2 : GW (wsI t 29 f (iI (c : Int))) n T := hG.of (by rw [rd_ne (by decide), ho 28 2 rfl]) (by rw [rd_ne (by decide), ho.row fun j => rfl])
      have hC2 : ∀ g, g < f → (wsI t 29 f (iI (c : Int))).1 29 g = iI ((C g : Nat) : Int) ∧ C g < 100 := fun g hg => ⟨by rw [rd_of (by omega)]; exact g2 g hg, (hC g hg).2⟩
      rw [if_neg (by rw [iI_le (by omega) (by omega) (by omega) (by omega)]; omega), if_neg (by rw [iI_lt (by omega) (by omega) (by omega) (by omega)]; omega), chk_in (by omega) (by omega) (by omega), iI_natc (by omega)]
      simp only [nmM]
      rw [Gr_isUnlike (C := C) (c := c) hn hG2 (by omega) (by omega) hC2 rd_at, Option.bind_some]
      simp only [bI_0, iI_add]
      have o2 : Off K29 s (wsI t 29 f (iI (c : Int))) := ho.set rfl
      have hFc : F c = if okC T C f c then ptF T k (f + 1) (max used (c + 1)) most (uN C f c) else none := by rw [← hF]
      have next : ∀ v, (∀ g, g < f → v.1 29 g = iI ((C g : Nat) : Int)) → Off K29 s v → F c = none → ∃ t, kc (iI ((c : Int) + 1)) v = some (bI (fsN F (min most (used + 1))).isSome, t) ∧ (∀ C', fsN F (min most (used + 1)) = some C' → ∀ g, g < n → t.1 29 g = iI ((C' g : Nat) : Int)) ∧ (∀ g, g < f → t.1 29 g = iI ((C g : Nat) : Int)) ∧ Off K29 s t := fun v hv ov hn => hkc (min most (used + 1) - (c + 1)) _ _ (by omega) ⟨c + 1, by omega, rfl, by simp, fun j hj => by
        by_cases e : j = c
        · subst e; exact hn
        · exact g1 j (by omega), hv, ov⟩
      cases hok : okC T C f c
      · rw [if_pos rfl]
        exact next _ (fun g hg => (hC2 g hg).1) o2 (by rw [hFc, hok]; rfl)
      · rw [if_neg (by decide), iMax_i (by omega) (by omega) (by omega) (by omega), show max (used : Int) ((c : Int) + 1) = ((max used (c + 1) : Nat) : Int) by omega, show ((f : Int) + 1) = ((f + 1 : Nat) : Int) by omega]
        obtain ⟨t3, e3, h3a, h3b, h3c⟩ := Gr_paint hn (k := k) (N := N) (f := f + 1) (used := max used (c + 1)) (most := most) (C := uN C f c) (s := wsI t 29 f (iI (c : Int))) (by omega) (by omega) (by omega) hm hG2 (fun g hg => by
          unfold uN
          by_cases e : g = f
          · subst e; rw [if_pos rfl]; exact ⟨rd_at, by omega⟩
          · rw [if_neg e]; exact hC2 g (by omega))
        rw [e3, Option.bind_some]
        dsimp only
        simp only [bI_0]
        rw [hok, if_pos rfl] at hFc
        rw [← hFc] at h3a ⊢
        have h3b' : ∀ g, g < f → t3.1 29 g = iI ((C g : Nat) : Int) := fun g hg => by
          rw [h3b g (by omega)]; unfold uN; rw [if_neg (by omega)]
        cases hFv : F c with
        | none => exact next t3 h3b' (o2.trans h3c) hFv
        | some C' =>
          have e9 : fsN F (min most (used + 1)) = some C' := fsN_first g1 hFv hc
          rw [e9]
          refine ⟨t3, rfl, fun C2 h => ?_, h3b', o2.trans h3c⟩
          cases h
          exact h3a C' hFv
    · have hnone : fsN F (min most (used + 1)) = none := fsN_none fun j hj => g1 j (by omega)
      rw [hnone]
      have hr : ∃ t', some (iI 0, t) = some (bI (none : Option (Nat → Nat)).isSome, t') ∧ (∀ C', (none : Option (Nat → Nat)) = some C' → ∀ g, g < n → t'.1 29 g = iI ((C' g : Nat) : Int)) ∧ (∀ g, g < f → t'.1 29 g = iI ((C g : Nat) : Int)) ∧ Off K29 s t' := ⟨t, rfl, (fun C' h => by cases h), g2, ho⟩
      by_cases hm2 : most ≤ c
      · rw [if_pos (by rw [iI_le (by omega) (by omega) (by omega) (by omega)]; omega)]; exact hr
      · rw [if_neg (by rw [iI_le (by omega) (by omega) (by omega) (by omega)]; omega), if_pos (by rw [iI_lt (by omega) (by omega) (by omega) (by omega)]; omega)]; exact hr
def cC0 : Nat → Nat := fun _ => 0
def coN (n : Nat) (T : Nat → Nat → Bool) : Nat := ff (fun m => (ptF T n 0 0 m cC0).isSome) n
def coC (n : Nat) (T : Nat → Nat → Bool) : Nat → Nat := (ptF T n 0 0 (coN n T) cC0).getD cC0
theorem coN_some (n : Nat) (T : Nat → Nat → Bool) : ptF T n 0 0 (coN n T) cC0 = some (coC n T) := by
  have : (ptF T n 0 0 (coN n T) cC0).isSome = true := by
    by_cases h : coN n T < n
    · exact ff_lt (fun m => (ptF T n 0 0 m cC0).isSome) n h
    · have hle : coN n T ≤ n := ff_le _ _
      rw [show coN n T = n by omega]
      exact ptF_ok (by omega) (by omega) fun g hg => by omega
  unfold coC
  cases h : ptF T n 0 0 (coN n T) cC0 with
  | none => rw [h] at this; cases this
  | some C => rfl
theorem coN_none {m : Nat} (h : m < coN n T) : ptF T n 0 0 m cC0 = none := by
  have : (ptF T n 0 0 m cC0).isSome = false := ff_bf (fun m => (ptF T n 0 0 m cC0).isSome) n m h
  cases hq : ptF T n 0 0 m cC0 with
  | none => rfl
  | some C => rw [hq] at this; cases this
theorem coN_le : coN n T ≤ n := ff_le _ _
theorem coN_pos (h : 0 < n) : 1 ≤ coN n T := by
  by_cases e : coN n T = 0
  · have := coN_some n T
    rw [e] at this
    obtain ⟨q, rfl⟩ : ∃ q, n = q + 1 := ⟨n - 1, by omega⟩
    unfold ptF at this
    simp [fsN] at this
  · omega
theorem Gr_paintAll (hn : n ≤ 9) (hG : GW s n T) : ∃ t, fGr_paintAll s = some (iI ((coN n T : Nat) : Int), t) ∧ (∀ g, g < n → t.1 29 g = iI ((coC n T g : Nat) : Int)) ∧ Off K29 s t := by
  have hle := coN_le (n := n) (T := T)
  unfold fGr_paintAll
  refine wh2_w (Q := fun x => ∃ t, x = some (iI ((coN n T : Nat) : Int), t) ∧ (∀ g, g < n → t.1 29 g = iI ((coC n T g : Nat) : Int)) ∧ Off K29 s t) (fun m x t => ∃ i : Nat, i ≤ coN n T ∧ m = coN n T - i ∧ x = iI (i : Int) ∧ Off K29 s t) ?_ 100000 (coN n T) _ s (by omega) ⟨0, by omega, rfl, rfl, Off.refl s⟩
  rintro m x t ⟨i, h1, rfl, rfl, ho⟩ c hc
  have hGt : GW t n T := hG.of (ho 28 2 rfl) (ho.row fun j => rfl)
  obtain ⟨t2, e2, a2, _, o2⟩ := Gr_paint (T := T) hn (k := n) (N := 12) (f := 0) (used := 0) (most := i) (C := cC0) (s := t) (by omega) (by omega) (by omega) (by omega) hGt (fun g hg => by omega)
  have e2' : fGr_paintFrom 12 t (iI 0) (iI 0) (iI (i : Int)) = some (bI (ptF T n 0 0 i cC0).isSome, t2) := e2
  unfold fGr_paintAll_L2
  rw [hGt.1]
  by_cases hi : i < coN n T
  · rw [if_neg (by rw [iI_le (by omega) (by omega) (by omega) (by omega)]; omega), e2', Option.bind_some, coN_none hi]
    dsimp only
    rw [if_pos (show bI (none : Option (Nat → Nat)).isSome = iI 0 from rfl), iI_add]
    exact hc (coN n T - (i + 1)) _ _ (by omega) ⟨i + 1, by omega, rfl, by simp, ho.trans o2⟩
  · have hie : i = coN n T := by omega
    subst hie
    have hs := coN_some n T
    by_cases hn' : coN n T < n
    · rw [if_neg (by rw [iI_le (by omega) (by omega) (by omega) (by omega)]; omega), e2', Option.bind_some, hs]
      dsimp only
      rw [if_neg (show ¬ bI (some (coC n T)).isSome = iI 0 by show ¬ iI 1 = iI 0; decide)]
      exact ⟨t2, rfl, a2 _ hs, ho.trans o2⟩
    · have he : coN n T = n := by omega
      rw [he] at e2' a2 hs
      rw [he, if_pos (by rw [iI_le (by omega) (by omega) (by omega) (by omega)]; omega), e2', Option.bind_some]
      dsimp only
      rw [o2 28 2 rfl, hGt.1]
      exact ⟨t2, rfl, a2 _ hs, ho.trans o2⟩
def coR (n : Nat) (T : Nat → Nat → Bool) (v : Int) : List Int32 := (List.range n).map fun f => iI ((coC n T f : Int) * v)
theorem coR_len (v : Int) : (coR n T v).length = n := by simp [coR]
theorem W_tellC {v : Int} (hn : n ≤ 9) (hG : s.1 28 2 = iI (n : Int)) (h29 : ∀ g, g < n → s.1 29 g = iI ((coC n T g : Nat) : Int)) : ∃ t, fW_tellColours s (iI v) = some t ∧ RW t (coR n T v) ∧ Off KN s t := by
  unfold fW_tellColours
  obtain ⟨t1, e1, r1, o1⟩ := Num_clear (s := s)
  rw [e1, Option.bind_some]
  refine wh2_w (Q := fun x => ∃ t, x = some t ∧ RW t (coR n T v) ∧ Off KN s t) (fun m x t => ∃ i : Nat, i ≤ n ∧ m = n - i ∧ x = iI (i : Int) ∧ RW t ((List.range i).map fun f => iI ((coC n T f : Int) * v)) ∧ Off KN s t) ?_ 100000 n _ t1 (by omega) ⟨0, by omega, rfl, rfl, r1, o1⟩
  rintro m x t ⟨i, h1, rfl, rfl, r, ho⟩ c hc
  unfold fW_tellColours_L9
  rw [ho 28 2 rfl, hG]
  by_cases hi : i < n
  · rw [if_neg (by rw [iI_le (by omega) (by omega) (by omega) (by omega)]; omega), chk_in (by omega) (by omega) (by omega), iI_natc (by omega), ho 29 i rfl, h29 i hi, iI_mul]
    obtain ⟨t2, e2, r2, o2⟩ := Num_add (v := iI ((coC n T i : Int) * v)) r (by simp; omega)
    rw [e2, Option.bind_some, iI_add]
    refine hc (n - (i + 1)) _ _ (by omega) ⟨i + 1, by omega, rfl, by simp, ?_, ho.trans o2⟩
    rw [List.range_succ, List.map_append]; exact r2
  · have : i = n := by omega
    subst this
    rw [if_pos (by rw [iI_le (by omega) (by omega) (by omega) (by omega)]; omega)]
    exact ⟨t, rfl, r, ho⟩
theorem W_paintTell {v : Int} (hv : CV n T S D SP ap fi bk) (hw : CW s n T S D SP ap fi bk) : ∃ t1 t2 t3, fGr_look s = some t1 ∧ fGr_paintAll t1 = some (iI ((coN n T : Nat) : Int), t2) ∧ fW_tellColours t2 (iI v) = some t3 ∧ WQ s t3 (some (coR n T v)) ∧ t2.1 11 = s.1 11 ∧ t3.1 11 = s.1 11 := by
  have hn := hv.1.1
  obtain ⟨t1, e1, hG, o1⟩ := Gr_look hv.1 hw.1
  obtain ⟨t2, e2, a2, o2⟩ := Gr_paintAll hn hG
  obtain ⟨t3, e3, r3, o3⟩ := W_tellC (v := v) hn (by rw [o2 28 2 rfl]; exact hG.1) a2
  have o2' : Off KGr s t2 := o1.trans (o2.mono fun k j hk => by simp only [KGr, K29, Bool.and_eq_false_iff, decide_eq_false_iff_not, beq_eq_false_iff_ne] at hk ⊢; omega)
  exact ⟨t1, t2, t3, e1, e2, e3, (KGr.wq hw.2.2.2.2.2.2 o2').row o3 r3 (by rw [coR_len]; omega), o2'.row fun j => rfl, by rw [o3.row fun j => rfl, o2'.row fun j => rfl]⟩
theorem W_colours (hv : CV n T S D SP ap fi bk) (hw : CW s n T S D SP ap fi bk) : ∃ s', fW_colours s = some (iI ((coN n T : Nat) : Int), s') ∧ WQ s s' (some (coR n T 1)) := by
  obtain ⟨t1, t2, t3, e1, e2, e3, q, _⟩ := W_paintTell (v := 1) hv hw
  unfold fW_colours
  rw [e1, Option.bind_some, e2, Option.bind_some]
  dsimp only
  rw [e3, Option.bind_some]
  exact ⟨t3, rfl, q⟩
theorem W_lowest (hv : CV n T S D SP ap fi bk) (hw : CW s n T S D SP ap fi bk) : ∃ s', fW_lowest s = some (iI (if n = 0 then 0 else ap * ((coN n T : Int) - 1)), s') ∧ WQ s s' (some (coR n T ap)) := by
  have hn := hv.1.1
  have hle := coN_le (n := n) (T := T)
  obtain ⟨t1, t2, t3, e1, e2, e3, q, a, b⟩ := W_paintTell (v := ap) hv hw
  unfold fW_lowest
  rw [e1, Option.bind_some, e2, Option.bind_some]
  dsimp only
  rw [z0, a, hw.2.2.2.1, e3, Option.bind_some, b, hw.2.2.2.1, iI_sub, iMax_i (by omega) (by omega) (by omega) (by omega), iI_mul]
  refine ⟨t3, ?_, q⟩
  congr 3
  by_cases h0 : n = 0
  · rw [if_pos h0, show max 0 (((coN n T : Nat) : Int) - 1) = 0 by omega]; simp
  · have := coN_pos (n := n) (T := T) (by omega)
    rw [if_neg h0, show max 0 (((coN n T : Nat) : Int) - 1) = ((coN n T : Nat) : Int) - 1 by omega, Int.mul_comm]
end CO1
