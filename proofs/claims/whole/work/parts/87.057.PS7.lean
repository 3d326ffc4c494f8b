section CO2
variable {s t u : wM} {n : Nat} {T : Nat → Nat → Bool} {S : Nat → Nat → Int} {D SP : Nat → Int} {ap fi bk : Int}
def K186 : Nat → Nat → Bool := fun k _ => k == 186
theorem M_okL {rec : wM → Int32 → Int32 → Int32 → Option (Int32 × wM)} {k13 : Int32 → wM → Option (Int32 × wM)} {x2 x3 : Int32} {f c : Nat} {C : Nat → Nat} (hn : n ≤ 9) (hL : LM s n T S) (hf : f < n) (hc : c < 100) (hC : ∀ g, g < f → s.1 186 g = iI ((C g : Nat) : Int) ∧ C g < 100) : wh2 (fM_paints_L31 rec k13 (iI (f : Int)) x2 x3 (iI (c : Int)) s) 100000 (iI 1) (iI 0) = if okC T C f c then (rec (wsI s 186 f (iI (c : Int))) (iI ((f : Int) + 1)) (iMax x2 (iI ((c : Int) + 1))) x3).bind fun q_6 => if q_6.1 = iI 0 then k13 (iI ((c : Int) + 1)) q_6.2 else some (iI 1, q_6.2) else k13 (iI ((c : Int) + 1)) s := by
  have := for2a (f := fM_paints_L31 rec k13 (iI (f : Int)) x2 x3 (iI (c : Int)) s) (fun i => bI (alB (fun g => !(T f g && decide (C g = c))) i)) (i0 := 0) (n := f) (r := if okC T C f c then (rec (wsI s 186 f (iI (c : Int))) (iI ((f : Int) + 1)) (iMax x2 (iI ((c : Int) + 1))) x3).bind fun q_6 => if q_6.1 = iI 0 then k13 (iI ((c : Int) + 1)) q_6.2 else some (iI 1, q_6.2) else k13 (iI ((c : Int) + 1)) s) (Nat.zero_le _) (by omega) (fun i _ hi k => ?_) (fun k => ?_)
  · exact this
  · obtain ⟨c1, c2⟩ := hC i hi
    unfold fM_paints_L31 fM_paints_J68 fM_paints_J72 fM_paints_J73
    rw [if_neg (by rw [iI_le (by omega) (by omega) (by omega) (by omega)]; omega), chk_in (by omega) (by omega) (by omega), iI_natc (by omega), M_tb hL (by omega) (by omega), Option.bind_some, chk_in (by omega) (by omega) (by omega), iI_natc (by omega), c1, iI_add]
    simp only [bI_0, iI_eq (a := ((C i : Nat) : Int)) (b := (c : Int)) (by omega) (by omega) (by omega) (by omega)]
    show _ = k (bI (alB (fun g => !(T f g && decide (C g = c))) i && !(T f i && decide (C i = c)))) _
    cases alB (fun g => !(T f g && decide (C g = c))) i
    · rfl
    · rw [if_neg (by decide)]
      by_cases hT : T f i = true
      · rw [if_neg (by rw [hT]; decide)]
        by_cases e : C i = c
        · rw [if_pos (by omega)]; simp [hT, e, bI]
        · rw [if_neg (by omega)]; simp [e, bI]
      · rw [if_pos (by simpa using hT)]; simp [hT, bI]
  · unfold fM_paints_L31 fM_paints_J115
    rw [if_pos (by rw [iI_le (by omega) (by omega) (by omega) (by omega)]; omega), chk_in (by omega) (by omega) (by omega), iI_natc (by omega)]
    simp only [nmM, bI_0, iI_add]
    show (if okC T C f c = false then _ else _) = _
    cases okC T C f c <;> rfl
theorem M_paint (hn : n ≤ 9) : ∀ {k : Nat} {N f used most : Nat} {C : Nat → Nat} {s : wM}, k + f = n → k < N → used ≤ 9 → most ≤ 9 → LM s n T S → (∀ g, g < f → s.1 186 g = iI ((C g : Nat) : Int) ∧ C g < 100) → ∃ t, fM_paints N s (iI (f : Int)) (iI (used : Int)) (iI (most : Int)) = some (bI (ptF T k f used most C).isSome, t) ∧ (∀ C', ptF T k f used most C = some C' → ∀ g, g < n → t.1 186 g = iI ((C' g : Nat) : Int)) ∧ (∀ g, g < f → t.1 186 g = iI ((C g : Nat) : Int)) ∧ Off K186 s t
  | 0, N + 1, f, used, most, C, s, hk, hN, hu, hm, hG, hC => by
    unfold fM_paints fM_paints_B
    rw [hG.1, if_pos (by rw [show f = n by omega])]
    refine ⟨s, rfl, fun C' h g hg => ?_, fun g hg => (hC g hg).1, Off.refl s⟩
    unfold ptF at h
    cases h
    exact (hC g (by omega)).1
  | k + 1, N + 1, f, used, most, C, s, hk, hN, hu, hm, hG, hC => by
    unfold fM_paints fM_paints_B
    rw [hG.1, if_neg (by rw [iI_eq (by omega) (by omega) (by omega) (by omega)]; omega)]
    generalize hF : (fun c => if okC T C f c then ptF T k (f + 1) (max used (c + 1)) most (uN C f c) else none) = F
    have hpt : ptF T (k + 1) f used most C = fsN F (min most (used + 1)) := by rw [← hF]; rfl
    rw [hpt]
    refine wh2_w (Q := fun x => ∃ t, x = some (bI (fsN F (min most (used + 1))).isSome, t) ∧ (∀ C', fsN F (min most (used + 1)) = some C' → ∀ g, g < n → t.1 186 g = iI ((C' g : Nat) : Int)) ∧ (∀ g, g < f → t.1 186 g = iI ((C g : Nat) : Int)) ∧ Off K186 s t) (fun m x t => ∃ c : Nat, c ≤ min most (used + 1) ∧ m = min most (used + 1) - c ∧ x = iI (c : Int) ∧ (∀ j, j < c → F j = none) ∧ (∀ g, g < f → t.1 186 g = iI ((C g : Nat) : Int)) ∧ Off K186 s t) ?_ 100000 (min most (used + 1)) _ s (by omega) ⟨0, by omega, rfl, rfl, fun j hj => by omega, fun g hg => (hC g hg).1, Off.refl s⟩
    rintro m x t ⟨c, h1, rfl, rfl, g1, g2, ho⟩ kc hkc
    unfold fM_paints_L13 fM_paints_J121
    by_cases hc : c < min most (used + 1)
    · have hLt : LM t n T S := hG.of (ho 161 3 rfl) (ho.row fun j => rfl) (ho.row fun j => rfl)
      have hL2 : LM (wsI t 186 f (iI (c : Int))) n T S := hLt.of (by rw [rd_ne (by decide)]) (rd_ne (by decide)) (rd_ne (by decide))
      rw [if_neg (by rw [iI_lt (by omega) (by omega) (by omega) (by omega)]; omega), if_neg (by rw [iI_le (by omega) (by omega) (by omega) (by omega)]; omega), M_okL (C := C) hn hLt (by omega) (by omega) (fun g hg => ⟨g2 g hg, (hC g hg).2⟩)]
      have o2 : Off K186 s (wsI t 186 f (iI (c : Int))) := ho.set rfl
      have hFc : F c = if okC T C f c then ptF T k (f + 1) (max used (c + 1)) most (uN C f c) else none := by rw [← hF]
      have next : ∀ v, (∀ g, g < f → v.1 186 g = iI ((C g : Nat) : Int)) → Off K186 s v → F c = none → ∃ t, kc (iI ((c : Int) + 1)) v = some (bI (fsN F (min most (used + 1))).isSome, t) ∧ (∀ C', fsN F (min most (used + 1)) = some C' → ∀ g, g < n → t.1 186 g = iI ((C' g : Nat) : Int)) ∧ (∀ g, g < f → t.1 186 g = iI ((C g : Nat) : Int)) ∧ Off K186 s t := fun v hv ov hn => hkc (min most (used + 1) - (c + 1)) _ _ (by omega) ⟨c + 1, by omega, rfl, by simp, fun j hj => by
        by_cases e : j = c
        · subst e; exact hn
        · exact g1 j (by omega), hv, ov⟩
      cases hok : okC T C f c
      · rw [if_neg (by decide)]
        exact next _ g2 ho (by rw [hFc, hok]; rfl)
      · rw [if_pos rfl, iMax_i (by omega) (by omega) (by omega) (by omega), show max (used : Int) ((c : Int) + 1) = ((max used (c + 1) : Nat) : Int) by omega, show ((f : Int) + 1) = ((f + 1 : Nat) : Int) by omega]
        obtain ⟨t3, e3, h3a, h3b, h3c⟩ := M_paint hn (k := k) (N := N) (f := f + 1) (used := max used (c + 1)) (most := most) (C := uN C f c) (s := wsI t 186 f (iI (c : Int))) (by omega) (by omega) (by omega) hm hL2 (fun g hg => by
          unfold uN
          by_cases e : g = f
          · subst e; rw [if_pos rfl]; exact ⟨rd_at, by omega⟩
          · rw [if_neg e, rd_of e]; exact ⟨g2 g (by omega), (hC g (by omega)).2⟩)
        rw [e3, Option.bind_some]
        dsimp only
        simp only [bI_0]
        rw [hok, if_pos rfl] at hFc
        rw [← hFc] at h3a ⊢
        have h3b' : ∀ g, g < f → t3.1 186 g = iI ((C g : Nat) : Int) := fun g hg => by
          rw [h3b g (by omega)]; unfold uN; rw [if_neg (by omega)]
        cases hFv : F c with
        | none => exact next t3 h3b' (o2.trans h3c) hFv
        | some C' =>
          have e9 : fsN F (min most (used + 1)) = some C' := fsN_first g1 hFv hc
          rw [e9]
          refine ⟨t3, rfl, fun C2 h => ?_, h3b', o2.trans h3c⟩
          cases h
          exact h3a C' hFv
    · have hnone : fsN F (min most (used + 1)) = none := fsN_none fun j hj => g1 j (by omega)
      rw [hnone]
      have hr : ∃ t', some (iI 0, t) = some (bI (none : Option (Nat → Nat)).isSome, t') ∧ (∀ C', (none : Option (Nat → Nat)) = some C' → ∀ g, g < n → t'.1 186 g = iI ((C' g : Nat) : Int)) ∧ (∀ g, g < f → t'.1 186 g = iI ((C g : Nat) : Int)) ∧ Off K186 s t' := ⟨t, rfl, (fun C' h => by cases h), g2, ho⟩
      by_cases hm2 : used < c
      · rw [if_pos (by rw [iI_lt (by omega) (by omega) (by omega) (by omega)]; omega)]; exact hr
      · rw [if_neg (by rw [iI_lt (by omega) (by omega) (by omega) (by omega)]; omega), if_pos (by rw [iI_le (by omega) (by omega) (by omega) (by omega)]; omega)]; exact hr
theorem M_paintsAll (hn : n ≤ 9) (hG : LM s n T S) : ∃ t, fM_paintsAll s = some (iI ((coN n T : Nat) : Int), t) ∧ (∀ g, g < n → t.1 186 g = iI ((coC n T g : Nat) : Int)) ∧ Off K186 s t := by
  have hle := coN_le (n := n) (T := T)
  have main : ∀ i0 : Nat, i0 ≤ coN n T → ∃ t, wh2 fM_paintsAll_L16 100000 (iI (i0 : Int)) s = some (iI ((coN n T : Nat) : Int), t) ∧ (∀ g, g < n → t.1 186 g = iI ((coC n T g : Nat) : Int)) ∧ Off K186 s t := fun i0 hi0 => by
    refine wh2_w (Q := fun x => ∃ t, x = some (iI ((coN n T : Nat) : Int), t) ∧ (∀ g, g < n → t.1 186 g = iI ((coC n T g : Nat) : Int)) ∧ Off K186 s t) (fun m x t => ∃ i : Nat, i ≤ coN n T ∧ m = coN n T - i ∧ x = iI (i : Int) ∧ Off K186 s t) ?_ 100000 (coN n T - i0) _ s (by omega) ⟨i0, hi0, rfl, rfl, Off.refl s⟩
    rintro m x t ⟨i, h1, rfl, rfl, ho⟩ c hc
    have hLt : LM t n T S := hG.of (ho 161 3 rfl) (ho.row fun j => rfl) (ho.row fun j => rfl)
    obtain ⟨t2, e2, a2, _, o2⟩ := M_paint (T := T) (S := S) hn (k := n) (N := 12) (f := 0) (used := 0) (most := i) (C := cC0) (s := t) (by omega) (by omega) (by omega) (by omega) hLt (fun g hg => by omega)
    have e2' : fM_paints 12 t (iI 0) (iI 0) (iI (i : Int)) = some (bI (ptF T n 0 0 i cC0).isSome, t2) := e2
    unfold fM_paintsAll_L16
    rw [e2', Option.bind_some]
    dsimp only
    by_cases hi : i < coN n T
    · rw [coN_none hi, if_pos (show bI (none : Option (Nat → Nat)).isSome = iI 0 from rfl), iI_add]
      exact hc (coN n T - (i + 1)) _ _ (by omega) ⟨i + 1, by omega, rfl, by simp, ho.trans o2⟩
    · have hie : i = coN n T := by omega
      subst hie
      have hs := coN_some n T
      rw [hs, if_neg (show ¬ bI (some (coC n T)).isSome = iI 0 by show ¬ iI 1 = iI 0; decide)]
      exact ⟨t2, rfl, a2 _ hs, ho.trans o2⟩
  unfold fM_paintsAll fM_paintsAll_J12
  rw [hG.1]
  by_cases h0 : n = 0
  · rw [if_pos (by rw [iI_le (by omega) (by omega) (by omega) (by omega)]; omega), ← bI_f, M_flag, Option.bind_some, bI_f]
    exact main 0 (by omega)
  · rw [if_neg (by rw [iI_le (by omega) (by omega) (by omega) (by omega)]; omega), ← bI_t, M_flag, Option.bind_some, bI_t]
    exact main 1 (coN_pos (by omega))
theorem M_coL (hv : CV n T S D SP ap fi bk) (hm : CM s n T S D SP ap fi bk) : ∃ t1, fM_paintsAll (wsI s 161 0 (iI 0)) = some (iI ((coN n T : Nat) : Int), t1) ∧ (∀ g, g < n → t1.1 186 g = iI ((coC n T g : Nat) : Int)) ∧ MQn s t1 none ∧ CM t1 n T S D SP ap fi bk := by
  have hm1 := hm.thr (v := iI 0)
  have hz := hm.2.2.2.2.2.2
  have q1 := MQn.thr (v := iI 0) hz
  obtain ⟨t1, e1, a1, o1⟩ := M_paintsAll hv.1.1 hm1.1
  have q : MQn s t1 none := q1.trans ⟨o1.mono fun k j hk => by
    simp only [KMq, K186, Bool.or_eq_false_iff, Bool.and_eq_false_iff, decide_eq_false_iff_not, beq_eq_false_iff_ne] at hk ⊢; omega, fun j hj => by rw [o1 184 j rfl, o1 187 j rfl]; exact q1.2 j hj⟩
  exact ⟨t1, e1, a1, q, hm.mq q⟩
theorem M_colours (hv : CV n T S D SP ap fi bk) (hm : CM s n T S D SP ap fi bk) : ∃ s', fM_colours s = some (iI ((coN n T : Nat) : Int), s') ∧ MQn s s' (some (coR n T 1)) := by
  have hn := hv.1.1
  obtain ⟨t1, e1, a1, q, hm1⟩ := M_coL hv hm
  unfold fM_colours
  simp only [nmM]
  rw [e1, Option.bind_some]
  dsimp only
  refine wh2_w (Q := fun x => ∃ s', x = some (iI ((coN n T : Nat) : Int), s') ∧ MQn s s' (some (coR n T 1))) (fun m x t => ∃ i : Nat, i ≤ n ∧ m = n - i ∧ x = iI (i : Int) ∧ RM t ((List.range i).map fun f => iI ((coC n T f : Int) * 1)) ∧ Off KMn t1 t) ?_ 100000 n _ (wsI t1 161 1 (iI 0)) (by omega) ⟨0, by omega, rfl, rfl, M_rows0, (Off.refl t1).set rfl⟩
  rintro m x t ⟨i, h1, rfl, rfl, r, ho⟩ c hc
  unfold fM_colours_L17
  rw [ho 161 3 rfl, hm1.1.1]
  by_cases hi : i < n
  · rw [if_neg (by rw [iI_le (by omega) (by omega) (by omega) (by omega)]; omega), chk_in (by omega) (by omega) (by omega), iI_natc (by omega), ho 186 i rfl, a1 i hi]
    obtain ⟨t2, e2, r2, o2⟩ := M_enters (v := iI ((coC n T i : Nat) : Int)) r (by simp; omega)
    rw [e2, Option.bind_some, iI_add]
    refine hc (n - (i + 1)) _ _ (by omega) ⟨i + 1, by omega, rfl, by simp, ?_, ho.trans o2⟩
    rw [List.range_succ, List.map_append]
    simpa using r2
  · have : i = n := by omega
    subst this
    rw [if_pos (by rw [iI_le (by omega) (by omega) (by omega) (by omega)]; omega)]
    exact ⟨t, rfl, q.row ho r⟩
theorem M_lowest (hv : CV n T S D SP ap fi bk) (hm : CM s n T S D SP ap fi bk) : ∃ s', fM_lowest s = some (iI (if n = 0 then 0 else ap * ((coN n T : Int) - 1)), s') ∧ MQn s s' (some (coR n T ap)) := by
  have hn := hv.1.1
  have hle := coN_le (n := n) (T := T)
  obtain ⟨t1, e1, a1, q, hm1⟩ := M_coL hv hm
  unfold fM_lowest
  simp only [nmM]
  rw [e1, Option.bind_some]
  dsimp only
  refine wh2_w (Q := fun x => ∃ s', x = some (iI (if n = 0 then 0 else ap * ((coN n T : Int) - 1)), s') ∧ MQn s s' (some (coR n T ap))) (fun m x t => ∃ i : Nat, i ≤ n ∧ m = n - i ∧ x = iI (i : Int) ∧ RM t ((List.range i).map fun f => iI ((coC n T f : Int) * ap)) ∧ Off KMn t1 t) ?_ 100000 n _ (wsI t1 161 1 (iI 0)) (by omega) ⟨0, by omega, rfl, rfl, M_rows0, (Off.refl t1).set rfl⟩
  rintro m x t ⟨i, h1, rfl, rfl, r, ho⟩ c hc
  unfold fM_lowest_L17 fM_lowest_J69
  rw [ho 161 3 rfl, hm1.1.1, z0, ho 168 0 rfl, hm1.2.2.2.1]
  by_cases hi : i < n
  · rw [if_neg (by rw [iI_le (by omega) (by omega) (by omega) (by omega)]; omega), chk_in (by omega) (by omega) (by omega), iI_natc (by omega), ho 186 i rfl, a1 i hi, iI_mul, Int.mul_comm]
    obtain ⟨t2, e2, r2, o2⟩ := M_enters (v := iI ((coC n T i : Int) * ap)) r (by simp; omega)
    rw [e2, Option.bind_some, iI_add]
    refine hc (n - (i + 1)) _ _ (by omega) ⟨i + 1, by omega, rfl, by simp, ?_, ho.trans o2⟩
    rw [List.range_succ, List.map_append]; exact r2
  · have : i = n := by omega
    subst this
    rw [if_pos (by rw [iI_le (by omega) (by omega) (by omega) (by omega)]; omega), iI_sub, iI_mul]
    refine ⟨t, ?_, q.row ho r⟩
    by_cases h0 : i = 0
    · rw [if_pos (by rw [h0]; rfl), if_pos h0]
    · rw [if_neg (by rw [iI_eq (by omega) (by omega) (by omega) (by omega)]; omega), if_neg h0]
end CO2
theorem op21 : op_21 wInv := fun s hI => by
  obtain ⟨n, T, S, D, SP, ap, fi, bk, G, w, pl, kp, tx, se, l, hv, hw, hm, _⟩ := id hI
  obtain ⟨s1, e1, q1⟩ := W_colours hv.1 hw.1
  obtain ⟨s2, e2, q2⟩ := M_colours hv.1 (hm.1.byW q1.off.1)
  exact ⟨_, s1, s2, e1, e2, wInv_q hI q1 q2⟩
theorem op23 : op_23 wInv := fun s hI => by
  obtain ⟨n, T, S, D, SP, ap, fi, bk, G, w, pl, kp, tx, se, l, hv, hw, hm, _⟩ := id hI
  obtain ⟨s1, e1, q1⟩ := W_lowest hv.1 hw.1
  obtain ⟨s2, e2, q2⟩ := M_lowest hv.1 (hm.1.byW q1.off.1)
  exact ⟨_, s1, s2, e1, e2, wInv_q hI q1 q2⟩
