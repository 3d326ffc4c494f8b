section KM
variable {s t : wM} {n : Nat} {T : Nat → Nat → Bool} {S : Nat → Nat → Int} {D SP : Nat → Int} {ap fi bk : Int}
theorem ZM.st (h : ZM s) (e1 : ∀ j, 9 ≤ j → t.1 184 j = s.1 184 j) (e2 : ∀ j, 9 ≤ j → t.1 187 j = s.1 187 j) : ZM t := fun j hj => by rw [e1 j hj, e2 j hj]; exact h j hj
theorem KFu.q (o : Off KFu s t) : Off KMq s t := o.mono fun k j hk => by
  simp only [KMq, KFu, Bool.or_eq_false_iff, Bool.and_eq_false_iff, decide_eq_false_iff_not, beq_eq_false_iff_ne] at hk ⊢; omega
theorem KG184.q (o : Off (KG 184) s t) : Off KMq s t := o.mono fun k j hk => by
  simp only [KMq, KG, Bool.or_eq_false_iff, Bool.and_eq_false_iff, decide_eq_false_iff_not, beq_eq_false_iff_ne] at hk ⊢; omega
def K187 : Nat → Nat → Bool := fun k j => k == 187 && decide (j < 9)
theorem M_keepsCopy {k43 : Int32 → Int32 → Int32 → wM → Option (Int32 × wM)} {x1 x2 x3 x4 x5 : Int32} : ∃ t, wh2 (fM_keeps_L165 k43 x1 x2 x3 x4 x5) 100000 (iI 0) s = k43 x3 x4 x5 t ∧ (∀ j, j < 9 → t.1 187 j = s.1 184 j) ∧ Off K187 s t := by
  refine wh2_w (Q := fun y => ∃ t, y = k43 x3 x4 x5 t ∧ (∀ j, j < 9 → t.1 187 j = s.1 184 j) ∧ Off K187 s t) (fun m x t => ∃ i : Nat, i ≤ 9 ∧ m = 9 - i ∧ x = iI (i : Int) ∧ (∀ j, j < i → t.1 187 j = s.1 184 j) ∧ Off K187 s t) ?_ 100000 9 _ _ (by omega) ⟨0, by omega, rfl, rfl, fun j hj => absurd hj (by omega), Off.refl s⟩
  rintro m x t ⟨i, hi, rfl, rfl, h, o⟩ k hk
  unfold fM_keeps_L165 fM_keeps_J192
  by_cases c : i < 9
  · rw [if_neg (by rw [iI_le (by omega) (by omega) (by omega) (by omega)]; omega), chk_in (by omega) (by omega) (by omega), iI_natc (by omega), nmM_e, iI_add]
    refine hk (9 - (i + 1)) _ _ (by omega) ⟨i + 1, by omega, rfl, by simp, fun j hj => ?_, o.set (by simp [K187, c])⟩
    by_cases e : j = i
    · subst e; rw [rd_at, o 184 j rfl]
    · rw [rd_of e]; exact h j (by omega)
  · have : i = 9 := by omega
    subst this
    rw [if_pos (by decide)]
    exact ⟨t, rfl, h, o⟩
theorem M_keeps (hv : CV n T S D SP ap fi bk) (hm : CM s n T S D SP ap fi bk) {X B : Nat} (hX : X ≤ 12) (hB : B ≤ 2) : ∃ r o t, fM_keeps s (iI (X : Int)) (iI (B : Int)) = some (r, t) ∧ MQn s t o ∧ KR n T S SP ap bk B X D 0 0 r o := by
  have hn := hv.1.1
  have hS := hv.1
  have hbk := hv.2.2.2.2.2.2.2
  have hap : 0 ≤ ap ∧ ap ≤ 9 := by have := hv.2.2.2.2.2.1; omega
  obtain ⟨t0, e0, hA0⟩ := M_start hv (hm.thr (v := iI 0))
  have hq0 := hA0.pre.q
  have hz0 : ZM t0 := (hA0.pre.mq hm.2.2.2.2.2.2).2
  have lm : ∀ {v}, Off KMq s v → LM v n T S := fun o => hm.1.of (o 161 3 rfl) (o.row fun j => rfl) (o.row fun j => rfl)
  have l164 : ∀ {v}, Off KMq s v → Rw v 164 SP := fun o => hm.2.2.1.of (o.row fun j => rfl)
  have l168 : ∀ {v}, Off KMq s v → v.1 168 0 = iI ap ∧ v.1 168 2 = iI bk := fun o => ⟨by rw [o 168 0 rfl]; exact hm.2.2.2.1, by rw [o 168 2 rfl]; exact hm.2.2.2.2.2.1⟩
  unfold fM_keeps
  rw [nmM_e, M_in, Option.bind_some, iL (by omega) (by omega), if_neg (by rw [bI_0]; simp only [show (0 : Int64).toInt = 0 from rfl, show (12 : Int64).toInt = 12 from rfl]; simp; omega), M_in, Option.bind_some, iL (by omega) (by omega), if_neg (by rw [bI_0]; simp only [show (0 : Int64).toInt = 0 from rfl, show (2 : Int64).toInt = 2 from rfl]; simp; omega), e0, Option.bind_some]
  refine wh4_w (Q := fun y => ∃ r o t, y = some (r, t) ∧ MQn s t o ∧ KR n T S SP ap bk B X D 0 0 r o) (fun m a b c v => ∃ (w x : Nat) (D' : Dp), w ≤ X ∧ a = iI (w : Int) ∧ b = iI (x : Int) ∧ Off KMq s v ∧ ZM v ∧ ((c = iI 1 ∧ m = X - w + 1 ∧ Bd D' 0 99 ∧ (∀ j, j < n → v.1 187 j = iI (D' j)) ∧ ∀ r o, KR n T S SP ap bk B (X - w) D' x w r o → KR n T S SP ap bk B X D 0 0 r o) ∨ (c = iI 0 ∧ m = 0 ∧ KR n T S SP ap bk B X D 0 0 (iI (w : Int)) (some [iI (x : Int)])))) ?_ 100000 (X + 1) _ _ _ _ (by omega) ⟨0, 0, D, by omega, rfl, rfl, hq0, hz0, Or.inl ⟨rfl, rfl, hv.2.1, fun j _ => by rw [show t0.1 187 = _ from hA0.2.2.2.1], fun r o h => h⟩⟩
  rintro m a b c v ⟨w, x, D', hw', rfl, rfl, hov, hzv, hcs⟩ k hk
  unfold fM_keeps_L43 fM_keeps_J195
  have tell : KR n T S SP ap bk B X D 0 0 (iI (w : Int)) (some [iI (x : Int)]) → ∃ r o t, (nmM (wsI v 161 1 (iI 0)) fun s_1 => (fM_enters s_1 (iI (x : Int))).bind fun q_3 => some (iI (w : Int), q_3)) = some (r, t) ∧ MQn s t o ∧ KR n T S SP ap bk B X D 0 0 r o := fun h => by
    obtain ⟨u, e1, r1, o1⟩ := M_enters (s := wsI v 161 1 (iI 0)) (v := iI (x : Int)) M_rows0 (by simp)
    have o2 : Off KMn v u := ((Off.refl v).set rfl).trans o1
    rw [nmM_e, e1, Option.bind_some]
    exact ⟨_, some [iI (x : Int)], u, rfl, ⟨hov.qr.trans o2.nr, hzv.st (fun j _ => o2 184 j rfl) (fun j _ => o2 187 j rfl), r1⟩, h⟩
  rcases hcs with ⟨rfl, rfl, hb', h187, hc⟩ | ⟨rfl, rfl, hc⟩
  · by_cases c1 : X ≤ w
    · rw [if_pos (by rw [iI_le (by omega) (by omega) (by omega) (by omega)]; omega)]
      exact tell (hc _ _ (by rw [show X - w = 0 by omega]; exact ⟨rfl, rfl⟩))
    · obtain ⟨u, ou, hf⟩ := M_findsAll hS hbk hb' (lm hov) (l168 hov).2 (k := 187) (X := B) (by omega) h187 (by decide) (by omega)
      have hq : X - w = (X - (w + 1)) + 1 := by omega
      have hou : Off KMq s u := hov.trans (KFu.q ou)
      have hzu : ZM u := hzv.st (fun j hj => ou 184 j (by simp [KFu]; omega)) (fun j _ => ou 187 j rfl)
      rw [if_neg (by rw [iI_le (by omega) (by omega) (by omega) (by omega)]; omega), if_neg (by decide)]
      rcases hf with ⟨e2, σ, hmt⟩ | ⟨e2, hbig⟩
      · rw [e2, Option.bind_some]
        dsimp only
        rw [if_neg (by decide)]
        have hc3 := hmt.1
        have hvs : ∀ i, i < Eb n T bk D' (B + 1) → VS n D' (Us n T bk D' i) := fun i hi => (U_ok hS (by omega) hb' (Eb n T bk D' B) 0).1 i hi
        have hc' : ∀ r o, _ → KR n T S SP ap bk B X D 0 0 r o := fun r o h => hc r o (by rw [hq]; exact h)
        have none' : (∀ j, j < Eb n T bk D' (B + 1) → PL n T S SP ap (Us n T bk D' j) = false) → KR n T S SP ap bk B X D 0 0 (iI (w : Int)) (some [iI (x : Int)]) := fun h => hc' _ _ (Or.inr (Or.inl ⟨hc3, h, rfl, rfl⟩))
        have some' : ∀ i, i < Eb n T bk D' (B + 1) → PL n T S SP ap (Us n T bk D' i) = true → (∀ j, j < i → PL n T S SP ap (Us n T bk D' j) = false) → ∀ r o, KR n T S SP ap bk B (X - (w + 1)) (wk n T S SP (Us n T bk D' i) 0 0) (x + fr n T bk D' i) (w + 1) r o → KR n T S SP ap bk B X D 0 0 r o := fun i hi k1 k2 r o h => hc' _ _ (Or.inr (Or.inr ⟨hc3, i, hi, k1, k2, h⟩))
        clear hc hc'
        generalize Eb n T bk D' (B + 1) = c at *
        refine wh3_w (Q := fun y => ∃ r o t, y = some (r, t) ∧ MQn s t o ∧ KR n T S SP ap bk B X D 0 0 r o) (fun m x6 x7 z => ∃ p : Nat, m = c - p ∧ x7 = iI (p : Int) ∧ p ≤ c ∧ Off KMq s z ∧ ZM z ∧ MT z n T bk D' σ c ∧ ((x6 = iI (-1) ∧ ∀ j, j < p → PL n T S SP ap (Us n T bk D' j) = false) ∨ ∃ a : Nat, x6 = iI (a : Int) ∧ a < c ∧ PL n T S SP ap (Us n T bk D' a) = true ∧ (∀ j, j < a → PL n T S SP ap (Us n T bk D' j) = false) ∧ ∀ j, j < n → z.1 184 j = iI (wk n T S SP (Us n T bk D' a) 0 0 j))) ?_ 100000 c _ _ _ (by omega) ⟨0, rfl, rfl, by omega, hou, hzu, hmt, Or.inl ⟨rfl, fun j hj => absurd hj (by omega)⟩⟩
        rintro m x6 x7 z ⟨p, rfl, rfl, hpc, hoz, hzz, hmtz, hcs⟩ k2 hk2
        have after : (p = c ∨ x6 ≠ iI (-1)) → ∃ r o t, fM_keeps_J130 k (iI (X : Int)) (iI (B : Int)) (iI (w : Int)) (iI (x : Int)) x6 z = some (r, t) ∧ MQn s t o ∧ KR n T S SP ap bk B X D 0 0 r o := fun hpx => by
          unfold fM_keeps_J130 fM_keeps_J140
          rcases hcs with ⟨rfl, hall⟩ | ⟨a, rfl, hac, hP, hall, h184⟩
          · have hp : p = c := by
              rcases hpx with h | h
              · exact h
              · exact absurd rfl h
            subst hp
            rw [if_pos (by decide), if_pos rfl]
            unfold fM_keeps_J192
            exact hk 0 _ _ _ _ (by omega) ⟨w, x, D', hw', rfl, rfl, hoz, hzz, Or.inr ⟨rfl, rfl, none' hall⟩⟩
          · obtain ⟨z2, e4, r4, o4⟩ := M_keepsCopy (s := z) (k43 := k) (x1 := iI (X : Int)) (x2 := iI (B : Int)) (x3 := iI (w : Int) + iI 1) (x4 := iI (x : Int) + iI (fr n T bk D' a : Int)) (x5 := iI 1)
            rw [if_neg (by rw [iI_lt (by omega) (by omega) (by omega) (by omega)]; omega), if_neg (by decide), chk_in (by omega) (by omega) (by omega), iI_natc (by omega), hmtz.2.2.2.1 a hac, e4, iI_add, iI_add]
            refine hk (X - (w + 1) + 1) _ _ _ _ (by omega) ⟨w + 1, x + fr n T bk D' a, wk n T S SP (Us n T bk D' a) 0 0, by omega, by simp, by simp, hoz.trans (o4.mono fun k j hk => ?_), hzz.st (fun j _ => o4 184 j rfl) (fun j hj => o4 187 j (by simp [K187]; omega)), Or.inl ⟨rfl, rfl, wk_bd (hvs a hac).1, fun j hj => ?_, some' a hac hP hall⟩⟩
            · simp only [KMq, K187, Bool.or_eq_false_iff, Bool.and_eq_false_iff, decide_eq_false_iff_not, beq_eq_false_iff_ne] at hk ⊢; omega
            · rw [r4 j (by omega)]; exact h184 j hj
        unfold fM_keeps_L74
        rw [hmtz.2.1]
        by_cases c2 : c ≤ p
        · rw [if_pos (by rw [iI_le (by omega) (by omega) (by omega) (by omega)]; omega)]
          exact after (Or.inl (by omega))
        · rw [if_neg (by rw [iI_le (by omega) (by omega) (by omega) (by omega)]; omega)]
          rcases hcs with ⟨rfl, hall⟩ | ⟨a, rfl, hac, hP, hall, h184⟩
          · rw [if_neg (by decide)]
            have hvp := hvs p (by omega)
            obtain ⟨z1, e1, v1, o1, v2⟩ := M_unpacks hn (lm hoz).1 (show p < 3000 by omega) hvp.bn (hmtz.2.2.1 p (by omega))
            have ho1 : Off KMq s z1 := hoz.trans (KFu.q (KU.fu o1))
            obtain ⟨z2, e3, r3, r3', o3, v3⟩ := M_weekN hS (lm ho1) v1 hvp.1 (l164 ho1) hv.2.2.2.1 (by decide) (by decide) (by decide) (by decide) (by decide)
            have ho2 : Off KMq s z2 := ho1.trans (KG184.q o3)
            have hz1 : ZM z1 := hzz.st (fun j hj => o1 184 j (by simp [KU]; omega)) (fun j _ => o1 187 j rfl)
            have hz2 : ZM z2 := hz1.st (fun j hj => r3' j (by omega)) (fun j _ => o3 187 j rfl)
            have hmt2 : MT z2 n T bk D' σ c := (hmtz.of (o1 _ _ rfl) (o1.row fun j => rfl) (o1.row fun j => rfl) (o1.row fun j => rfl) (o1.row fun j => rfl) v2).of (o3 _ _ rfl) (o3.row fun j => rfl) (o3.row fun j => rfl) (o3.row fun j => rfl) (o3.row fun j => rfl) v3
            rw [e1, Option.bind_some, e3, Option.bind_some, M_evenPairs' hS (lm ho2) r3 (hvp.wkd).bn (l168 ho2).1 hap, Option.bind_some]
            unfold fM_keeps_J122
            have hep := ep_36 hS ap (wk n T S SP (Us n T bk D' p) 0 0)
            by_cases ce : ep n T ap (wk n T S SP (Us n T bk D' p) 0 0) = 0
            · rw [if_pos (by rw [ce]), iI_add]
              exact hk2 (c - (p + 1)) _ _ _ (by omega) ⟨p + 1, rfl, by simp, by omega, ho2, hz2, hmt2, Or.inr ⟨p, rfl, by omega, by unfold PL; simp [ce], hall, r3⟩⟩
            · rw [if_neg (by rw [iI_eq (by omega) (by omega) (by omega) (by omega)]; omega), iI_add]
              refine hk2 (c - (p + 1)) _ _ _ (by omega) ⟨p + 1, rfl, by simp, by omega, ho2, hz2, hmt2, Or.inl ⟨rfl, fun j hj => ?_⟩⟩
              by_cases e : j = p
              · rw [e]; unfold PL; simp [ce]
              · exact hall j (by omega)
          · rw [if_pos (by rw [iI_le (by omega) (by omega) (by omega) (by omega)]; omega)]
            exact after (Or.inr (by intro h; rw [iI_eq (by omega) (by omega) (by omega) (by omega)] at h; omega))
      · rw [e2, Option.bind_some]
        dsimp only
        rw [if_pos rfl]
        refine ⟨_, none, u, rfl, ⟨hou, hzu⟩, hc _ _ ?_⟩
        rw [hq]
        exact Or.inl ⟨hbig, rfl, rfl⟩
  · by_cases c1 : X ≤ w
    · rw [if_pos (by rw [iI_le (by omega) (by omega) (by omega) (by omega)]; omega)]; exact tell hc
    · rw [if_neg (by rw [iI_le (by omega) (by omega) (by omega) (by omega)]; omega), if_pos rfl]; exact tell hc
end KM
theorem op28 : op_28 wInv := fun s a1 a2 hI => by
  obtain ⟨n, T, S, D, SP, ap, fi, bk, G, w, pl, kp, tx, se, l, hv, hw, hm, r1, r2, hl⟩ := id hI
  obtain ⟨x, x1, x2, rfl⟩ := exI a1
  obtain ⟨y, y1, y2, rfl⟩ := exI a2
  have wE : ¬ ((0 ≤ x ∧ x ≤ 12) ∧ (0 ≤ y ∧ y ≤ 2)) → fW_keeps s (iI x) (iI y) = some (iI (-1), s) := fun h => by
    unfold fW_keeps fW_keeps_J19
    rw [W_isWithin x1 x2 (by omega) (by omega) (by omega) (by omega), Option.bind_some, W_isWithin y1 y2 (by omega) (by omega) (by omega) (by omega), Option.bind_some]
    simp only [bI_0, decide_eq_false_iff_not]
    by_cases c1 : 0 ≤ x ∧ x ≤ 12
    · rw [if_neg (by simpa using c1), if_pos (fun c2 => h ⟨c1, c2⟩)]
    · rw [if_pos c1]
  have mE : ¬ ((0 ≤ x ∧ x ≤ 12) ∧ (0 ≤ y ∧ y ≤ 2)) → fM_keeps s (iI x) (iI y) = some (iI (-1), wsI s 161 0 (iI 0)) := fun h => by
    unfold fM_keeps fM_keeps_J29
    rw [nmM_e, M_in, Option.bind_some, iL x1 x2, M_in, Option.bind_some, iL y1 y2]
    simp only [bI_0, decide_eq_false_iff_not, show (0 : Int64).toInt = 0 from rfl, show (12 : Int64).toInt = 12 from rfl, show (2 : Int64).toInt = 2 from rfl]
    by_cases c1 : 0 ≤ x ∧ x ≤ 12
    · rw [if_neg (by simpa using c1), if_pos (fun c2 => h ⟨c1, c2⟩)]
    · rw [if_pos c1]
  by_cases c : (0 ≤ x ∧ x ≤ 12) ∧ (0 ≤ y ∧ y ≤ 2)
  · obtain ⟨a, rfl⟩ : ∃ g : Nat, x = g := ⟨x.toNat, by omega⟩
    obtain ⟨b, rfl⟩ : ∃ g : Nat, y = g := ⟨y.toNat, by omega⟩
    obtain ⟨r, o, t, e, q, k⟩ := W_keeps hv.1 hw.1 (X := a) (B := b) (by omega) (by omega)
    obtain ⟨r', o', u, e', q', k'⟩ := M_keeps hv.1 (hm.byW q.off.1).1 (X := a) (B := b) (by omega) (by omega)
    obtain ⟨rfl, rfl⟩ := KR_uni _ _ _ _ k k'
    exact ⟨_, t, u, e, e', wInv_q hI q q'⟩
  · exact ⟨_, _, _, wE c, mE c, wInv_thr hI⟩
