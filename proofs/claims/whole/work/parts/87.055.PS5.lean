section RM1
variable {s t u : wM} {n to : Nat} {T : Nat → Nat → Bool} {S : Nat → Nat → Int} {D SP : Nat → Int} {ap fi bk : Int} {H : Nat → Nat}
def hpA (n : Nat) (T : Nat → Nat → Bool) (to : Nat) (H : Nat → Nat) : Prop := ∀ g, g < n → H g ≤ 100 ∧ (H g < 100 → rch n T to (H g) g = true)
def hpB (n : Nat) (T : Nat → Nat → Bool) (to : Nat) (H : Nat → Nat) (q : Nat → Nat) : Prop := ∀ g, g < n → ∀ d, d ≤ q g → rch n T to d g = true → H g ≤ d
def HP (s : wM) (n : Nat) (H : Nat → Nat) : Prop := ∀ g, g < n → s.1 190 g = iI ((H g : Nat) : Int)
def uN (H : Nat → Nat) (x v : Nat) : Nat → Nat := fun g => if g = x then v else H g
def K190 : Nat → Nat → Bool := fun k _ => k == 190
theorem hp_end (hS : Cty n T S) (ht : to < n) (hA : hpA n T to H) (hB : hpB n T to H (fun _ => n)) {g : Nat} (hg : g < n) : H g = if dd n T to g < n then dd n T to g else 100 := by
  obtain ⟨a1, a2⟩ := hA g hg
  by_cases h : dd n T to g < n
  · rw [if_pos h]
    have b := hB g hg (dd n T to g) (by dsimp only; omega) (dd_r h)
    have hlt : dd n T to g < 100 ∨ 100 ≤ dd n T to g := by omega
    by_cases hc : H g < 100
    · have := dd_least (a2 hc); omega
    · exact (by
        have hn := hS.1
        omega)
  · rw [if_neg h]
    by_cases hc : H g < 100
    · exact absurd (dd_lt hS ht (a2 hc)) h
    · omega
theorem M_roadL (hS : Cty n T S) (ht : to < n) (hL : LM s n T S) (hP : HP s n H) (hA : hpA n T to H) (hB : hpB n T to H (fun _ => 0)) {x1 : Int32} (Q : Option (Int32 × wM) → Prop) (fin : ∀ u H, HP u n H → hpA n T to H → hpB n T to H (fun _ => n) → Off K190 s u → ∀ c, Q (fM_road_L56 x1 (iI (n : Int)) u c)) : Q (wh2 (fM_road_L56 x1) 100000 (iI 0) s) := by
  have hn := hS.1
  refine wh2_w (Q := Q) (fun m x u => ∃ r : Nat, ∃ H, r ≤ n ∧ m = n - r ∧ x = iI (r : Int) ∧ HP u n H ∧ hpA n T to H ∧ hpB n T to H (fun _ => r) ∧ Off K190 s u) ?_ 100000 n _ s (by omega) ⟨0, H, by omega, rfl, rfl, hP, hA, hB, Off.refl s⟩
  rintro m x u ⟨r, H, h1, rfl, rfl, hP, hA, hB, ho⟩ c hc
  by_cases hr : r < n
  · have hLu : LM u n T S := hL.of (ho 161 3 rfl) (ho.row fun j => rfl) (ho.row fun j => rfl)
    unfold fM_road_L56
    rw [hLu.1, if_neg (by rw [iI_le (by omega) (by omega) (by omega) (by omega)]; omega)]
    refine wh2_w (Q := Q) (fun m y u => ∃ x : Nat, ∃ H, x ≤ n ∧ m = n - x ∧ y = iI (x : Int) ∧ HP u n H ∧ hpA n T to H ∧ hpB n T to H (fun g => if g < x then r + 1 else r) ∧ Off K190 s u) ?_ 100000 n _ u (by omega) ⟨0, H, by omega, rfl, rfl, hP, hA, fun g hg d hd => hB g hg d (by simpa using hd), ho⟩
    rintro m y u ⟨x, H, h1, rfl, rfl, hP, hA, hB, ho⟩ c2 hc2
    have hLu : LM u n T S := hL.of (ho 161 3 rfl) (ho.row fun j => rfl) (ho.row fun j => rfl)
    unfold fM_road_L67
    rw [hLu.1]
    by_cases hx : x < n
    · rw [if_neg (by rw [iI_le (by omega) (by omega) (by omega) (by omega)]; omega)]
      refine wh2_w (Q := Q) (fun m y u => ∃ z : Nat, ∃ H, z ≤ n ∧ m = n - z ∧ y = iI (z : Int) ∧ HP u n H ∧ hpA n T to H ∧ hpB n T to H (fun g => if g < x then r + 1 else r) ∧ (∀ w, w < z → T x w = true → ∀ d, d ≤ r → rch n T to d w = true → H x ≤ d + 1) ∧ Off K190 s u) ?_ 100000 n _ u (by omega) ⟨0, H, by omega, rfl, rfl, hP, hA, hB, fun w hw => by omega, ho⟩
      rintro m y u ⟨z, H, h1, rfl, rfl, hP, hA, hB, hC, ho⟩ c3 hc3
      have hLu : LM u n T S := hL.of (ho 161 3 rfl) (ho.row fun j => rfl) (ho.row fun j => rfl)
      unfold fM_road_L79 fM_road_J138
      rw [hLu.1]
      by_cases hz : z < n
      · have ax := hA x hx
        have az := hA z hz
        rw [if_neg (by rw [iI_le (by omega) (by omega) (by omega) (by omega)]; omega), chk_in (by omega) (by omega) (by omega), iI_natc (by omega), M_tb hLu (by omega) (by omega), Option.bind_some, hP x hx, chk_in (by omega) (by omega) (by omega), iI_natc (by omega), chk_in (by omega) (by omega) (by omega), hP z hz, iI_add, iI_add, iMin_i (by omega) (by omega) (by omega) (by omega)]
        simp only [bI_0, nmM]
        have upd : ∀ v : Nat, v ≤ H x → (v < 100 → rch n T to v x = true) → (T x z = true → v ≤ H z + 1) → Q (c3 (iI ((z : Int) + 1)) (wsI u 190 x (iI (v : Int)))) := fun v v1 v2 v3 => by
          refine hc3 (n - (z + 1)) _ _ (by omega) ⟨z + 1, uN H x v, by omega, rfl, by simp, fun g hg => ?_, fun g hg => ?_, fun g hg d hd hr' => ?_, fun w hw hT d hd hr' => ?_, ho.set rfl⟩
          · rw [rd_if]; unfold uN
            by_cases e : g = x
            · rw [if_pos e, if_pos e]
            · rw [if_neg e, if_neg e]; exact hP g hg
          · unfold uN
            by_cases e : g = x
            · subst e; rw [if_pos rfl]; exact ⟨by omega, v2⟩
            · rw [if_neg e]; exact hA g hg
          · have := hB g hg d hd hr'
            unfold uN
            by_cases e : g = x
            · subst e; rw [if_pos rfl]; omega
            · rw [if_neg e]; exact this
          · have hwn := (hS.2.2.1 x w hT).2.1
            show uN H x v x ≤ d + 1
            unfold uN; rw [if_pos rfl]
            by_cases e : w = z
            · subst e
              have := hB w hz d (by dsimp only; split <;> omega) hr'
              have := v3 hT
              omega
            · have := hC w (by omega) hT d hd hr'; omega
        by_cases hT : T x z = true
        · rw [if_neg (by rw [hT]; decide), show min ((H x : Nat) : Int) (1 + ((H z : Nat) : Int)) = ((min (H x) (1 + H z) : Nat) : Int) by omega, chk_in (by omega) (by omega) (by omega)]
          refine upd _ (by omega) (fun hv => ?_) (fun _ => by omega)
          by_cases hm : H x ≤ 1 + H z
          · rw [show min (H x) (1 + H z) = H x by omega] at hv ⊢; exact ax.2 hv
          · rw [show min (H x) (1 + H z) = H z + 1 by omega] at hv ⊢
            exact rch_s.mpr (Or.inr ⟨z, hz, hT, az.2 (by omega)⟩)
        · rw [if_pos (by simpa using hT)]
          exact upd _ (Nat.le_refl _) ax.2 (fun h => absurd h hT)
      · have : z = n := by omega
        subst this
        rw [if_pos (by rw [iI_le (by omega) (by omega) (by omega) (by omega)]; omega), iI_add]
        refine hc2 (z - (x + 1)) _ _ (by omega) ⟨x + 1, H, by omega, rfl, by simp, hP, hA, fun g hg d hd hr' => ?_, ho⟩
        by_cases e : g = x
        · subst e
          dsimp only at hd
          rw [if_pos (by omega)] at hd
          cases d with
          | zero => exact hB g hg 0 (by dsimp only; split <;> omega) hr'
          | succ d =>
            rcases rch_s.mp hr' with h | ⟨y, k1, k2, k3⟩
            · have := hB g hg d (by dsimp only; split <;> omega) h; omega
            · exact hC y k1 k2 d (by omega) k3
        · refine hB g hg d ?_ hr'
          dsimp only at hd ⊢
          by_cases e2 : g < x
          · rw [if_pos (by omega)] at hd; rw [if_pos e2]; exact hd
          · rw [if_neg (by omega)] at hd; rw [if_neg e2]; exact hd
    · have : x = n := by omega
      subst this
      rw [if_pos (by rw [iI_le (by omega) (by omega) (by omega) (by omega)]; omega), iI_add]
      exact hc (x - (r + 1)) _ _ (by omega) ⟨r + 1, H, by omega, rfl, by simp, hP, hA, fun g hg d hd hr' => hB g hg d (by dsimp only; rw [if_pos hg]; exact hd) hr', ho⟩
  · have : r = n := by omega
    subst this
    exact fin u H hP hA hB ho c
theorem M_road (hv : CV n T S D SP ap fi bk) (hm : CM s n T S D SP ap fi bk) {x y : Int} (h1 : -2147483648 ≤ x) (h2 : x ≤ 2147483647) (h3 : -2147483648 ≤ y) (h4 : y ≤ 2147483647) : ∃ s', fM_road s (iI x) (iI y) = some (iI (roA n T x y), s') ∧ MQn s s' (roR n T x y) := by
  have hn := hv.1.1
  have hm1 := hm.thr (v := iI 0)
  have hz := hm.2.2.2.2.2.2
  unfold fM_road fM_road_J21 roA roR
  simp only [nmM]
  rw [M_isFarm hn hm1.1 h1 h2, Option.bind_some, M_isFarm hn hm1.1 h3 h4, Option.bind_some]
  simp only [bI_0, decide_eq_false_iff_not]
  by_cases c1 : 0 ≤ x ∧ x < n
  · by_cases c2 : 0 ≤ y ∧ y < n
    · obtain ⟨a, rfl⟩ : ∃ q : Nat, x = q := ⟨x.toNat, by omega⟩
      obtain ⟨b, rfl⟩ : ∃ q : Nat, y = q := ⟨y.toNat, by omega⟩
      simp only [Int.toNat_natCast]
      have hcc : 0 ≤ (a : Int) ∧ (a : Int) < n ∧ 0 ≤ (b : Int) ∧ (b : Int) < n := by omega
      have hbn : b < n := by omega
      rw [if_neg (by simpa using c1), if_neg (by simpa using c2), if_pos hcc, if_pos hcc]
      have o1 : Off KMq s (wsI s 161 0 (iI 0)) := (Off.refl s).set rfl
      have z1' : ZM (wsI s 161 0 (iI 0)) := hm1.2.2.2.2.2.2
      generalize wsI s 161 0 (iI 0) = s1 at hm1 o1 z1' ⊢
      have eL : wh2 (fM_road_L25 (iI (a : Int)) (iI (b : Int))) 100000 (iI 0) s1 = wh2 (fM_road_L56 (iI (a : Int))) 100000 (iI 0) (wRo s1 190 (fun j => if j < 9 then (if j = b then iI 0 else iI 100) else s1.1 190 j)) := by
        have e0 : s1 = wRo s1 190 (fun j => if j < 0 then (if j = b then iI 0 else iI 100) else s1.1 190 j) := (wR_id (by funext j; simp)).symm
        conv => lhs; arg 4; rw [e0]
        refine for2b (fun i => wRo s1 190 (fun j => if j < i then (if j = b then iI 0 else iI 100) else s1.1 190 j)) (i0 := 0) (n := 9) (Nat.zero_le _) (by omega) (fun i _ hi c => ?_) (fun c => ?_)
        · unfold fM_road_L25 fM_road_J47
          have e9 : ∀ v : Int32, v = (if i = b then iI 0 else iI 100) → wsI (wRo s1 190 (fun j => if j < i then (if j = b then iI 0 else iI 100) else s1.1 190 j)) 190 i v = wRo s1 190 (fun j => if j < i + 1 then (if j = b then iI 0 else iI 100) else s1.1 190 j) := fun v hv => by
            rw [wsI_Rr]
            congr 1
            funext q
            by_cases h1 : q = i
            · subst h1; rw [if_pos rfl, if_pos (by omega)]; exact hv
            · rw [if_neg h1]
              by_cases h2 : q < i
              · rw [if_pos h2, if_pos (show q < i + 1 by omega)]
              · rw [if_neg h2, if_neg (show ¬ q < i + 1 by omega)]
          rw [if_neg (by rw [iI_le (by omega) (by omega) (by omega) (by omega)]; omega), chk_in (by omega) (by omega) (by omega), chk_in (by omega) (by omega) (by omega), iI_natc (by omega), iI_add]
          simp only [nmM, iI_eq (a := (i : Int)) (b := (b : Int)) (by omega) (by omega) (by omega) (by omega)]
          by_cases h : i = b
          · rw [if_pos (by omega), e9 _ (by rw [if_pos h])]
          · rw [if_neg (by omega), e9 _ (by rw [if_neg h])]
        · unfold fM_road_L25
          rw [if_pos (by decide)]
      rw [eL]
      have hL2 : LM (wRo s1 190 (fun j => if j < 9 then (if j = b then iI 0 else iI 100) else s1.1 190 j)) n T S := hm1.1.of (by rw [wR_ne (by decide)]) (wR_ne (by decide)) (wR_ne (by decide))
      refine M_roadL (to := b) (H := fun g => if g = b then 0 else 100) hv.1 hbn hL2 (fun g hg => ?_) (fun g hg => ?_) (fun g hg d hd hr => ?_) (fun x => ∃ s', x = some (iI (if dd n T b a < n then (dd n T b a : Int) else -2), s') ∧ MQn s s' (if dd n T b a < n then some (rdL n T b (dd n T b a - 1) a) else none)) (fun u H hP hA hB ho c => ?_)
      · rw [wRo_at, if_pos (by omega)]
        dsimp only
        split <;> rfl
      · dsimp only
        by_cases e : g = b
        · rw [if_pos e]; exact ⟨by omega, fun _ => by simp [rch, e]⟩
        · rw [if_neg e]; exact ⟨by omega, fun h => by omega⟩
      · have hd0 : d = 0 := by simpa using hd
        subst hd0
        have : g = b := by simpa [rch] using hr
        dsimp only; rw [if_pos this]; omega
      · have hLu : LM u n T S := hL2.of (ho 161 3 rfl) (ho.row fun j => rfl) (ho.row fun j => rfl)
        have hH : ∀ g, g < n → u.1 190 g = iI (((if dd n T b g < n then dd n T b g else 100) : Nat) : Int) := fun g hg => by rw [hP g hg, hp_end hv.1 hbn hA hB hg]
        have oq : Off KMq s u := o1.trans (Off.trans (wR_off (Off.refl s1) fun j => rfl) (ho.mono fun k j hk => by
          simp only [KMq, K190, Bool.or_eq_false_iff, Bool.and_eq_false_iff, decide_eq_false_iff_not, beq_eq_false_iff_ne] at hk ⊢; omega))
        have zu : ZM u := fun j hj => by rw [ho 184 j rfl, ho 187 j rfl, wR_ne (by decide), wR_ne (by decide)]; exact z1' j hj
        have qu : MQn s u none := ⟨oq, zu⟩
        unfold fM_road_L56
        rw [hLu.1, if_pos (by rw [iI_le (by omega) (by omega) (by omega) (by omega)]; omega), chk_in (by omega) (by omega) (by omega), iI_natc (by omega), hH a (by omega)]
        simp only [nmM, nmI]
        rw [rd_ne (show (190 : Nat) ≠ 161 by decide), hH a (by omega)]
        by_cases hd : dd n T b a < n
        · rw [if_pos hd, if_pos hd, if_pos hd, if_pos (by rw [iI_lt (by omega) (by omega) (by omega) (by omega)]; omega), iI_sub]
          have r3 := M_rows0 (s := u)
          have o3 : Off KMn u (wsI u 161 1 (iI 0)) := (Off.refl u).set rfl
          generalize wsI u 161 1 (iI 0) = t3 at r3 o3 ⊢
          by_cases hd0 : dd n T b a = 0
          · rw [hd0]
            refine wh3_w (Q := fun x => ∃ s', x = some (iI ((0 : Nat) : Int), s') ∧ MQn s s' (some (rdL n T b (0 - 1) a))) (fun m x y v => y = iI (((0 : Nat) : Int) - 1) ∧ v = t3) ?_ 100000 0 _ _ t3 (by omega) ⟨rfl, rfl⟩
            rintro m x y v ⟨rfl, rfl⟩ c hc
            unfold fM_road_L188
            rw [if_pos (by decide), chk_in (by omega) (by omega) (by omega), iI_natc (by omega), o3 190 a rfl, hH a (by omega), if_pos hd, hd0]
            exact ⟨v, rfl, qu.row o3 r3⟩
          · obtain ⟨l, hl⟩ : ∃ l, dd n T b a = l + 1 := ⟨dd n T b a - 1, by omega⟩
            refine wh3_w (Q := fun x => ∃ s', x = some (iI (dd n T b a : Int), s') ∧ MQn s s' (some (rdL n T b (dd n T b a - 1) a))) (fun m x y v => ∃ left now : Nat, ∃ L, left ≤ l ∧ left = m ∧ x = iI (now : Int) ∧ y = iI (left : Int) ∧ now < n ∧ dd n T b now = left + 1 ∧ L ++ rdL n T b left now = rdL n T b (dd n T b a - 1) a ∧ RM v L ∧ Off KMn u v) ?_ 100000 l _ _ t3 (by omega) ⟨l, a, [], by omega, rfl, rfl, iI_congr (by omega), by omega, hl, by simp [hl], r3, o3⟩
            rintro m x y v ⟨left, now, L, k1, rfl, rfl, rfl, k2, k3, k4, k5, k6⟩ c hc
            have hlen : L.length + left = l := by have := congrArg List.length k4; rw [List.length_append, rdL_len, rdL_len] at this; omega
            have hLv : LM v n T S := hLu.of (k6 161 3 rfl) (k6.row fun j => rfl) (k6.row fun j => rfl)
            unfold fM_road_L188
            by_cases h0 : left = 0
            · subst h0
              rw [if_pos (by decide), chk_in (by omega) (by omega) (by omega), iI_natc (by omega), k6 190 a rfl, hH a (by omega), if_pos hd]
              refine ⟨v, rfl, qu.row k6 ?_⟩
              rw [← k4]; simp [rdL]; exact k5
            · obtain ⟨q, rfl⟩ : ∃ q, left = q + 1 := ⟨left - 1, by omega⟩
              obtain ⟨p1, p2, p3⟩ := pNx_ok hv.1 hbn k3 (by omega)
              rw [if_neg (by rw [iI_le (by omega) (by omega) (by omega) (by omega)]; omega)]
              obtain ⟨u2, e5, r5, o5⟩ := M_enters (v := iI ((pNx n T b now (q + 1) : Nat) : Int)) k5 (by omega)
              have step : ∀ i : Nat, i < n → ∀ k, fM_road_L196 c (iI (a : Int)) (iI (now : Int)) (iI ((q + 1 : Nat) : Int)) v (iI (i : Int)) k = if T now i && decide (dd n T b i = q + 1) then (fM_enters v (iI (i : Int))).bind fun q_8 => c (iI (i : Int)) (iI ((q + 1 : Nat) : Int) + iI (-1)) q_8 else k (iI ((i : Int) + 1)) := fun i hi k => by
                have hdl := dd_le (n := n) (T := T) (to := b) i
                unfold fM_road_L196 fM_road_J222
                rw [chk_in (by omega) (by omega) (by omega), iI_natc (by omega), M_tb hLv (by omega) (by omega), Option.bind_some, chk_in (by omega) (by omega) (by omega), iI_natc (by omega), k6 190 i rfl, hH i hi, iI_add]
                simp only [bI_0]
                by_cases hT : T now i = true
                · rw [if_neg (by rw [hT]; decide)]
                  by_cases k7 : dd n T b i = q + 1
                  · rw [if_pos (by rw [if_pos (by omega), k7]), if_pos (by simp [hT, k7])]
                  · rw [if_neg, if_neg (by simp [k7])]
                    intro e
                    rw [iI_eq (by split <;> omega) (by split <;> omega) (by omega) (by omega)] at e
                    split at e <;> omega
                · rw [if_pos (by simpa using hT), if_neg (by simp [hT])]
              have eWy : wh1 (fM_road_L196 c (iI (a : Int)) (iI (now : Int)) (iI ((q + 1 : Nat) : Int)) v) 100000 (iI ((0 : Nat) : Int)) = c (iI ((pNx n T b now (q + 1) : Nat) : Int)) (iI (q : Int)) u2 := by
                refine for1 (i0 := 0) (n := pNx n T b now (q + 1)) (Nat.zero_le _) (by omega) (fun i _ hi k => ?_) (fun k => ?_)
                · rw [step i (by omega) k]
                  exact if_neg (by have := ff_bf (fun g => T now g && decide (dd n T b g = q + 1)) n i hi; simpa using this)
                · rw [step _ p1 k, if_pos (by simp [p2, p3]), e5, Option.bind_some, iI_add, show ((q + 1 : Nat) : Int) + -1 = (q : Int) by omega]
              show ∃ s', wh1 (fM_road_L196 c (iI (a : Int)) (iI (now : Int)) (iI ((q + 1 : Nat) : Int)) v) 100000 (iI ((0 : Nat) : Int)) = _ ∧ _
              rw [eWy]
              exact hc q _ _ _ (by omega) ⟨q, pNx n T b now (q + 1), _, by omega, rfl, rfl, rfl, p1, p3, by rw [← k4]; simp [rdL], r5, k6.trans o5⟩
        · rw [if_neg hd, if_neg hd, if_neg hd, if_neg (by decide)]
          exact ⟨u, rfl, qu⟩
    · rw [if_neg (by simpa using c1), if_pos c2, if_neg (by omega), if_neg (by omega)]
      exact ⟨_, rfl, MQn.thr hz⟩
  · rw [if_pos c1, if_neg (by omega), if_neg (by omega)]
    exact ⟨_, rfl, MQn.thr hz⟩
end RM1
theorem op35 : op_35 wInv := fun s a1 a2 hI => by
  obtain ⟨n, T, S, D, SP, ap, fi, bk, G, w, pl, kp, tx, se, l, hv, hw, hm, _⟩ := id hI
  obtain ⟨x, x1, x2, rfl⟩ := exI a1
  obtain ⟨y, y1, y2, rfl⟩ := exI a2
  obtain ⟨s1, e1, q1⟩ := W_road hv.1 hw.1 x1 x2 y1 y2
  obtain ⟨s2, e2, q2⟩ := M_road hv.1 (hm.1.byW q1.off.1) x1 x2 y1 y2
  exact ⟨_, s1, s2, e1, e2, wInv_q hI q1 q2⟩
