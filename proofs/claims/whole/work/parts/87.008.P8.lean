theorem wsI_wsI {s : wM} {k j : Nat} {v w : Int32} : wsI (wsI s k j v) k j w = wsI s k j w := by
  unfold wsI; simp only [Prod.mk.injEq, and_true]; funext a b; split <;> rfl
theorem wsI_wR {s : wM} {k a j : Nat} {v : Int32} {F : Nat → Int32} (h : a ≠ k) : wsI (wRo s k F) a j v = wRo (wsI s a j v) k F := by
  unfold wsI wRo; simp only [Prod.mk.injEq, and_true]; funext x y
  by_cases e : x = k
  · subst e; simp [h.symm]
  · simp [e]
theorem exRw (s : wM) (k : Nat) : ∃ C : Nat → Int, Rw s k C := ⟨fun j => (s.1 k j).toInt, funext fun j => (iI_of _).symm⟩
section MW
variable {s : wM} {n : Nat} {T : Nat → Nat → Bool} {S : Nat → Nat → Int} {D SP : Nat → Int} {k : Nat} {rain : Int} {bits : Nat}
theorem M_seeps {a b : Nat} (hS : Cty n T S) (hL : LM s n T S) (hD : Rw s k D) (bD : Bd D 0 99) (ha : a < 9) (hb : b < 9) : fM_seeps s k (iI (a : Int)) (iI (b : Int)) = some (iI (sep T S D a b)) := by
  have b1 := bD a
  have b2 := bD b
  have b3 := hS.2.2.2.2 a b
  unfold fM_seeps fM_seeps_J44 fM_seeps_J45 fM_seeps_J68
  rw [iI_mul, iI_add, chk_in (by omega) (by omega) (by omega), iI_ix' (by omega) (by omega)]
  simp only [nmI, iI_natc (show a ≤ 2147483647 by omega), iI_natc (show b ≤ 2147483647 by omega), M_tb hL ha hb, Option.bind_some, bI_0, show s.1 k = _ from hD]
  unfold sep
  by_cases hT : T a b = true
  · rw [hL.2.2 a b ha hb hT]
    simp (disch := omega) only [iI_add, iI_sub, iI_mul, iI_lt, iI_le, iI_eq, iI_natc, iI_nat, chk_in, chkZ_1, chkZ_0, iMax_i, iMin_i, iAbs_i, Option.bind_some, nmI, nmM, nmL, rd_ne, rd_at, rd_cne, rd_fne, rd_L, rd_2, rd_c2, rd_f2, if_true, if_false, Int.toNat_natCast, ne_eq]
    rw [if_neg (by simp [hT])]
    by_cases h1 : S a b ≤ 0
    · rw [if_pos h1, if_neg (by omega)]
    · rw [if_neg h1]
      by_cases h2 : D a ≤ D b
      · rw [if_pos h2, if_neg (by omega)]
      · rw [if_neg h2, if_pos (show T a b = true ∧ 0 < S a b ∧ D b < D a from ⟨hT, by omega, by omega⟩), if_neg (show ¬ (1 : Int) = 0 by decide), chkD_in (by omega) (by omega) (by omega), iI_div (by omega) (by omega) (by omega) (by omega)]
  · have : T a b = false := by simpa using hT
    rw [chk_in (by omega) (by omega) (by omega)]
    simp [this]
def KG (k : Nat) : Nat → Nat → Bool := fun a j => a == k || a == 178 || (a == 161 && j == 27)
/-- what came to x till farm f had given -/
def cms (n : Nat) (T : Nat → Nat → Bool) (S : Nat → Nat → Int) (SP D C : Nat → Int) (rain : Int) (bits f : Nat) : Nat → Int := fun x => (if x < n then SP x + rn rain bits x else C x) + sm (fun f' => sm (fun o => nk n T S D x f' o) n) f
theorem M_weekGoes (hS : Cty n T S) (hL : LM s n T S) (hD : Rw s k D) (bD : Bd D 0 99) (hSP : Rw s 164 SP) (bS : Bd SP 0 9) (hr : -9 ≤ rain ∧ rain ≤ 9) (hb : bits < 512) (k1 : k ≠ 178) (k2 : k ≠ 161) (k3 : k ≠ 165) (k4 : k ≠ 166) (k5 : k ≠ 164) : ∃ s', fM_weekGoes s k (iI rain) (iI (bits : Int)) = some s' ∧ Rw s' k (wk n T S SP D rain bits) ∧ s'.1 161 27 = iI (lst n T S SP D rain bits) ∧ Off (KG k) s s' := by
  have hn := hS.1
  obtain ⟨C, hC⟩ := exRw s 178
  have hLs : ∀ F, LM (wRo s 178 F) n T S := fun F => hL.of (congrFun (wR_ne (by decide)) _) (wR_ne (by decide)) (wR_ne (by decide))
  have hDs : ∀ F, Rw (wRo s 178 F) k D := fun F => hD.ne k1
  refine ⟨wRo (wsI (wRo s 178 (fun x => iI (cms n T S SP D C rain bits n x))) 161 27 (iI (lst n T S SP D rain bits))) k (fun x => iI (wk n T S SP D rain bits x)), ?_, wRo_at, ?_, ?_⟩
  · unfold fM_weekGoes
    have e0 : s = wRo s 178 (fun x => iI (if x < 0 then SP x + rn rain bits x else C x)) := (wR_id (by rw [hC]; funext x; simp)).symm
    conv => lhs; arg 4; rw [e0]
    refine for2b (fun i => wRo s 178 (fun x => iI (if x < i then SP x + rn rain bits x else C x))) (i0 := 0) (n := n) (Nat.zero_le _) (by omega) (fun i _ hi c => ?_) (fun c => ?_)
    · unfold fM_weekGoes_L3 fM_weekGoes_J39
      rw [(hLs _).1]
      rw [if_neg (by rw [iI_le (by omega) (by omega) (by omega) (by omega)]; omega), chk_in (by omega) (by omega) (by omega), M_has hb (by omega), Option.bind_some]
      simp only [bI_0, iI_natc (show i ≤ 2147483647 by omega), wR_ne (show (164 : Nat) ≠ 178 by decide), show s.1 164 = _ from hSP, nmM, iI_add, chk_in (a := (i : Int)) (n := 9) (by omega) (by omega) (by omega)]
      have fe : ∀ v : Int, v = rn rain bits i → c (iI ((i : Int) + 1)) (wsI (wRo s 178 (fun x => iI (if x < i then SP x + rn rain bits x else C x))) 178 i (iI (SP i + v))) = c (iI ((i : Int) + 1)) (wRo s 178 (fun x => iI (if x < i + 1 then SP x + rn rain bits x else C x))) := fun v hv => by
        rw [wsI_R (D := fun x => if x < i then SP x + rn rain bits x else C x) wRo_at, wR_wR]
        congr 2
        funext x
        unfold uI
        by_cases h1 : x = i
        · subst h1; simp [hv]
        · simp only [h1, if_false]; congr 1
          by_cases h2 : x < i
          · rw [if_pos h2, if_pos (by omega)]
          · rw [if_neg h2, if_neg (by omega)]
      by_cases h : bits.testBit i = true
      · rw [if_neg (by simp [h]), fe rain (by simp [rn, h])]
      · rw [if_pos (by simp [h]), fe 0 (by simp [rn, h])]
    · unfold fM_weekGoes_L3
      rw [(hLs _).1, if_pos (by rw [iI_le (by omega) (by omega) (by omega) (by omega)]; omega)]
      have e1 : (fun x => iI (if x < n then SP x + rn rain bits x else C x)) = fun x => iI (cms n T S SP D C rain bits 0 x) := by
        funext x; unfold cms; simp [sm]
      rw [e1]
      refine for2b (fun f => wRo s 178 (fun x => iI (cms n T S SP D C rain bits f x))) (i0 := 0) (n := n) (Nat.zero_le _) (by omega) (fun f _ hf c => ?_) (fun c => ?_)
      · unfold fM_weekGoes_L50
        rw [(hLs _).1, if_neg (by rw [iI_le (by omega) (by omega) (by omega) (by omega)]; omega)]
        refine for2a (fun i => iI (sm (fun o => sep T S D f o) i)) (i0 := 0) (n := n) (Nat.zero_le _) (by omega) (fun o _ ho c2 => ?_) (fun c2 => ?_)
        · unfold fM_weekGoes_L65 fM_weekGoes_J96
          rw [(hLs _).1, if_neg (by rw [iI_le (by omega) (by omega) (by omega) (by omega)]; omega), M_seeps hS (hLs _) (hDs _) bD (by omega) (by omega), Option.bind_some, iI_add, iI_add, iI_add]
          rw [show sm (fun o => sep T S D f o) (o + 1) = sm (fun o => sep T S D f o) o + sep T S D f o from rfl]
          by_cases h : o = f
          · subst h; rw [if_pos rfl, sep_0 hS]
          · rw [if_neg (by rw [iI_eq (by omega) (by omega) (by omega) (by omega)]; omega)]
        · unfold fM_weekGoes_L65
          rw [(hLs _).1, if_pos (by rw [iI_le (by omega) (by omega) (by omega) (by omega)]; omega)]
          have gb := giv_bd (T := T) (S := S) hn bD f n (Nat.le_refl n)
          have bf := bD f
          by_cases ok : giv n T S D f ≤ D f
          · have e2 : (fun x => iI (cms n T S SP D C rain bits f x)) = fun x => iI (cms n T S SP D C rain bits f x + sm (fun o => nk n T S D x f o) 0) := by
              funext x; simp [sm]
            rw [e2]
            refine for2b (fun i => wRo s 178 (fun x => iI (cms n T S SP D C rain bits f x + sm (fun o => nk n T S D x f o) i))) (i0 := 0) (n := n) (Nat.zero_le _) (by omega) (fun o _ ho c3 => ?_) (fun c3 => ?_)
            · unfold fM_weekGoes_L108 fM_weekGoes_J146
              rw [(hLs _).1, if_neg (by rw [iI_le (by omega) (by omega) (by omega) (by omega)]; omega), chk_in (by omega) (by omega) (by omega), iI_natc (by omega), show (wRo s 178 _).1 k = _ from hDs _]
              rw [if_neg (by rw [iI_lt (by omega) (by omega) (by omega) (by omega)]; unfold giv at ok; omega), M_seeps hS (hLs _) (hDs _) bD (by omega) (by omega), Option.bind_some]
              have fe : ∀ v : Int, v = sep T S D f o → (wsI (wsI (wRo s 178 (fun x => iI (cms n T S SP D C rain bits f x + sm (fun o => nk n T S D x f o) o))) 178 f (iI (cms n T S SP D C rain bits f f + sm (fun o => nk n T S D f f o) o) - iI v)) 178 o ((wsI (wRo s 178 (fun x => iI (cms n T S SP D C rain bits f x + sm (fun o => nk n T S D x f o) o))) 178 f (iI (cms n T S SP D C rain bits f f + sm (fun o => nk n T S D f f o) o) - iI v)).1 178 o + iI v)) = (wRo s 178 (fun x => iI (cms n T S SP D C rain bits f x + sm (fun o => nk n T S D x f o) (o + 1)))) := fun v hv => by
                rw [iI_sub, wsI_R (D := fun x => cms n T S SP D C rain bits f x + sm (fun o => nk n T S D x f o) o) wRo_at, wR_wR, wRo_at, iI_add, wsI_R (D := uI (fun x => cms n T S SP D C rain bits f x + sm (fun o => nk n T S D x f o) o) f (cms n T S SP D C rain bits f f + sm (fun o => nk n T S D f f o) o - v)) wRo_at, wR_wR]
                congr 1
                funext x
                unfold uI
                simp only [sm]
                congr 1
                rw [show nk n T S D x f o = (if x = f then - sep T S D f o else 0) + (if x = o then sep T S D f o else 0) from if_pos ok, ← hv]
                by_cases h1 : x = o
                · subst h1
                  by_cases h2 : x = f
                  · subst h2; simp; omega
                  · simp [h2]; omega
                · by_cases h2 : x = f
                  · subst h2; simp [h1]; omega
                  · simp [h1, h2]
              simp only [nmM, iI_natc (show f ≤ 2147483647 by omega), iI_natc (show o ≤ 2147483647 by omega), chk_in (a := (f : Int)) (n := 9) (by omega) (by omega) (by omega), chk_in (a := (o : Int)) (n := 9) (by omega) (by omega) (by omega), wRo_at]
              by_cases h : o = f
              · rw [if_pos (by rw [h])]
                have := fe 0 (by rw [h, sep_0 hS])
                rw [this, iI_add]
              · rw [if_neg (by rw [iI_eq (by omega) (by omega) (by omega) (by omega)]; omega)]
                have := fe _ rfl
                rw [this, iI_add]
            · unfold fM_weekGoes_L108 fM_weekGoes_J178
              rw [(hLs _).1, if_pos (by rw [iI_le (by omega) (by omega) (by omega) (by omega)]; omega), iI_add]
              congr 2; funext x; unfold cms; simp only [sm]; congr 1; omega
          · have e2 : (fun x => iI (cms n T S SP D C rain bits (f + 1) x)) = fun x => iI (cms n T S SP D C rain bits f x) := by
              funext x; unfold cms
              simp only [sm]
              rw [sm_congr (n := n) (f := fun o => nk n T S D x f o) (g := fun _ => 0) (fun j _ => if_neg ok), sm_zero]; congr 1; omega
            rw [e2]
            refine for2b (fun _ => wRo s 178 (fun x => iI (cms n T S SP D C rain bits f x))) (i0 := 0) (n := 0) (Nat.zero_le _) (by omega) (fun o _ ho c3 => by omega) (fun c3 => ?_)
            unfold fM_weekGoes_L108 fM_weekGoes_J178
            rw [(hLs _).1, if_neg (by rw [iI_le (by omega) (by omega) (by omega) (by omega)]; omega), chk_in (by omega) (by omega) (by omega), iI_natc (by omega), show (wRo s 178 _).1 k = _ from hDs _]
            rw [if_pos (by rw [iI_lt (by omega) (by omega) (by omega) (by omega)]; unfold giv at ok; omega), iI_add]
      · unfold fM_weekGoes_L50
        rw [(hLs _).1, if_pos (by rw [iI_le (by omega) (by omega) (by omega) (by omega)]; omega)]
        simp only [nmM]
        generalize hs2 : wRo s 178 (fun x => iI (cms n T S SP D C rain bits n x)) = s2
        have hD2 : Rw s2 k D := by rw [← hs2]; exact hDs _
        have hL2 : LM s2 n T S := by rw [← hs2]; exact hLs _
        have e3 : wsI s2 161 27 (iI 0) = wRo (wsI s2 161 27 (iI (sm (fun x => max 0 (wat n T S SP D rain bits x - 99)) 0))) k (fun x => iI (if x < 0 then max 0 (min 99 (wat n T S SP D rain bits x)) else D x)) := (wR_id (by rw [rd_ne k2, show s2.1 k = _ from hD2]; funext x; simp)).symm
        rw [e3]
        refine (for2b (fun i => wRo (wsI s2 161 27 (iI (sm (fun x => max 0 (wat n T S SP D rain bits x - 99)) i))) k (fun x => iI (if x < i then max 0 (min 99 (wat n T S SP D rain bits x)) else D x))) (i0 := 0) (n := n) (Nat.zero_le _) (by omega) (fun i _ hi c => ?_) (fun c => ?_))
        · unfold fM_weekGoes_L192
          have h3 : (wRo (wsI s2 161 27 (iI (sm (fun x => max 0 (wat n T S SP D rain bits x - 99)) i))) k (fun x => iI (if x < i then max 0 (min 99 (wat n T S SP D rain bits x)) else D x))).1 161 3 = iI (n : Int) := by
            rw [wR_ne k2.symm, rd_of (by decide)]; exact hL2.1
          have h178 : (wRo (wsI s2 161 27 (iI (sm (fun x => max 0 (wat n T S SP D rain bits x - 99)) i))) k (fun x => iI (if x < i then max 0 (min 99 (wat n T S SP D rain bits x)) else D x))).1 178 = fun x => iI (cms n T S SP D C rain bits n x) := by
            rw [wR_ne k1.symm, rd_ne (by decide), ← hs2, wRo_at]
          have nb := net_bd (T := T) (S := S) hn bD i
          have b1 := bD i
          have b2 := bS i
          have b3 := rn_bd hr bits i
          have hcm : cms n T S SP D C rain bits n i = SP i + rn rain bits i + net n T S D i := by unfold cms net; rw [if_pos hi]
          have hw : D i + cms n T S SP D C rain bits n i = wat n T S SP D rain bits i := by rw [hcm]; rfl
          have hwb : -20000 ≤ wat n T S SP D rain bits i ∧ wat n T S SP D rain bits i ≤ 20000 := by rw [← hw, hcm]; omega
          have hlb := sm_bd (f := fun x => max 0 (wat n T S SP D rain bits x - 99)) (lo := 0) (hi := 20000) (n := i) (fun j _ => by
            have nb := net_bd (T := T) (S := S) hn bD j
            have b1 := bD j
            have b2 := bS j
            have b3 := rn_bd hr bits j
            have : wat n T S SP D rain bits j = D j + (SP j + rn rain bits j + net n T S D j) := rfl
            omega)
          rw [h3, if_neg (by rw [iI_le (by omega) (by omega) (by omega) (by omega)]; omega), chk_in (by omega) (by omega) (by omega), iI_natc (by omega), h178, wRo_at]
          rw [wR_ne k2.symm, rd_at]
          simp only [nmI, nmM, Nat.lt_irrefl, if_false]
          rw [iI_add (D i) (cms n T S SP D C rain bits n i), hw, iI_sub, iMax_i (by omega) (by omega) (by omega) (by omega), iMin_i (by omega) (by omega) (by omega) (by omega), iMax_i (by omega) (by omega) (by omega) (by omega), iI_add, iI_add, wsI_wR k2.symm, wsI_wsI, wsI_R (D := fun x => if x < i then max 0 (min 99 (wat n T S SP D rain bits x)) else D x) wRo_at, wR_wR]
          congr 2
          funext x
          unfold uI
          by_cases h1 : x = i
          · subst h1; simp
          · simp only [h1, if_false]; congr 1
            by_cases h2 : x < i
            · rw [if_pos h2, if_pos (by omega)]
            · rw [if_neg h2, if_neg (by omega)]
        · unfold fM_weekGoes_L192
          have h3 : (wRo (wsI s2 161 27 (iI (sm (fun x => max 0 (wat n T S SP D rain bits x - 99)) n))) k (fun x => iI (if x < n then max 0 (min 99 (wat n T S SP D rain bits x)) else D x))).1 161 3 = iI (n : Int) := by
            rw [wR_ne k2.symm, rd_of (by decide)]; exact hL2.1
          rw [h3, if_pos (by rw [iI_le (by omega) (by omega) (by omega) (by omega)]; omega)]
          rfl
  · rw [wR_ne k2.symm, rd_at]
  · refine wR_off (Off.set (wR_off (Off.refl s) (fun j => ?_)) ?_) (fun j => ?_)
    · simp [KG]
    · simp [KG]
    · simp [KG]
end MW
