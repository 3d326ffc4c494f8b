theorem shr_tab : ∀ k : Fin 32, ((iI ((k.val : Nat) : Int) &&& 31).toBitVec.smod 32#32).toNat = k.val := by decide +kernel
theorem iShr_bv (x : Int32) {k : Nat} (hk : k < 32) : (iShr x (iI (k : Int))).toBitVec = x.toBitVec.sshiftRight k := by
  unfold iShr
  rw [Int32.toBitVec_shiftRight]
  unfold BitVec.sshiftRight'
  have := shr_tab ⟨k, hk⟩
  simp only at this
  rw [show (32 : BitVec 32) = 32#32 from rfl, this]
theorem ush_tab : ∀ k : Fin 32, ((iI ((k.val : Nat) : Int)).toUInt32 &&& Int32.toUInt32 31).toBitVec.toNat % 32 = k.val := by decide +kernel
theorem iUshr_bv (x : Int32) {k : Nat} (hk : k < 32) : (iUshr x (iI (k : Int))).toBitVec = x.toBitVec >>> k := by
  unfold iUshr
  have := ush_tab ⟨k, hk⟩
  simp only at this
  rw [UInt32.toBitVec_toInt32, UInt32.toBitVec_shiftRight, Int32.toBitVec_toUInt32]
  apply BitVec.eq_of_toNat_eq
  simp only [BitVec.toNat_ushiftRight, BitVec.ushiftRight_eq', BitVec.toNat_umod]
  rw [show (32 : BitVec 32).toNat = 32 from rfl, this]
def bN (x : Int32) (k : Nat) : Nat := (x.toBitVec.toNat >>> k) % 256
theorem bN_lt (x : Int32) (k : Nat) : bN x k < 256 := Nat.mod_lt _ (by decide)
theorem bN_bit (x : Int32) (k i : Nat) : (bN x k).testBit i = (decide (i < 8) && x.toBitVec.getLsbD (i + k)) := by
  unfold bN
  rw [show 256 = 2 ^ 8 from rfl, Nat.testBit_mod_two_pow, Nat.testBit_shiftRight, BitVec.testBit_toNat, Nat.add_comm]
theorem b255 (i : Nat) : (iI 255).toBitVec.getLsbD i = decide (i < 8) := by
  rw [show (iI 255).toBitVec = BitVec.ofNat 32 (2 ^ 8 - 1) from rfl, ← BitVec.testBit_toNat, BitVec.toNat_ofNat, Nat.mod_eq_of_lt (by decide), Nat.testBit_two_pow_sub_one]
theorem iI_bit (y : Nat) (hy : y < 2147483648) (i : Nat) : (iI (y : Int)).toBitVec.getLsbD i = y.testBit i := by
  rw [iI_bv, ← BitVec.testBit_toNat, BitVec.toNat_ofNat, Nat.mod_eq_of_lt (by omega)]
theorem byte_s (x : Int32) {k : Nat} (hk : k ≤ 24) : iShr x (iI (k : Int)) &&& iI 255 = iI ((bN x k : Nat) : Int) := by
  have := bN_lt x k
  rw [← Int32.toBitVec_inj, Int32.toBitVec_and, iShr_bv x (by omega)]
  refine BitVec.eq_of_getLsbD_eq fun i hi => ?_
  rw [BitVec.getLsbD_and, b255, iI_bit _ (by omega), bN_bit, BitVec.getLsbD_sshiftRight]
  by_cases h : i < 8
  · simp only [h, decide_true, Bool.and_true, Bool.true_and, show ¬ 32 ≤ i by omega, show k + i < 32 by omega, decide_false, Bool.not_false, if_true, Nat.add_comm]
  · simp [h]
theorem byte_u (x : Int32) {k : Nat} (hk : k ≤ 24) : iUshr x (iI (k : Int)) &&& iI 255 = iI ((bN x k : Nat) : Int) := by
  have := bN_lt x k
  rw [← Int32.toBitVec_inj, Int32.toBitVec_and, iUshr_bv x (by omega)]
  refine BitVec.eq_of_getLsbD_eq fun i hi => ?_
  rw [BitVec.getLsbD_and, b255, iI_bit _ (by omega), bN_bit, BitVec.getLsbD_ushiftRight]
  by_cases h : i < 8
  · simp only [h, decide_true, Bool.and_true, Bool.true_and, Nat.add_comm]
  · simp [h]
theorem iC_tab : ∀ k : Fin 256, iC (iI ((k.val : Nat) : Int)) = iI ((k.val : Nat) : Int) := by decide +kernel
theorem byte_c (x : Int32) {k : Nat} (hk : k ≤ 24) : iC (iUshr x (iI (k : Int)) &&& iI 255) = iI ((bN x k : Nat) : Int) := by
  rw [byte_u x hk]; exact iC_tab ⟨bN x k, bN_lt x k⟩
def sgL (x : Int32) : List Nat := [bN x 24, bN x 16, bN x 8, bN x 0]
theorem TxW.push {s : wM} {tx : List Nat} {b : Nat} (h : TxW s tx) : TxW (wsI (wsI s 2 tx.length (iI (b : Int))) 1 1 (iI ((tx.length : Int) + 1))) (tx ++ [b]) := by
  refine ⟨by rw [rd_at]; simp, fun i hi => ?_⟩
  rw [rd_ne (by decide), rd_if]
  simp at hi
  by_cases e : i = tx.length
  · subst e; simp
  · rw [if_neg e, h.2 i (by omega), List.getElem_append_left]
theorem W_sign {s : wM} {tx : List Nat} {x : Int32} (h : TxW s tx) (hl : tx.length ≤ 76) : ∃ t, fW_sign s x = some (iI ((tx.length : Int) + 4), t) ∧ TxW t (tx ++ sgL x) ∧ Off (fun k _ => k == 1 || k == 2) s t := by
  unfold fW_sign fTx_append fW_sign_J22
  rw [h.1, iI_add, if_pos (by rw [iI_le (by omega) (by omega) (by omega) (by omega)]; omega)]
  have step : ∀ (u : wM) (l : List Nat) (k : Nat) c, k ≤ 24 → l.length < 80 → TxW u l → ∃ u', fTx_append_L16 x (iI (k : Int)) u c = c (iI ((k : Int) - 8)) u' ∧ TxW u' (l ++ [bN x k]) ∧ Off (fun k _ => k == 1 || k == 2) u u' := fun u l k c hk hl hu => by
    unfold fTx_append_L16
    rw [if_neg (by rw [iI_lt (by omega) (by omega) (by omega) (by omega)]; omega), hu.1, chk_in (by omega) (by omega) (by omega), iI_natc (by omega), byte_c x hk]
    simp only [nmM]
    rw [rd_ne (by decide), hu.1, iI_add, iI_add]
    exact ⟨_, rfl, hu.push, ((Off.refl u).set rfl).set rfl⟩
  have w2s : ∀ n a b, wh2 (fTx_append_L16 x) (n + 1) a b = fTx_append_L16 x a b (wh2 (fTx_append_L16 x) n) := fun _ _ _ => rfl
  rw [show (100000 : Nat) = 99995 + 1 + 1 + 1 + 1 + 1 from rfl, w2s]
  obtain ⟨u1, e1, t1, o1⟩ := step s tx 24 (wh2 (fTx_append_L16 x) (99995 + 1 + 1 + 1 + 1)) (by omega) (by omega) h
  rw [show iI (24 : Int) = iI ((24 : Nat) : Int) from rfl, e1, show (((24 : Nat) : Int) - 8) = ((16 : Nat) : Int) from rfl, w2s]
  obtain ⟨u2, e2, t2, o2⟩ := step u1 _ 16 (wh2 (fTx_append_L16 x) (99995 + 1 + 1 + 1)) (by omega) (by simp; omega) t1
  rw [e2, show (((16 : Nat) : Int) - 8) = ((8 : Nat) : Int) from rfl, w2s]
  obtain ⟨u3, e3, t3, o3⟩ := step u2 _ 8 (wh2 (fTx_append_L16 x) (99995 + 1 + 1)) (by omega) (by simp; omega) t2
  rw [e3, show (((8 : Nat) : Int) - 8) = ((0 : Nat) : Int) from rfl, w2s]
  obtain ⟨u4, e4, t4, o4⟩ := step u3 _ 0 (wh2 (fTx_append_L16 x) (99995 + 1)) (by omega) (by simp; omega) t3
  rw [e4, w2s]
  unfold fTx_append_L16
  rw [if_pos (by decide), Option.bind_some]
  dsimp only
  rw [if_neg (by decide), t4.1]
  refine ⟨u4, ?_, ?_, ((o1.trans o2).trans o3).trans o4⟩
  · rw [show ((((((tx ++ [bN x 24]) ++ [bN x 16]) ++ [bN x 8]) ++ [bN x 0]).length : Nat) : Int) = (tx.length : Int) + 4 by simp only [List.length_append, List.length_cons, List.length_nil]; omega]
  · simpa [sgL] using t4
theorem M_sign {s : wM} {tx : List Nat} {x : Int32} (h : TxM s tx) (hl : tx.length ≤ 76) : ∃ t, fM_sign s x = some (iI ((tx.length : Int) + 4), t) ∧ TxM t (tx ++ sgL x) ∧ Off (fun k j => k == 169 || k == 161 && (j == 0 || j == 12)) s t := by
  unfold fM_sign
  simp only [nmM]
  rw [rd_of (by decide), h.1, if_pos (by rw [iI_le (by omega) (by omega) (by omega) (by omega)]; omega)]
  refine wh2_w (Q := fun y => ∃ t, y = some (iI ((tx.length : Int) + 4), t) ∧ TxM t (tx ++ sgL x) ∧ Off (fun k j => k == 169 || k == 161 && (j == 0 || j == 12)) s t) (fun m y u => ∃ i : Nat, ∃ hi4 : i ≤ 4, m = 4 - i ∧ y = iI (i : Int) ∧ u.1 161 12 = iI (tx.length : Int) ∧ (∀ j, (hj : j < tx.length + i) → u.1 169 j = iI (((tx ++ sgL x)[j]'(by simp [sgL]; omega) : Nat) : Int)) ∧ Off (fun k j => k == 169 || k == 161 && (j == 0 || j == 12)) s u) ?_ 100000 4 _ (wsI s 161 0 (iI 0)) (by omega) ⟨0, by omega, rfl, rfl, by rw [rd_of (by decide)]; exact h.1, fun j hj => ?_, (Off.refl s).set rfl⟩
  · rintro m y u ⟨i, g1, rfl, rfl, g2, g3, ho⟩ c hc
    unfold fM_sign_L18
    by_cases hi : i < 4
    · rw [if_neg (by rw [iI_le (by omega) (by omega) (by omega) (by omega)]; omega), g2, iI_add, chk_in (by omega) (by omega) (by omega), iI_nat (by omega) (by omega), show ((tx.length : Int) + (i : Int)).toNat = tx.length + i by omega, iI_mul, iI_sub, show (24 - 8 * (i : Int)) = ((24 - 8 * i : Nat) : Int) by omega, byte_s x (by omega), iI_add]
      simp only [nmM]
      refine hc (4 - (i + 1)) _ _ (by omega) ⟨i + 1, by omega, rfl, by simp, by rw [rd_ne (by decide)]; exact g2, fun j hj => ?_, ho.set rfl⟩
      rw [rd_if]
      by_cases e : j = tx.length + i
      · subst e
        rw [if_pos rfl]
        congr 2
        rw [List.getElem_append_right (by omega)]
        simp only [Nat.add_sub_cancel_left]
        have : i = 0 ∨ i = 1 ∨ i = 2 ∨ i = 3 := by omega
        rcases this with rfl | rfl | rfl | rfl <;> rfl
      · rw [if_neg e]; exact g3 j (by omega)
    · have : i = 4 := by omega
      subst this
      rw [if_pos (by decide)]
      simp only [nmM]
      rw [g2, iI_add, rd_at]
      refine ⟨_, rfl, ⟨by rw [rd_at]; simp [sgL], fun j hj => ?_⟩, ho.set rfl⟩
      rw [rd_ne (by decide)]; exact g3 j (by simp [sgL] at hj; omega)
  · rw [rd_ne (by decide), h.2 j (by omega), List.getElem_append_left]
theorem op0 : op_0 wInv := fun s a1 hI => by
  obtain ⟨n, T, S, D, SP, ap, fi, bk, G, w, pl, kp, tx, se, l, hv, hw, hm, r1, r2, hl⟩ := id hI
  have ht := hv.2.2.2.1
  have h80 := ht.1
  by_cases c : tx.length ≤ 76
  · obtain ⟨t, e, ht1, o⟩ := W_sign (x := a1) hw.2.2.2.2.1 c
    have lo : Lo s t := fun k hk => o.row fun j => by simp; omega
    have hm1 := hm.lo lo
    obtain ⟨u, f, ht2, p⟩ := M_sign (x := a1) hm1.2.2.2.2.1 c
    refine ⟨_, t, u, e, f, wInv_mk ⟨hv.1, hv.2.1, hv.2.2.1, ⟨by simp [sgL]; omega, fun b hb => ?_⟩, hv.2.2.2.2⟩ (hw.toTx (fun k h1 h2 => o.row fun j => by simp; omega) ht1) (fun k hk => p.row fun j => by simp; omega) (hm1.toTx (fun k j h1 h2 => p k j ?_) ht2) (r1.of (o 32 1 rfl) (o.row fun j => rfl)) ((r2.lo lo).of (p 161 1 rfl) (p.row fun j => rfl)) hl⟩
    · rcases List.mem_append.mp hb with h | h
      · exact ht.2 b h
      · simp only [sgL, List.mem_cons, List.not_mem_nil, or_false] at h
        rcases h with rfl | rfl | rfl | rfl <;> exact bN_lt _ _
    · simp only [Bool.or_eq_false_iff, Bool.and_eq_false_iff, beq_eq_false_iff_ne]; omega
  · refine ⟨iI (-1), s, wsI s 161 0 (iI 0), ?_, ?_, wInv_thr hI⟩
    · unfold fW_sign fTx_append fW_sign_J22
      rw [hw.2.2.2.2.1.1, iI_add, if_neg (by rw [iI_le (by omega) (by omega) (by omega) (by omega)]; omega), Option.bind_some, if_pos rfl]
    · unfold fM_sign
      simp only [nmM]
      rw [rd_of (by decide), hm.2.2.2.2.1.1, if_neg (by rw [iI_le (by omega) (by omega) (by omega) (by omega)]; omega)]
/-! sheet -/
def shE (kind : Int) (v : Int32) : Int32 := if kind = 0 then v.toInt8.toInt32 else if kind = 1 then v.toInt16.toInt32 else v
def shD (n : Nat) (D : Nat → Int) (kind m z y : Int) (i : Nat) : Nat → Int := fun x => if x < i then (if kind = 3 ∨ m ≤ (x : Int) then 0 else max 0 (min 99 (shE kind (iI (z + (x : Int) * y))).toInt)) else D x
theorem put_i (e : Int32) : iMax (iI 0) (iMin (iI 99) e) = iI (max 0 (min 99 e.toInt)) := by
  obtain ⟨z, h1, h2, rfl⟩ := exI e
  rw [iMin_i (by omega) (by omega) (by omega) (by omega), iMax_i (by omega) (by omega) (by omega) (by omega), iI_toInt h1 h2]
section SH
variable {s t u : wM} {n : Nat} {T : Nat → Nat → Bool} {S : Nat → Nat → Int} {D SP : Nat → Int} {ap fi bk : Int} {kind m z y : Int}
theorem shD_s (i : Nat) : shD n D kind m z y (i + 1) = uI (shD n D kind m z y i) i (if kind = 3 ∨ m ≤ (i : Int) then 0 else max 0 (min 99 (shE kind (iI (z + (i : Int) * y))).toInt)) := by
  funext x
  unfold shD uI
  dsimp only
  by_cases h1 : x = i
  · subst h1; rw [if_pos (by omega), if_pos rfl]
  · by_cases h2 : x < i
    · rw [if_pos (by omega), if_neg h1, if_pos h2]
    · rw [if_neg (by omega), if_neg h1, if_neg h2]
theorem W_entry (hk : 0 ≤ kind ∧ kind ≤ 3) (v : Int32) : fW_entryOf s (iI kind) v = some (shE kind v) := by
  unfold fW_entryOf fW_entryOf_J18 shE
  simp only [iI_eq (a := kind) (b := 0) (by omega) (by omega) (by omega) (by omega), iI_eq (a := kind) (b := 1) (by omega) (by omega) (by omega) (by omega)]
  by_cases k0 : kind = 0
  · rw [if_pos k0, if_pos k0]
  · rw [if_neg k0, if_neg k0]
    by_cases k1 : kind = 1
    · rw [if_pos k1, if_pos k1]
    · rw [if_neg k1, if_neg k1]
theorem W_shL (hn : n ≤ 9) (hw : CW s n T S D SP ap fi bk) (hS : Cty n T S) (hk : 0 ≤ kind ∧ kind ≤ 3) (hm : 0 ≤ m ∧ m ≤ 9) : wh2 (fW_sheet_L44 (iI kind) (iI z) (iI y) (iI (if kind = 3 then 0 else m))) 100000 (iI 0) s = some (iI (if kind = 3 then -3 else sm (shD n D kind m z y n) n), wRo s 8 (fun j => iI (shD n D kind m z y n j))) := by
  have e0 : s = wRo s 8 (fun j => iI (shD n D kind m z y 0 j)) := (wR_id (by rw [show s.1 8 = _ from hw.2.1]; funext j; simp [shD])).symm
  conv => lhs; arg 4; rw [e0]
  refine for2b (fun i => wRo s 8 (fun j => iI (shD n D kind m z y i j))) (i0 := 0) (n := n) (Nat.zero_le _) (by omega) (fun i _ hi c => ?_) (fun c => ?_)
  · have hwi := hw.R8 (D' := shD n D kind m z y i)
    unfold fW_sheet_L44 fW_sheet_J90 fW_putToDepth
    rw [hwi.1.1, if_neg (by rw [iI_le (by omega) (by omega) (by omega) (by omega)]; omega), W_entry hk, Option.bind_some, Option.bind_some, put_i, chk_in (by omega) (by omega) (by omega), chk_in (by omega) (by omega) (by omega), iI_natc (by omega), iI_add, iI_mul, iI_add]
    simp only [nmM]
    have wS : ∀ v : Int, wsI (wRo s 8 fun j => iI (shD n D kind m z y i j)) 8 i (iI v) = wRo s 8 (fun j => iI (uI (shD n D kind m z y i) i v j)) := fun v => by rw [wsI_R (D := shD n D kind m z y i) wRo_at, wR_wR]
    rw [shD_s, wS, wS]
    by_cases h3 : kind = 3
    · rw [if_pos (show iI (if kind = 3 then 0 else m) ≤ iI (i : Int) by rw [if_pos h3, iI_le (by omega) (by omega) (by omega) (by omega)]; omega), if_pos (show kind = 3 ∨ m ≤ (i : Int) from Or.inl h3)]
    · by_cases hmi : m ≤ (i : Int)
      · rw [if_pos (show iI (if kind = 3 then 0 else m) ≤ iI (i : Int) by rw [if_neg h3, iI_le (by omega) (by omega) (by omega) (by omega)]; omega), if_pos (show kind = 3 ∨ m ≤ (i : Int) from Or.inr hmi)]
      · rw [if_neg (show ¬ iI (if kind = 3 then 0 else m) ≤ iI (i : Int) by rw [if_neg h3, iI_le (by omega) (by omega) (by omega) (by omega)]; omega), if_neg (show ¬ (kind = 3 ∨ m ≤ (i : Int)) by omega)]
  · have hwi := hw.R8 (D' := shD n D kind m z y n)
    unfold fW_sheet_L44 fW_sheet_J114
    rw [hwi.1.1, if_pos (by rw [iI_le (by omega) (by omega) (by omega) (by omega)]; omega), Land_allDepths hS hwi.1 hwi.2.1, Option.bind_some]
    simp only [iI_eq (a := kind) (b := 3) (by omega) (by omega) (by omega) (by omega)]
    by_cases h3 : kind = 3
    · rw [if_pos h3, if_pos h3]
    · rw [if_neg h3, if_neg h3]
theorem M_shL (hn : n ≤ 9) (hm' : CM s n T S D SP ap fi bk) (hk : 0 ≤ kind ∧ kind ≤ 3) (hm1 : -2147483648 ≤ m) (hm2 : m ≤ 9) : wh4 (fM_sheet_L46 (iI kind) (iI m) (iI y)) 100000 (iI 0) (iI z) (iI 0) s = some (iI (if kind = 3 then -3 else sm (shD n D kind m z y n) n), wRo s 163 (fun j => iI (shD n D kind m z y n j))) := by
  have e0 : s = wRo s 163 (fun j => iI (shD n D kind m z y 0 j)) := (wR_id (by rw [show s.1 163 = _ from hm'.2.1]; funext j; simp [shD])).symm
  refine wh4_w (Q := fun q => q = some (iI (if kind = 3 then -3 else sm (shD n D kind m z y n) n), wRo s 163 (fun j => iI (shD n D kind m z y n j)))) (fun k a b c u => ∃ i : Nat, i ≤ n ∧ k = n - i ∧ a = iI (sm (shD n D kind m z y n) i) ∧ b = iI (z + (i : Int) * y) ∧ c = iI (i : Int) ∧ u = wRo s 163 (fun j => iI (shD n D kind m z y i j))) ?_ 100000 n _ _ _ s (by omega) ⟨0, by omega, rfl, rfl, by simp, rfl, e0⟩
  rintro k a b c u ⟨i, g1, rfl, rfl, rfl, rfl, rfl⟩ kk hkk
  have hmi' := hm'.R163 (D' := shD n D kind m z y i)
  unfold fM_sheet_L46 fM_sheet_J78 fM_sheet_J97 fM_sheet_J112 fM_sheet_J150
  rw [hmi'.1.1]
  by_cases hi : i < n
  · have hk' := hkk (n - (i + 1)) _ _ _ _ (by omega) ⟨i + 1, by omega, rfl, rfl, rfl, rfl, rfl⟩
    have hval : shD n D kind m z y n i = (if kind = 3 ∨ m ≤ (i : Int) then 0 else max 0 (min 99 (shE kind (iI (z + (i : Int) * y))).toInt)) := by unfold shD; rw [if_pos hi]
    rw [show sm (shD n D kind m z y n) (i + 1) = sm (shD n D kind m z y n) i + shD n D kind m z y n i from rfl, hval, shD_s, show z + ((i + 1 : Nat) : Int) * y = z + (i : Int) * y + y by rw [show ((i + 1 : Nat) : Int) = (i : Int) + 1 by omega, Int.add_mul]; omega, show ((i + 1 : Nat) : Int) = (i : Int) + 1 by omega] at hk'
    rw [if_neg (by rw [iI_le (by omega) (by omega) (by omega) (by omega)]; omega)]
    have wS : ∀ v : Int, wsI (wRo s 163 fun j => iI (shD n D kind m z y i j)) 163 i (iI v) = wRo s 163 (fun j => iI (uI (shD n D kind m z y i) i v j)) := fun v => by rw [wsI_R (D := shD n D kind m z y i) wRo_at, wR_wR]
    simp only [nmM, chk_in (a := (i : Int)) (n := 9) (by omega) (by omega) (by omega), iI_natc (show i ≤ 2147483647 by omega), put_i, rd_at, wS, wRo_at, uI_at, iI_add, iI_eq (a := kind) (b := 0) (by omega) (by omega) (by omega) (by omega), iI_eq (a := kind) (b := 1) (by omega) (by omega) (by omega) (by omega), iI_eq (a := kind) (b := 3) (by omega) (by omega) (by omega) (by omega), iI_lt (a := (i : Int)) (b := m) (by omega) (by omega) (by omega) (by omega)]
    by_cases h3 : kind = 3
    · rw [if_pos (Or.inl h3)] at hk'
      subst h3
      simp only [show ¬ (3 : Int) = 0 by decide, show ¬ (3 : Int) = 1 by decide, if_false, if_true]
      exact hk'
    · by_cases hmi : m ≤ (i : Int)
      · rw [if_pos (Or.inr hmi), if_neg h3] at hk'
        simp only [h3, show ¬ (i : Int) < m by omega, if_false]
        split
        · exact hk'
        · split <;> exact hk'
      · rw [if_neg (show ¬ (kind = 3 ∨ m ≤ (i : Int)) by omega), if_neg h3] at hk'
        simp only [h3, show (i : Int) < m by omega, if_false, if_true]
        unfold shE at hk'
        by_cases k0 : kind = 0
        · rw [if_pos k0]; rw [if_pos k0] at hk'; exact hk'
        · rw [if_neg k0]; rw [if_neg k0] at hk'
          by_cases k1 : kind = 1
          · rw [if_pos k1]; rw [if_pos k1] at hk'; exact hk'
          · rw [if_neg k1]; rw [if_neg k1] at hk'; exact hk'
  · have : i = n := by omega
    subst this
    rw [if_pos (by rw [iI_le (by omega) (by omega) (by omega) (by omega)]; omega)]
    simp only [iI_eq (a := kind) (b := 3) (by omega) (by omega) (by omega) (by omega)]
    by_cases h3 : kind = 3
    · rw [if_pos h3, if_pos h3]
    · rw [if_neg h3, if_neg h3]
theorem shD_bd (h : Bd D 0 99) (i : Nat) : Bd (shD n D kind m z y i) 0 99 := fun x => by
  have := h x
  unfold shD; split
  · split <;> omega
  · exact h x
theorem shD_Z9 (hn : n ≤ 9) (h : Z9 D) : Z9 (shD n D kind m z y n) := fun x hx => by unfold shD; rw [if_neg (by omega)]; exact h x hx
theorem shD_3 : shD n D 3 m z y = shD n D 3 0 z y := by funext i x; unfold shD; simp
end SH
theorem op8 : op_8 wInv := fun s a1 a2 a3 a4 hI => by
  obtain ⟨n, T, S, D, SP, ap, fi, bk, G, w, pl, kp, tx, se, l, hv, hw, hm, r1, r2, hl⟩ := id hI
  obtain ⟨x, x1, x2, rfl⟩ := exI a1
  obtain ⟨m, m1, m2, rfl⟩ := exI a2
  obtain ⟨z, z1, z2, rfl⟩ := exI a3
  obtain ⟨y, y1, y2, rfl⟩ := exI a4
  have hn := hv.1.1.1
  have wE : fW_sheet s (iI x) (iI m) (iI z) (iI y) = if ¬ (0 ≤ x ∧ x ≤ 3) then some (iI (-1), s) else if 9 < m then some (iI (-1), s) else if x ≠ 3 ∧ m < 0 then some (iI (-2), s) else wh2 (fW_sheet_L44 (iI x) (iI z) (iI y) (iI (if x = 3 then 0 else m))) 100000 (iI 0) s := by
    unfold fW_sheet fW_sheet_J15 fW_sheet_J29 fW_sheet_J39
    rw [W_isWithin x1 x2 (by omega) (by omega) (by omega) (by omega), Option.bind_some]
    simp only [bI_0, decide_eq_false_iff_not, iI_eq x1 x2 (show (-2147483648 : Int) ≤ 3 by omega) (show (3 : Int) ≤ 2147483647 by omega), iI_le m1 m2 (show (-2147483648 : Int) ≤ 9 by omega) (show (9 : Int) ≤ 2147483647 by omega), iI_le (show (-2147483648 : Int) ≤ 0 by omega) (show (0 : Int) ≤ 2147483647 by omega) m1 m2]
    by_cases c1 : 0 ≤ x ∧ x ≤ 3
    · have nc : ¬ ¬ (0 ≤ x ∧ x ≤ 3) := fun h => h c1
      rw [if_neg nc, if_neg nc]
      by_cases c2 : m ≤ 9
      · have c2' : ¬ 9 < m := by omega
        by_cases c3 : x = 3
        · simp only [c2, c2', c3, if_true, if_false, ne_eq, not_true_eq_false, false_and]
        · by_cases c4 : 0 ≤ m
          · have c4' : ¬ m < 0 := by omega
            simp only [c2, c2', c3, c4, c4', if_true, if_false, and_false]
          · have c4' : m < 0 := by omega
            simp only [c2, c2', c3, c4, c4', if_true, if_false, ne_eq, not_false_eq_true, and_self]
      · have c2' : 9 < m := by omega
        simp only [c2, c2', if_true, if_false]
    · rw [if_pos c1, if_pos c1]
  have mE : ∀ u, fM_sheet u (iI x) (iI m) (iI z) (iI y) = if ¬ (0 ≤ x ∧ x ≤ 3) then some (iI (-1), wsI u 161 0 (iI 0)) else if 9 < m then some (iI (-1), wsI u 161 0 (iI 0)) else if x ≠ 3 ∧ m < 0 then some (iI (-2), wsI u 161 0 (iI 0)) else wh4 (fM_sheet_L46 (iI x) (iI m) (iI y)) 100000 (iI 0) (iI z) (iI 0) (wsI u 161 0 (iI 0)) := fun u => by
    unfold fM_sheet fM_sheet_J23 fM_sheet_J37
    simp only [nmM]
    rw [M_in, Option.bind_some, iL x1 x2]
    simp only [bI_0, decide_eq_false_iff_not, show (0 : Int64).toInt = 0 from rfl, show (3 : Int64).toInt = 3 from rfl, iI_eq x1 x2 (show (-2147483648 : Int) ≤ 3 by omega) (show (3 : Int) ≤ 2147483647 by omega), iI_le m1 m2 (show (-2147483648 : Int) ≤ 9 by omega) (show (9 : Int) ≤ 2147483647 by omega), iI_le (show (-2147483648 : Int) ≤ 0 by omega) (show (0 : Int) ≤ 2147483647 by omega) m1 m2]
    by_cases c1 : 0 ≤ x ∧ x ≤ 3
    · have nc : ¬ ¬ (0 ≤ x ∧ x ≤ 3) := fun h => h c1
      rw [if_neg nc, if_neg nc]
      by_cases c2 : m ≤ 9
      · have c2' : ¬ 9 < m := by omega
        by_cases c3 : x = 3
        · simp only [c2, c2', c3, if_true, if_false, ne_eq, not_true_eq_false, false_and]
        · by_cases c4 : 0 ≤ m
          · have c4' : ¬ m < 0 := by omega
            simp only [c2, c2', c3, c4, c4', if_true, if_false, and_false]
          · have c4' : m < 0 := by omega
            simp only [c2, c2', c3, c4, c4', if_true, if_false, ne_eq, not_false_eq_true, and_self]
      · have c2' : 9 < m := by omega
        simp only [c2, c2', if_true, if_false]
    · rw [if_pos c1, if_pos c1]
  rw [wE]
  by_cases c1 : 0 ≤ x ∧ x ≤ 3
  · by_cases c2 : 9 < m
    · rw [if_neg (by simpa using c1), if_pos c2]
      refine ⟨iI (-1), s, wsI s 161 0 (iI 0), rfl, ?_, wInv_thr hI⟩
      rw [mE, if_neg (by simpa using c1), if_pos c2]
    · by_cases c3 : x ≠ 3 ∧ m < 0
      · rw [if_neg (by simpa using c1), if_neg c2, if_pos c3]
        refine ⟨iI (-2), s, wsI s 161 0 (iI 0), rfl, ?_, wInv_thr hI⟩
        rw [mE, if_neg (by simpa using c1), if_neg c2, if_pos c3]
      · rw [if_neg (by simpa using c1), if_neg c2, if_neg c3]
        have eWy : wh2 (fW_sheet_L44 (iI x) (iI z) (iI y) (iI (if x = 3 then 0 else m))) 100000 (iI 0) s = some (iI (if x = 3 then -3 else sm (shD n D x m z y n) n), wRo s 8 (fun j => iI (shD n D x m z y n j))) := by
          by_cases h3 : x = 3
          · subst h3
            rw [shD_3 (m := m)]
            have := W_shL (kind := 3) (m := 0) (z := z) (y := y) hn hw.1 hv.1.1 (by omega) (by omega)
            simpa using this
          · exact W_shL hn hw.1 hv.1.1 c1 (by omega)
        rw [eWy]
        have lo : Lo s (wRo s 8 (fun j => iI (shD n D x m z y n j))) := fun k hk => wR_ne (by omega)
        have hm1 := hm.lo lo
        refine ⟨_, _, wRo (wsI (wRo s 8 (fun j => iI (shD n D x m z y n j))) 161 0 (iI 0)) 163 (fun j => iI (shD n D x m z y n j)), rfl, ?_, wInv_mk (s1 := wRo s 8 (fun j => iI (shD n D x m z y n j))) ⟨⟨hv.1.1, shD_bd hv.1.2.1 n, shD_Z9 hn hv.1.2.2.1, hv.1.2.2.2⟩, hv.2⟩ hw.R8 (fun k hk => by rw [wR_ne (by omega), rd_ne (by omega)]) (hm1.thr.R163) (r1.of (by rw [wR_ne (by decide)]) (wR_ne (by decide))) ((r2.lo lo).of (by rw [wR_ne (by decide), rd_of (by decide)]) (by rw [wR_ne (by decide), rd_ne (by decide)])) hl⟩
        rw [mE, if_neg (by simpa using c1), if_neg c2, if_neg c3, M_shL hn hm1.1.thr c1 m1 (by omega)]
  · rw [if_pos c1]
    refine ⟨iI (-1), s, wsI s 161 0 (iI 0), rfl, ?_, wInv_thr hI⟩
    rw [mE, if_pos c1]
