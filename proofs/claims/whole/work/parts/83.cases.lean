def wSc (G : wG) (X : wX) (b L : Nat) (xs : Nat → Int32) : Prop := match X with
  | (_, _, _, _, s, _, _, _, _, _, _, _, _, _) => va_X b L xs s s.heap ∧ b < s.heap.size ∧ ¬ wA G b
theorem wSc_cs {G : wG} {X : wX} {b L : Nat} {xs : Nat → Int32} {ce sl : Nat} (h : wSc G X b L xs) : wSc G (wCs X ce sl) b L xs := by
  obtain ⟨p, l, e, R, s0, m, args, below, meth, c, Q, nL, cells, slots⟩ := X
  exact h
theorem wNl_cs {X : wX} {ce sl : Nat} : wNl (wCs X ce sl) = wNl X := by
  obtain ⟨p, l, e, R, s0, m, args, below, meth, c, Q, nL, cells, slots⟩ := X
  rfl
section LWR
variable {G : wG} {X : wX} {cc : ByteArray} {own : String} {ret : Option FieldType} {d pc : Nat} {loc : List (Nat × Value)} {st : List Value} {s : wM} {b L : Nat} {xs : Nat → Int32}
theorem wb_slen (hX : wOK G X cc own ret d) (hS0 : wSc G X b L xs) (hd : decode cc pc = .ok (.arraylength, 1)) {pq : Nat} (hp : pc + 1 = pq) (kk : WB G X pq loc (.int (Int32.ofNat L) :: st) s) : WB G X pc loc (.ref b :: st) s := by
  obtain ⟨p, l, e, R, s0, m, args, below, meth, c, Q, nL, cells, slots⟩ := X
  obtain ⟨hx, hb, hr, hml, hown, hT, hK, hlk, hG, hfr, hlo, hce, hsl⟩ := hX
  intro H locs ls hP hS hl
  subst hp
  exact va_slen hx hb hS0.1 hS0.2.1 hS0.2.2 hS hd (kk H locs ls hP hS hl)
theorem wb_sld {i : Int32} (hX : wOK G X cc own ret d) (hS0 : wSc G X b L xs) (hin : vp_in i L) (hd : decode cc pc = .ok (.iaload, 1)) {pq : Nat} (hp : pc + 1 = pq) (kk : WB G X pq loc (.int (xs i.toNatClampNeg) :: st) s) : WB G X pc loc (.int i :: .ref b :: st) s := by
  obtain ⟨p, l, e, R, s0, m, args, below, meth, c, Q, nL, cells, slots⟩ := X
  obtain ⟨hx, hb, hr, hml, hown, hT, hK, hlk, hG, hfr, hlo, hce, hsl⟩ := hX
  intro H locs ls hP hS hl
  subst hp
  exact va_sld hx hb hS0.1 hS0.2.1 hS0.2.2 hS hin hd (kk H locs ls hP hS hl)
/-- what the law's walk knows beside: no stack traces, what a throw needs -/
def wLx (G : wG) (X : wX) : Prop := match X with
  | (_, l, _, _, s, _, _, _, _, _, _, _, _, _) => l.stackTraces = false ∧ wXs G s
def wMw (own : String) (idx : Nat) (y : MethodName) (bytes : ByteArray) (maxL : Nat) (rt : Option FieldType) (hh : List (Nat × Nat × Nat × Nat)) (n : Nat) : Prop := Cond.methodLink own idx y ∈ wTs ∧ Cond.static y ∈ wTs ∧ Cond.initialized y.cls ∈ wTs ∧ Cond.codeWith y bytes maxL rt hh ∈ wTs ∧ (y.cls ≠ "java/lang/invoke/MethodHandle" ∧ y.cls ≠ "java/lang/invoke/VarHandle" ∧ (parseMethodDescriptor y.desc).map (fun d => d.parameters.length) = some n)
set_option maxHeartbeats 4000000 in
theorem wb_callF {idx maxL n d1 : Nat} {y : MethodName} {bytes : ByteArray} {rt : Option FieldType} {hh : List (Nat × Nat × Nat × Nat)} {r0 : Int32} {s1 : wM} {st0 rest : List Value} (As : List Value) (hX : wOK G X cc own ret d) (hx0 : wLx G X) (hM : wMw own idx y bytes maxL rt hh n) (hC : wMetF X.2.1 G y bytes maxL rt hh d1 As s (wQi G r0 s1)) (hd1 : d1 < d ∧ maxL ≤ 40) (hn : As.length = n) (hst : st0 = As.reverse ++ rest) (hcat : (rest.map fun v => v.category).sum ≤ 8) (hd : decode cc pc = .ok (.invokestatic idx, 3)) (hf : wCf X ((wCn X).1 + 1) ((wCn X).2 + 6)) {pq : Nat} (hp : pc + 3 = pq) (kk : WB G (wCs X ((wCn X).1 + 1) ((wCn X).2 + 6)) pq loc (.int r0 :: rest) s1) : WB G X pc loc st0 s := by
  obtain ⟨p, l, e, R, s0, m, args, below, meth, c, Q, nL, cells, slots⟩ := X
  obtain ⟨hx, hb, hr, hml, hown, hT, hK, hlk, hG, hfr, hlo, hce, hsl⟩ := hX
  intro H locs ls hP hS hl
  subst hp hst
  obtain ⟨w1, w2, w4, w5, w6⟩ := hM
  have hgd : GoodIn wTs [Cond.codeWith y bytes maxL rt hh] := fun w hw => by
    rw [List.mem_singleton.mp hw]
    exact ⟨w5, good_of_word (List.mem_filter.mp w5).2⟩
  have hrun := vx_runSW (As := As) (rest := rest) (R := R) (cells := cells) (slots := slots) (locs := locs) (below := below) (meth := meth) (e := e) (args := args) (index := idx) ⟨hx, hb, hml, hown, fun w hw => hT.1 w hw _⟩ hC ⟨⟨rfl, rfl, by simp only [wRmC]; omega, by simp only [wRmC]; omega, pay_in (args := args) (fun w hw => hT.1 w hw _) hgd, List.mem_cons_self⟩, hT.1 _ w5 _, hT.1 _ w4 _, ⟨w6.1, w6.2.1⟩, fun sig h => by have h2 := w6.2.2; rw [h] at h2; exact (Option.some.inj h2).symm, hT.1 _ w1 _, hT.1 _ w2 _⟩ ⟨wPcX_blind, fun U hU hW => ⟨rfl, ⟨by rw [hU]; exact hP, va_K.moved hW.alike hK, hT.warm hW, hG⟩, hx0.2.go hU hW hS⟩⟩ (g := F0 m pc ls (As.reverse ++ rest)) rfl hn hl.1 rfl (lv_room (pc := pc) (ls := ls) (m := m) (rest := As.reverse ++ rest) hcat) hd ⟨hf.1, hf.2⟩
  refine va_calli hrun hS (fun q _ h => h) (fun q h => h) (fun r u t H1 locs1 ht hvm hw hB hz1 hk1 hS1 => ?_)
  obtain ⟨rfl, rfl⟩ := hw
  exact kk H1 locs1 ls (by rw [← ht]; exact hB) hS1 hl
end LWR
theorem sh_161z : wSh[161]? = some (.inr (11, [none, none, some 162, none, some 163, some 164, some 165, some 166, some 167, some 168, none, some 169, none, none, none, none, some 170, some 171, some 172, some 173, none, some 174, some 175, some 176, some 177, none, some 178, none, some 179, some 180, some 181, some 182, some 183, some 184, none, none, some 185, none, some 186, some 187, some 188, some 189, some 190, none, some 191, some 192, some 193, some 194, some 195])) := rfl
theorem lg_cmp_self (x : Int64) : lg_cmp x x = iI 0 := by
  have h : ¬ x > x := fun h => Int64.lt_irrefl h
  simp [lg_cmp, h, iI_0]
theorem ml_365 : wMv RL 23 yX10_sign cX10_sign 2 (some .int) 10 1 := ⟨k_365, k_366, k_367, k_1, k_368, by decide +kernel, _, rfl, rfl⟩
theorem ml_1116 : wMv RL 26 yX11_sign cX11_sign 3 (some .int) 11 1 := ⟨k_1116, k_1117, k_1118, k_13, k_1119, by decide +kernel, _, rfl, rfl⟩
theorem ml_373 : wMv RL 27 yX10_end cX10_end 2 (some .boolean) 10 1 := ⟨k_373, k_374, k_375, k_1, k_376, by decide +kernel, _, rfl, rfl⟩
theorem ml_1120 : wMv RL 31 yX11_end cX11_end 2 (some .boolean) 11 1 := ⟨k_1120, k_1121, k_1122, k_13, k_1123, by decide +kernel, _, rfl, rfl⟩
theorem ml_381 : wMv RL 32 yX10_county cX10_county 3 (some .int) 10 0 := ⟨k_381, k_382, k_383, k_1, k_384, by decide +kernel, _, rfl, rfl⟩
theorem ml_1127 : wMv RL 36 yX11_county cX11_county 7 (some .int) 11 0 := ⟨k_1127, k_1128, k_1129, k_13, k_1130, by decide +kernel, _, rfl, rfl⟩
theorem ml_447 : wMv RL 46 yX10_stone cX10_stone 4 (some .int) 10 2 := ⟨k_447, k_448, k_449, k_1, k_450, by decide +kernel, _, rfl, rfl⟩
theorem ml_1191 : wMv RL 49 yX11_stone cX11_stone 3 (some .int) 11 2 := ⟨k_1191, k_1192, k_1193, k_13, k_1194, by decide +kernel, _, rfl, rfl⟩
theorem ml_463 : wMv RL 50 yX10_touch cX10_touch 4 (some .boolean) 10 3 := ⟨k_463, k_464, k_465, k_1, k_466, by decide +kernel, _, rfl, rfl⟩
theorem ml_1199 : wMv RL 54 yX11_touch cX11_touch 4 (some .boolean) 11 3 := ⟨k_1199, k_1200, k_1201, k_13, k_1202, by decide +kernel, _, rfl, rfl⟩
theorem ml_470 : wMv RL 55 yX10_law cX10_law 4 (some .int) 10 2 := ⟨k_470, k_471, k_472, k_1, k_473, by decide +kernel, _, rfl, rfl⟩
theorem ml_1210 : wMv RL 58 yX11_law cX11_law 4 (some .int) 11 2 := ⟨k_1210, k_1211, k_1212, k_13, k_1213, by decide +kernel, _, rfl, rfl⟩
theorem ml_474 : wMv RL 59 yX10_set cX10_set 6 (some .int) 10 3 := ⟨k_474, k_475, k_476, k_1, k_477, by decide +kernel, _, rfl, rfl⟩
theorem ml_1215 : wMv RL 63 yX11_set cX11_set 6 (some .int) 11 3 := ⟨k_1215, k_1216, k_1217, k_13, k_1218, by decide +kernel, _, rfl, rfl⟩
theorem ml_479 : wMv RL 64 yX10_sheet cX10_sheet 7 (some .int) 10 4 := ⟨k_479, k_480, k_481, k_1, k_482, by decide +kernel, _, rfl, rfl⟩
theorem ml_1220 : wMv RL 68 yX11_sheet cX11_sheet 9 (some .int) 11 4 := ⟨k_1220, k_1221, k_1222, k_13, k_1223, by decide +kernel, _, rfl, rfl⟩
theorem ml_497 : wMv RL 69 yX10_carry cX10_carry 3 (some .int) 10 2 := ⟨k_497, k_498, k_499, k_1, k_500, by decide +kernel, _, rfl, rfl⟩
theorem ml_1229 : wMv RL 72 yX11_carry cX11_carry 3 (some .int) 11 2 := ⟨k_1229, k_1230, k_1231, k_13, k_1232, by decide +kernel, _, rfl, rfl⟩
theorem ml_527 : wMv RL 73 yX10_night cX10_night 6 (some .int) 10 0 := ⟨k_527, k_528, k_529, k_1, k_530, by decide +kernel, _, rfl, rfl⟩
theorem ml_1253 : wMv RL 76 yX11_night cX11_night 9 (some .int) 11 0 := ⟨k_1253, k_1254, k_1255, k_13, k_1256, by decide +kernel, _, rfl, rfl⟩
theorem ml_551 : wMv RL 77 yX10_week cX10_week 4 (some .int) 10 2 := ⟨k_551, k_552, k_553, k_1, k_554, by decide +kernel, _, rfl, rfl⟩
theorem ml_1267 : wMv RL 80 yX11_week cX11_week 4 (some .int) 11 2 := ⟨k_1267, k_1268, k_1269, k_13, k_1270, by decide +kernel, _, rfl, rfl⟩
theorem ml_609 : wMv RL 81 yX10_weeks cX10_weeks 6 (some .int) 10 1 := ⟨k_609, k_610, k_611, k_1, k_612, by decide +kernel, _, rfl, rfl⟩
theorem ml_1293 : wMv RL 84 yX11_weeks cX11_weeks 5 (some .int) 11 1 := ⟨k_1293, k_1294, k_1295, k_13, k_1296, by decide +kernel, _, rfl, rfl⟩
theorem ml_613 : wMv RL 85 yX10_undo cX10_undo 1 (some .int) 10 0 := ⟨k_613, k_614, k_615, k_1, k_616, by decide +kernel, _, rfl, rfl⟩
theorem ml_1225 : wMv RL 88 yX11_undo cX11_undo 2 (some .int) 11 0 := ⟨k_1225, k_1226, k_1227, k_13, k_1228, by decide +kernel, _, rfl, rfl⟩
theorem ml_625 : wMv RL 89 yX10_even cX10_even 4 (some .int) 10 0 := ⟨k_625, k_626, k_627, k_1, k_628, by decide +kernel, _, rfl, rfl⟩
theorem ml_1298 : wMv RL 92 yX11_even cX11_even 4 (some .int) 11 0 := ⟨k_1298, k_1299, k_1300, k_13, k_1301, by decide +kernel, _, rfl, rfl⟩
theorem ml_643 : wMv RL 93 yX10_fewest cX10_fewest 1 (some .int) 10 0 := ⟨k_643, k_644, k_645, k_1, k_646, by decide +kernel, _, rfl, rfl⟩
theorem ml_1339 : wMv RL 96 yX11_fewest cX11_fewest 1 (some .int) 11 0 := ⟨k_1339, k_1340, k_1341, k_13, k_1342, by decide +kernel, _, rfl, rfl⟩
theorem ml_721 : wMv RL 97 yX10_reach cX10_reach 6 (some .int) 10 1 := ⟨k_721, k_722, k_723, k_1, k_724, by decide +kernel, _, rfl, rfl⟩
theorem ml_1302 : wMv RL 100 yX11_reach cX11_reach 6 (some .int) 11 1 := ⟨k_1302, k_1303, k_1304, k_13, k_1305, by decide +kernel, _, rfl, rfl⟩
theorem ml_731 : wMv RL 101 yX10_selfish cX10_selfish 3 (some .int) 10 1 := ⟨k_731, k_732, k_733, k_1, k_734, by decide +kernel, _, rfl, rfl⟩
theorem ml_1355 : wMv RL 104 yX11_selfish cX11_selfish 3 (some .int) 11 1 := ⟨k_1355, k_1356, k_1357, k_13, k_1358, by decide +kernel, _, rfl, rfl⟩
theorem ml_753 : wMv RL 105 yX10_rests cX10_rests 5 (some .int) 10 1 := ⟨k_753, k_754, k_755, k_1, k_756, by decide +kernel, _, rfl, rfl⟩
theorem ml_1363 : wMv RL 108 yX11_rests cX11_rests 7 (some .int) 11 1 := ⟨k_1363, k_1364, k_1365, k_13, k_1366, by decide +kernel, _, rfl, rfl⟩
theorem ml_761 : wMv RL 109 yX10_alter cX10_alter 6 (some .int) 10 1 := ⟨k_761, k_762, k_763, k_1, k_764, by decide +kernel, _, rfl, rfl⟩
theorem ml_1368 : wMv RL 112 yX11_alter cX11_alter 6 (some .int) 11 1 := ⟨k_1368, k_1369, k_1370, k_13, k_1371, by decide +kernel, _, rfl, rfl⟩
theorem ml_773 : wMv RL 113 yX10_fill cX10_fill 3 (some .int) 10 2 := ⟨k_773, k_774, k_775, k_1, k_776, by decide +kernel, _, rfl, rfl⟩
theorem ml_1351 : wMv RL 116 yX11_fill cX11_fill 3 (some .int) 11 2 := ⟨k_1351, k_1352, k_1353, k_13, k_1354, by decide +kernel, _, rfl, rfl⟩
theorem ml_777 : wMv RL 117 yX10_colours cX10_colours 2 (some .int) 10 0 := ⟨k_777, k_778, k_779, k_1, k_780, by decide +kernel, _, rfl, rfl⟩
theorem ml_1372 : wMv RL 120 yX11_colours cX11_colours 3 (some .int) 11 0 := ⟨k_1372, k_1373, k_1374, k_13, k_1375, by decide +kernel, _, rfl, rfl⟩
theorem ml_802 : wMv RL 121 yX10_clique cX10_clique 2 (some .int) 10 0 := ⟨k_802, k_803, k_804, k_1, k_805, by decide +kernel, _, rfl, rfl⟩
theorem ml_1384 : wMv RL 124 yX11_clique cX11_clique 5 (some .int) 11 0 := ⟨k_1384, k_1385, k_1386, k_13, k_1387, by decide +kernel, _, rfl, rfl⟩
theorem ml_816 : wMv RL 125 yX10_lowest cX10_lowest 2 (some .int) 10 0 := ⟨k_816, k_817, k_818, k_1, k_819, by decide +kernel, _, rfl, rfl⟩
theorem ml_1388 : wMv RL 128 yX11_lowest cX11_lowest 3 (some .int) 11 0 := ⟨k_1388, k_1389, k_1390, k_13, k_1391, by decide +kernel, _, rfl, rfl⟩
theorem ml_820 : wMv RL 129 yX10_place cX10_place 6 (some .int) 10 1 := ⟨k_820, k_821, k_822, k_1, k_823, by decide +kernel, _, rfl, rfl⟩
theorem ml_1392 : wMv RL 132 yX11_place cX11_place 8 (some .int) 11 1 := ⟨k_1392, k_1393, k_1394, k_13, k_1395, by decide +kernel, _, rfl, rfl⟩
theorem ml_824 : wMv RL 133 yX10_lasts cX10_lasts 1 (some .int) 10 0 := ⟨k_824, k_825, k_826, k_1, k_827, by decide +kernel, _, rfl, rfl⟩
theorem ml_1396 : wMv RL 136 yX11_lasts cX11_lasts 1 (some .int) 11 0 := ⟨k_1396, k_1397, k_1398, k_13, k_1399, by decide +kernel, _, rfl, rfl⟩
theorem ml_837 : wMv RL 137 yX10_later cX10_later 4 (some .int) 10 2 := ⟨k_837, k_838, k_839, k_1, k_840, by decide +kernel, _, rfl, rfl⟩
theorem ml_1408 : wMv RL 140 yX11_later cX11_later 4 (some .int) 11 2 := ⟨k_1408, k_1409, k_1410, k_13, k_1411, by decide +kernel, _, rfl, rfl⟩
theorem ml_841 : wMv RL 141 yX10_still cX10_still 3 (some .int) 10 0 := ⟨k_841, k_842, k_843, k_1, k_844, by decide +kernel, _, rfl, rfl⟩
theorem ml_1416 : wMv RL 144 yX11_still cX11_still 5 (some .int) 11 0 := ⟨k_1416, k_1417, k_1418, k_13, k_1419, by decide +kernel, _, rfl, rfl⟩
theorem ml_845 : wMv RL 145 yX10_keeps cX10_keeps 7 (some .int) 10 2 := ⟨k_845, k_846, k_847, k_1, k_848, by decide +kernel, _, rfl, rfl⟩
theorem ml_1420 : wMv RL 148 yX11_keeps cX11_keeps 8 (some .int) 11 2 := ⟨k_1420, k_1421, k_1422, k_13, k_1423, by decide +kernel, _, rfl, rfl⟩
theorem ml_858 : wMv RL 149 yX10_mercy cX10_mercy 3 (some .int) 10 1 := ⟨k_858, k_859, k_860, k_1, k_861, by decide +kernel, _, rfl, rfl⟩
theorem ml_1425 : wMv RL 152 yX11_mercy cX11_mercy 7 (some .int) 11 1 := ⟨k_1425, k_1426, k_1427, k_13, k_1428, by decide +kernel, _, rfl, rfl⟩
theorem ml_887 : wMv RL 153 yX10_drought cX10_drought 3 (some .int) 10 1 := ⟨k_887, k_888, k_889, k_1, k_890, by decide +kernel, _, rfl, rfl⟩
theorem ml_1429 : wMv RL 156 yX11_drought cX11_drought 5 (some .int) 11 1 := ⟨k_1429, k_1430, k_1431, k_13, k_1432, by decide +kernel, _, rfl, rfl⟩
theorem ml_896 : wMv RL 157 yX10_clash cX10_clash 5 (some .int) 10 2 := ⟨k_896, k_897, k_898, k_1, k_899, by decide +kernel, _, rfl, rfl⟩
theorem ml_1433 : wMv RL 160 yX11_clash cX11_clash 4 (some .int) 11 2 := ⟨k_1433, k_1434, k_1435, k_13, k_1436, by decide +kernel, _, rfl, rfl⟩
theorem ml_906 : wMv RL 161 yX10_payer cX10_payer 5 (some .int) 10 1 := ⟨k_906, k_907, k_908, k_1, k_909, by decide +kernel, _, rfl, rfl⟩
theorem ml_1437 : wMv RL 164 yX11_payer cX11_payer 5 (some .int) 11 1 := ⟨k_1437, k_1438, k_1439, k_13, k_1440, by decide +kernel, _, rfl, rfl⟩
theorem ml_914 : wMv RL 165 yX10_pray cX10_pray 7 (some .int) 10 1 := ⟨k_914, k_915, k_916, k_1, k_917, by decide +kernel, _, rfl, rfl⟩
theorem ml_1441 : wMv RL 168 yX11_pray cX11_pray 7 (some .int) 11 1 := ⟨k_1441, k_1442, k_1443, k_13, k_1444, by decide +kernel, _, rfl, rfl⟩
theorem ml_922 : wMv RL 169 yX10_seal cX10_seal 6 (some .int) 10 0 := ⟨k_922, k_923, k_924, k_1, k_925, by decide +kernel, _, rfl, rfl⟩
theorem ml_1445 : wMv RL 172 yX11_seal cX11_seal 8 (some .int) 11 0 := ⟨k_1445, k_1446, k_1447, k_13, k_1448, by decide +kernel, _, rfl, rfl⟩
theorem ml_927 : wMv RL 173 yX10_road cX10_road 6 (some .int) 10 2 := ⟨k_927, k_928, k_929, k_1, k_930, by decide +kernel, _, rfl, rfl⟩
theorem ml_1449 : wMv RL 176 yX11_road cX11_road 6 (some .int) 11 2 := ⟨k_1449, k_1450, k_1451, k_13, k_1452, by decide +kernel, _, rfl, rfl⟩
theorem ml_943 : wMv RL 177 yX10_boon cX10_boon 6 (some .int) 10 0 := ⟨k_943, k_944, k_945, k_1, k_946, by decide +kernel, _, rfl, rfl⟩
theorem ml_1453 : wMv RL 180 yX11_boon cX11_boon 6 (some .int) 11 0 := ⟨k_1453, k_1454, k_1455, k_13, k_1456, by decide +kernel, _, rfl, rfl⟩
theorem ml_947 : wMv RL 181 yX10_seen cX10_seen 3 (some .int) 10 2 := ⟨k_947, k_948, k_949, k_1, k_950, by decide +kernel, _, rfl, rfl⟩
theorem ml_1460 : wMv RL 184 yX11_seen cX11_seen 3 (some .int) 11 2 := ⟨k_1460, k_1461, k_1462, k_13, k_1463, by decide +kernel, _, rfl, rfl⟩
theorem ml_955 : wMv RL 185 yX10_forget cX10_forget 1 (some .int) 10 0 := ⟨k_955, k_956, k_957, k_1, k_958, by decide +kernel, _, rfl, rfl⟩
theorem ml_1465 : wMv RL 188 yX11_forget cX11_forget 1 (some .int) 11 0 := ⟨k_1465, k_1466, k_1467, k_13, k_1468, by decide +kernel, _, rfl, rfl⟩
theorem ml_959 : wMv RL 189 yX10_springs cX10_springs 4 (some .int) 10 1 := ⟨k_959, k_960, k_961, k_1, k_962, by decide +kernel, _, rfl, rfl⟩
theorem ml_1469 : wMv RL 192 yX11_springs cX11_springs 5 (some .int) 11 1 := ⟨k_1469, k_1470, k_1471, k_13, k_1472, by decide +kernel, _, rfl, rfl⟩
theorem ml_970 : wMv RL 193 yX10_stones cX10_stones 6 (some .int) 10 2 := ⟨k_970, k_971, k_972, k_1, k_973, by decide +kernel, _, rfl, rfl⟩
theorem ml_1477 : wMv RL 196 yX11_stones cX11_stones 6 (some .int) 11 2 := ⟨k_1477, k_1478, k_1479, k_13, k_1480, by decide +kernel, _, rfl, rfl⟩
theorem ml_974 : wMv RL 197 yX10_nights cX10_nights 5 (some .int) 10 0 := ⟨k_974, k_975, k_976, k_1, k_977, by decide +kernel, _, rfl, rfl⟩
theorem ml_1481 : wMv RL 200 yX11_nights cX11_nights 4 (some .int) 11 0 := ⟨k_1481, k_1482, k_1483, k_13, k_1484, by decide +kernel, _, rfl, rfl⟩
theorem ml_982 : wMv RL 201 yX10_sunday cX10_sunday 6 (some .int) 10 0 := ⟨k_982, k_983, k_984, k_1, k_985, by decide +kernel, _, rfl, rfl⟩
theorem ml_1485 : wMv RL 204 yX11_sunday cX11_sunday 6 (some .int) 11 0 := ⟨k_1485, k_1486, k_1487, k_13, k_1488, by decide +kernel, _, rfl, rfl⟩
theorem ml_998 : wMv RL 205 yX10_divide cX10_divide 6 (some .int) 10 2 := ⟨k_998, k_999, k_1000, k_1, k_1001, by decide +kernel, _, rfl, rfl⟩
theorem ml_1489 : wMv RL 208 yX11_divide cX11_divide 5 (some .int) 11 2 := ⟨k_1489, k_1490, k_1491, k_13, k_1492, by decide +kernel, _, rfl, rfl⟩
theorem ml_1002 : wMv RL 209 yX10_keep cX10_keep 2 (some .boolean) 10 1 := ⟨k_1002, k_1003, k_1004, k_1, k_1005, by decide +kernel, _, rfl, rfl⟩
theorem ml_1493 : wMv RL 212 yX11_keep cX11_keep 4 (some .boolean) 11 1 := ⟨k_1493, k_1494, k_1495, k_13, k_1496, by decide +kernel, _, rfl, rfl⟩
theorem ml_1007 : wMv RL 213 yX10_again cX10_again 2 (some .boolean) 10 1 := ⟨k_1007, k_1008, k_1009, k_1, k_1010, by decide +kernel, _, rfl, rfl⟩
theorem ml_1497 : wMv RL 216 yX11_again cX11_again 4 (some .boolean) 11 1 := ⟨k_1497, k_1498, k_1499, k_13, k_1500, by decide +kernel, _, rfl, rfl⟩
theorem ml_1016 : wMv RL 217 yX10_count cX10_count 2 (some .int) 10 1 := ⟨k_1016, k_1017, k_1018, k_1, k_1019, by decide +kernel, _, rfl, rfl⟩
theorem ml_1501 : wMv RL 220 yX11_count cX11_count 2 (some .int) 11 1 := ⟨k_1501, k_1502, k_1503, k_13, k_1504, by decide +kernel, _, rfl, rfl⟩
theorem mw_1029 : wMw RL 37 yL_farm cL_farm 5 (some .int) [(0, 10, 13, 13)] 4 := ⟨k_1029, k_1030, k_0, k_1031, by decide +kernel⟩
theorem ml_1166 : wMv RL 42 yX11_farm cX11_farm 3 (some .int) 11 2 := ⟨k_1166, k_1167, k_1168, k_13, k_1169, by decide +kernel, _, rfl, rfl⟩
theorem ml_1112 : wMv RL 43 yX11_thrown cX11_thrown 1 (some .int) 11 0 := ⟨k_1112, k_1113, k_1114, k_13, k_1115, by decide +kernel, _, rfl, rfl⟩
theorem mw_1104 : wMw RL 221 yL_row cL_row 4 (some .int) [(0, 9, 12, 13)] 3 := ⟨k_1104, k_1105, k_0, k_1106, by decide +kernel⟩
theorem ml_1667 : wMv RL 224 yX11_row cX11_row 2 (some .int) 11 1 := ⟨k_1667, k_1668, k_1669, k_13, k_1670, by decide +kernel, _, rfl, rfl⟩
set_option maxHeartbeats 4000000 in
set_option maxRecDepth 100000 in
theorem law_0 {G : wG} {X : wX} {b L : Nat} {xs : Nat → Int32} {x4 r : Int32} {s s1 s2 : wM} (hX : wOK G X code RL (some .boolean) 60) (hSc : wSc G X b L xs) (h1 : vp_in (x4 + iI (1)) L) (hc : fW_sign s (xs (x4 + iI (1)).toNatClampNeg) = some (r, s1)) (hm : fM_sign s1 (xs (x4 + iI (1)).toNatClampNeg) = some (r, s2)) (k : WB G X 1566 [(0, .ref b), (1, .ref (G.1 0)), (2, .ref (G.1 161)), (3, .ref (G.1 196)), (4, .int x4)] [] s2) : WB G X 244 [(0, .ref b), (1, .ref (G.1 0)), (2, .ref (G.1 161)), (3, .ref (G.1 196)), (4, .int x4)] [] s := by
  refine wb_aload_n 1 hX dL_law_244 rfl (pq := 245) rfl ?_
  refine wb_aload_n 0 hX dL_law_245 rfl (pq := 246) rfl ?_
  refine wb_iload 4 hX dL_law_246 rfl (pq := 248) rfl ?_
  refine wb_iconst (v := iI (1)) hX dL_law_248 rfl (pq := 249) rfl ?_
  refine wb_iadd hX dL_law_249 (pq := 250) rfl ?_
  refine wb_sld hX hSc h1 dL_law_250 (pq := 251) rfl ?_
  refine wb_callVi (r0 := r) (s1 := s1) [.int (xs (x4 + iI (1)).toNatClampNeg)] hX sh_0z ml_365 (tW_sign hc) (by decide) rfl rfl (Nat.le_of_ble_eq_true rfl) dL_law_251 (pq := 254) rfl ?_
  refine wb_aload_n 2 hX dL_law_254 rfl (pq := 255) rfl ?_
  refine wb_aload_n 0 hX dL_law_255 rfl (pq := 256) rfl ?_
  refine wb_iload 4 hX dL_law_256 rfl (pq := 258) rfl ?_
  refine wb_iconst (v := iI (1)) hX dL_law_258 rfl (pq := 259) rfl ?_
  refine wb_iadd hX dL_law_259 (pq := 260) rfl ?_
  refine wb_sld hX hSc h1 dL_law_260 (pq := 261) rfl ?_
  refine wb_callVi (r0 := r) (s1 := s2) [.int (xs (x4 + iI (1)).toNatClampNeg)] hX sh_161z ml_1116 (tM_sign hm) (by decide) rfl rfl (Nat.le_of_ble_eq_true rfl) dL_law_261 (pq := 264) rfl ?_
  exact wb_icmp_eq (tgt := 1566) hX dL_law_264 (by decide) (fun _ => k) (pq := 267) rfl (fun c => absurd rfl c)
set_option maxHeartbeats 4000000 in
set_option maxRecDepth 100000 in
theorem law_1 {G : wG} {X : wX} {b L : Nat} {xs : Nat → Int32} {x4 r : Int32} {s s1 s2 : wM} (hX : wOK G X code RL (some .boolean) 60) (hSc : wSc G X b L xs) (h1 : vp_in (x4 + iI (1)) L) (hc : fW_end s (xs (x4 + iI (1)).toNatClampNeg) = some (r, s1)) (hm : fM_end s1 (xs (x4 + iI (1)).toNatClampNeg) = some (r, s2)) (k : WB G X 1566 [(0, .ref b), (1, .ref (G.1 0)), (2, .ref (G.1 161)), (3, .ref (G.1 196)), (4, .int x4)] [] s2) : WB G X 269 [(0, .ref b), (1, .ref (G.1 0)), (2, .ref (G.1 161)), (3, .ref (G.1 196)), (4, .int x4)] [] s := by
  refine wb_aload_n 1 hX dL_law_269 rfl (pq := 270) rfl ?_
  refine wb_aload_n 0 hX dL_law_270 rfl (pq := 271) rfl ?_
  refine wb_iload 4 hX dL_law_271 rfl (pq := 273) rfl ?_
  refine wb_iconst (v := iI (1)) hX dL_law_273 rfl (pq := 274) rfl ?_
  refine wb_iadd hX dL_law_274 (pq := 275) rfl ?_
  refine wb_sld hX hSc h1 dL_law_275 (pq := 276) rfl ?_
  refine wb_callVi (r0 := r) (s1 := s1) [.int (xs (x4 + iI (1)).toNatClampNeg)] hX sh_0z ml_373 (tW_end hc) (by decide) rfl rfl (Nat.le_of_ble_eq_true rfl) dL_law_276 (pq := 279) rfl ?_
  refine wb_aload_n 2 hX dL_law_279 rfl (pq := 280) rfl ?_
  refine wb_aload_n 0 hX dL_law_280 rfl (pq := 281) rfl ?_
  refine wb_iload 4 hX dL_law_281 rfl (pq := 283) rfl ?_
  refine wb_iconst (v := iI (1)) hX dL_law_283 rfl (pq := 284) rfl ?_
  refine wb_iadd hX dL_law_284 (pq := 285) rfl ?_
  refine wb_sld hX hSc h1 dL_law_285 (pq := 286) rfl ?_
  refine wb_callVi (r0 := r) (s1 := s2) [.int (xs (x4 + iI (1)).toNatClampNeg)] hX sh_161z ml_1120 (tM_end hm) (by decide) rfl rfl (Nat.le_of_ble_eq_true rfl) dL_law_286 (pq := 289) rfl ?_
  exact wb_icmp_eq (tgt := 1566) hX dL_law_289 (by decide) (fun _ => k) (pq := 292) rfl (fun c => absurd rfl c)
set_option maxHeartbeats 4000000 in
set_option maxRecDepth 100000 in
theorem law_2 {G : wG} {X : wX} {b L : Nat} {xs : Nat → Int32} {x4 r : Int32} {s s1 s2 : wM} (hX : wOK G X code RL (some .boolean) 60) (hSc : wSc G X b L xs)  (hc : fW_county s  = some (r, s1)) (hm : fM_county s1  = some (r, s2)) (k : WB G X 1566 [(0, .ref b), (1, .ref (G.1 0)), (2, .ref (G.1 161)), (3, .ref (G.1 196)), (4, .int x4)] [] s2) : WB G X 294 [(0, .ref b), (1, .ref (G.1 0)), (2, .ref (G.1 161)), (3, .ref (G.1 196)), (4, .int x4)] [] s := by
  refine wb_aload_n 1 hX dL_law_294 rfl (pq := 295) rfl ?_
  refine wb_callVi (r0 := r) (s1 := s1) [] hX sh_0z ml_381 (tW_county hc) (by decide) rfl rfl (Nat.le_of_ble_eq_true rfl) dL_law_295 (pq := 298) rfl ?_
  refine wb_aload_n 2 hX dL_law_298 rfl (pq := 299) rfl ?_
  refine wb_callVi (r0 := r) (s1 := s2) [] hX sh_161z ml_1127 (tM_county hm) (by decide) rfl rfl (Nat.le_of_ble_eq_true rfl) dL_law_299 (pq := 302) rfl ?_
  exact wb_icmp_eq (tgt := 1566) hX dL_law_302 (by decide) (fun _ => k) (pq := 305) rfl (fun c => absurd rfl c)
set_option maxHeartbeats 4000000 in
set_option maxRecDepth 100000 in
theorem law_4 {G : wG} {X : wX} {b L : Nat} {xs : Nat → Int32} {x4 r : Int32} {s s2 : wM} (hX : wOK G X code RL (some .boolean) 60) (hSc : wSc G X b L xs) (h1 : vp_in (x4 + iI (1)) L) (h2 : vp_in (x4 + iI (2)) L) (hc : fW_stone s (xs (x4 + iI (1)).toNatClampNeg) (xs (x4 + iI (2)).toNatClampNeg) = some r) (hm : fM_stone s (xs (x4 + iI (1)).toNatClampNeg) (xs (x4 + iI (2)).toNatClampNeg) = some (r, s2)) (k : WB G X 1566 [(0, .ref b), (1, .ref (G.1 0)), (2, .ref (G.1 161)), (3, .ref (G.1 196)), (4, .int x4)] [] s2) : WB G X 375 [(0, .ref b), (1, .ref (G.1 0)), (2, .ref (G.1 161)), (3, .ref (G.1 196)), (4, .int x4)] [] s := by
  refine wb_aload_n 1 hX dL_law_375 rfl (pq := 376) rfl ?_
  refine wb_aload_n 0 hX dL_law_376 rfl (pq := 377) rfl ?_
  refine wb_iload 4 hX dL_law_377 rfl (pq := 379) rfl ?_
  refine wb_iconst (v := iI (1)) hX dL_law_379 rfl (pq := 380) rfl ?_
  refine wb_iadd hX dL_law_380 (pq := 381) rfl ?_
  refine wb_sld hX hSc h1 dL_law_381 (pq := 382) rfl ?_
  refine wb_aload_n 0 hX dL_law_382 rfl (pq := 383) rfl ?_
  refine wb_iload 4 hX dL_law_383 rfl (pq := 385) rfl ?_
  refine wb_iconst (v := iI (2)) hX dL_law_385 rfl (pq := 386) rfl ?_
  refine wb_iadd hX dL_law_386 (pq := 387) rfl ?_
  refine wb_sld hX hSc h2 dL_law_387 (pq := 388) rfl ?_
  refine wb_callVi (r0 := r) (s1 := s) [.int (xs (x4 + iI (1)).toNatClampNeg), .int (xs (x4 + iI (2)).toNatClampNeg)] hX sh_0z ml_447 (tW_stone hc) (by decide) rfl rfl (Nat.le_of_ble_eq_true rfl) dL_law_388 (pq := 391) rfl ?_
  refine wb_aload_n 2 hX dL_law_391 rfl (pq := 392) rfl ?_
  refine wb_aload_n 0 hX dL_law_392 rfl (pq := 393) rfl ?_
  refine wb_iload 4 hX dL_law_393 rfl (pq := 395) rfl ?_
  refine wb_iconst (v := iI (1)) hX dL_law_395 rfl (pq := 396) rfl ?_
  refine wb_iadd hX dL_law_396 (pq := 397) rfl ?_
  refine wb_sld hX hSc h1 dL_law_397 (pq := 398) rfl ?_
  refine wb_aload_n 0 hX dL_law_398 rfl (pq := 399) rfl ?_
  refine wb_iload 4 hX dL_law_399 rfl (pq := 401) rfl ?_
  refine wb_iconst (v := iI (2)) hX dL_law_401 rfl (pq := 402) rfl ?_
  refine wb_iadd hX dL_law_402 (pq := 403) rfl ?_
  refine wb_sld hX hSc h2 dL_law_403 (pq := 404) rfl ?_
  refine wb_callVi (r0 := r) (s1 := s2) [.int (xs (x4 + iI (1)).toNatClampNeg), .int (xs (x4 + iI (2)).toNatClampNeg)] hX sh_161z ml_1191 (tM_stone hm) (by decide) rfl rfl (Nat.le_of_ble_eq_true rfl) dL_law_404 (pq := 407) rfl ?_
  exact wb_icmp_eq (tgt := 1566) hX dL_law_407 (by decide) (fun _ => k) (pq := 410) rfl (fun c => absurd rfl c)
set_option maxHeartbeats 4000000 in
set_option maxRecDepth 100000 in
theorem law_5 {G : wG} {X : wX} {b L : Nat} {xs : Nat → Int32} {x4 r : Int32} {s s1 s2 : wM} (hX : wOK G X code RL (some .boolean) 60) (hSc : wSc G X b L xs) (h1 : vp_in (x4 + iI (1)) L) (h2 : vp_in (x4 + iI (2)) L) (h3 : vp_in (x4 + iI (3)) L) (hc : fW_touch s (xs (x4 + iI (1)).toNatClampNeg) (xs (x4 + iI (2)).toNatClampNeg) (xs (x4 + iI (3)).toNatClampNeg) = some (r, s1)) (hm : fM_touch s1 (xs (x4 + iI (1)).toNatClampNeg) (xs (x4 + iI (2)).toNatClampNeg) (xs (x4 + iI (3)).toNatClampNeg) = some (r, s2)) (k : WB G X 1566 [(0, .ref b), (1, .ref (G.1 0)), (2, .ref (G.1 161)), (3, .ref (G.1 196)), (4, .int x4)] [] s2) : WB G X 412 [(0, .ref b), (1, .ref (G.1 0)), (2, .ref (G.1 161)), (3, .ref (G.1 196)), (4, .int x4)] [] s := by
  refine wb_aload_n 1 hX dL_law_412 rfl (pq := 413) rfl ?_
  refine wb_aload_n 0 hX dL_law_413 rfl (pq := 414) rfl ?_
  refine wb_iload 4 hX dL_law_414 rfl (pq := 416) rfl ?_
  refine wb_iconst (v := iI (1)) hX dL_law_416 rfl (pq := 417) rfl ?_
  refine wb_iadd hX dL_law_417 (pq := 418) rfl ?_
  refine wb_sld hX hSc h1 dL_law_418 (pq := 419) rfl ?_
  refine wb_aload_n 0 hX dL_law_419 rfl (pq := 420) rfl ?_
  refine wb_iload 4 hX dL_law_420 rfl (pq := 422) rfl ?_
  refine wb_iconst (v := iI (2)) hX dL_law_422 rfl (pq := 423) rfl ?_
  refine wb_iadd hX dL_law_423 (pq := 424) rfl ?_
  refine wb_sld hX hSc h2 dL_law_424 (pq := 425) rfl ?_
  refine wb_aload_n 0 hX dL_law_425 rfl (pq := 426) rfl ?_
  refine wb_iload 4 hX dL_law_426 rfl (pq := 428) rfl ?_
  refine wb_iconst (v := iI (3)) hX dL_law_428 rfl (pq := 429) rfl ?_
  refine wb_iadd hX dL_law_429 (pq := 430) rfl ?_
  refine wb_sld hX hSc h3 dL_law_430 (pq := 431) rfl ?_
  refine wb_callVi (r0 := r) (s1 := s1) [.int (xs (x4 + iI (1)).toNatClampNeg), .int (xs (x4 + iI (2)).toNatClampNeg), .int (xs (x4 + iI (3)).toNatClampNeg)] hX sh_0z ml_463 (tW_touch hc) (by decide) rfl rfl (Nat.le_of_ble_eq_true rfl) dL_law_431 (pq := 434) rfl ?_
  refine wb_aload_n 2 hX dL_law_434 rfl (pq := 435) rfl ?_
  refine wb_aload_n 0 hX dL_law_435 rfl (pq := 436) rfl ?_
  refine wb_iload 4 hX dL_law_436 rfl (pq := 438) rfl ?_
  refine wb_iconst (v := iI (1)) hX dL_law_438 rfl (pq := 439) rfl ?_
  refine wb_iadd hX dL_law_439 (pq := 440) rfl ?_
  refine wb_sld hX hSc h1 dL_law_440 (pq := 441) rfl ?_
  refine wb_aload_n 0 hX dL_law_441 rfl (pq := 442) rfl ?_
  refine wb_iload 4 hX dL_law_442 rfl (pq := 444) rfl ?_
  refine wb_iconst (v := iI (2)) hX dL_law_444 rfl (pq := 445) rfl ?_
  refine wb_iadd hX dL_law_445 (pq := 446) rfl ?_
  refine wb_sld hX hSc h2 dL_law_446 (pq := 447) rfl ?_
  refine wb_aload_n 0 hX dL_law_447 rfl (pq := 448) rfl ?_
  refine wb_iload 4 hX dL_law_448 rfl (pq := 450) rfl ?_
  refine wb_iconst (v := iI (3)) hX dL_law_450 rfl (pq := 451) rfl ?_
  refine wb_iadd hX dL_law_451 (pq := 452) rfl ?_
  refine wb_sld hX hSc h3 dL_law_452 (pq := 453) rfl ?_
  refine wb_callVi (r0 := r) (s1 := s2) [.int (xs (x4 + iI (1)).toNatClampNeg), .int (xs (x4 + iI (2)).toNatClampNeg), .int (xs (x4 + iI (3)).toNatClampNeg)] hX sh_161z ml_1199 (tM_touch hm) (by decide) rfl rfl (Nat.le_of_ble_eq_true rfl) dL_law_453 (pq := 456) rfl ?_
  exact wb_icmp_eq (tgt := 1566) hX dL_law_456 (by decide) (fun _ => k) (pq := 459) rfl (fun c => absurd rfl c)
set_option maxHeartbeats 4000000 in
set_option maxRecDepth 100000 in
theorem law_6 {G : wG} {X : wX} {b L : Nat} {xs : Nat → Int32} {x4 r : Int32} {s s1 s2 : wM} (hX : wOK G X code RL (some .boolean) 60) (hSc : wSc G X b L xs) (h1 : vp_in (x4 + iI (1)) L) (h2 : vp_in (x4 + iI (2)) L) (hc : fW_law s (xs (x4 + iI (1)).toNatClampNeg) (xs (x4 + iI (2)).toNatClampNeg) = some (r, s1)) (hm : fM_law s1 (xs (x4 + iI (1)).toNatClampNeg) (xs (x4 + iI (2)).toNatClampNeg) = some (r, s2)) (k : WB G X 1566 [(0, .ref b), (1, .ref (G.1 0)), (2, .ref (G.1 161)), (3, .ref (G.1 196)), (4, .int x4)] [] s2) : WB G X 461 [(0, .ref b), (1, .ref (G.1 0)), (2, .ref (G.1 161)), (3, .ref (G.1 196)), (4, .int x4)] [] s := by
  refine wb_aload_n 1 hX dL_law_461 rfl (pq := 462) rfl ?_
  refine wb_aload_n 0 hX dL_law_462 rfl (pq := 463) rfl ?_
  refine wb_iload 4 hX dL_law_463 rfl (pq := 465) rfl ?_
  refine wb_iconst (v := iI (1)) hX dL_law_465 rfl (pq := 466) rfl ?_
  refine wb_iadd hX dL_law_466 (pq := 467) rfl ?_
  refine wb_sld hX hSc h1 dL_law_467 (pq := 468) rfl ?_
  refine wb_aload_n 0 hX dL_law_468 rfl (pq := 469) rfl ?_
  refine wb_iload 4 hX dL_law_469 rfl (pq := 471) rfl ?_
  refine wb_iconst (v := iI (2)) hX dL_law_471 rfl (pq := 472) rfl ?_
  refine wb_iadd hX dL_law_472 (pq := 473) rfl ?_
  refine wb_sld hX hSc h2 dL_law_473 (pq := 474) rfl ?_
  refine wb_callVi (r0 := r) (s1 := s1) [.int (xs (x4 + iI (1)).toNatClampNeg), .int (xs (x4 + iI (2)).toNatClampNeg)] hX sh_0z ml_470 (tW_law hc) (by decide) rfl rfl (Nat.le_of_ble_eq_true rfl) dL_law_474 (pq := 477) rfl ?_
  refine wb_aload_n 2 hX dL_law_477 rfl (pq := 478) rfl ?_
  refine wb_aload_n 0 hX dL_law_478 rfl (pq := 479) rfl ?_
  refine wb_iload 4 hX dL_law_479 rfl (pq := 481) rfl ?_
  refine wb_iconst (v := iI (1)) hX dL_law_481 rfl (pq := 482) rfl ?_
  refine wb_iadd hX dL_law_482 (pq := 483) rfl ?_
  refine wb_sld hX hSc h1 dL_law_483 (pq := 484) rfl ?_
  refine wb_aload_n 0 hX dL_law_484 rfl (pq := 485) rfl ?_
  refine wb_iload 4 hX dL_law_485 rfl (pq := 487) rfl ?_
  refine wb_iconst (v := iI (2)) hX dL_law_487 rfl (pq := 488) rfl ?_
  refine wb_iadd hX dL_law_488 (pq := 489) rfl ?_
  refine wb_sld hX hSc h2 dL_law_489 (pq := 490) rfl ?_
  refine wb_callVi (r0 := r) (s1 := s2) [.int (xs (x4 + iI (1)).toNatClampNeg), .int (xs (x4 + iI (2)).toNatClampNeg)] hX sh_161z ml_1210 (tM_law hm) (by decide) rfl rfl (Nat.le_of_ble_eq_true rfl) dL_law_490 (pq := 493) rfl ?_
  exact wb_icmp_eq (tgt := 1566) hX dL_law_493 (by decide) (fun _ => k) (pq := 496) rfl (fun c => absurd rfl c)
set_option maxHeartbeats 4000000 in
set_option maxRecDepth 100000 in
theorem law_7 {G : wG} {X : wX} {b L : Nat} {xs : Nat → Int32} {x4 r : Int32} {s s1 s2 : wM} (hX : wOK G X code RL (some .boolean) 60) (hSc : wSc G X b L xs) (h1 : vp_in (x4 + iI (1)) L) (h2 : vp_in (x4 + iI (2)) L) (h3 : vp_in (x4 + iI (3)) L) (hc : fW_set s (xs (x4 + iI (1)).toNatClampNeg) (xs (x4 + iI (2)).toNatClampNeg) (xs (x4 + iI (3)).toNatClampNeg) = some (r, s1)) (hm : fM_set s1 (xs (x4 + iI (1)).toNatClampNeg) (xs (x4 + iI (2)).toNatClampNeg) (xs (x4 + iI (3)).toNatClampNeg) = some (r, s2)) (k : WB G X 1566 [(0, .ref b), (1, .ref (G.1 0)), (2, .ref (G.1 161)), (3, .ref (G.1 196)), (4, .int x4)] [] s2) : WB G X 498 [(0, .ref b), (1, .ref (G.1 0)), (2, .ref (G.1 161)), (3, .ref (G.1 196)), (4, .int x4)] [] s := by
  refine wb_aload_n 1 hX dL_law_498 rfl (pq := 499) rfl ?_
  refine wb_aload_n 0 hX dL_law_499 rfl (pq := 500) rfl ?_
  refine wb_iload 4 hX dL_law_500 rfl (pq := 502) rfl ?_
  refine wb_iconst (v := iI (1)) hX dL_law_502 rfl (pq := 503) rfl ?_
  refine wb_iadd hX dL_law_503 (pq := 504) rfl ?_
  refine wb_sld hX hSc h1 dL_law_504 (pq := 505) rfl ?_
  refine wb_aload_n 0 hX dL_law_505 rfl (pq := 506) rfl ?_
  refine wb_iload 4 hX dL_law_506 rfl (pq := 508) rfl ?_
  refine wb_iconst (v := iI (2)) hX dL_law_508 rfl (pq := 509) rfl ?_
  refine wb_iadd hX dL_law_509 (pq := 510) rfl ?_
  refine wb_sld hX hSc h2 dL_law_510 (pq := 511) rfl ?_
  refine wb_aload_n 0 hX dL_law_511 rfl (pq := 512) rfl ?_
  refine wb_iload 4 hX dL_law_512 rfl (pq := 514) rfl ?_
  refine wb_iconst (v := iI (3)) hX dL_law_514 rfl (pq := 515) rfl ?_
  refine wb_iadd hX dL_law_515 (pq := 516) rfl ?_
  refine wb_sld hX hSc h3 dL_law_516 (pq := 517) rfl ?_
  refine wb_callVi (r0 := r) (s1 := s1) [.int (xs (x4 + iI (1)).toNatClampNeg), .int (xs (x4 + iI (2)).toNatClampNeg), .int (xs (x4 + iI (3)).toNatClampNeg)] hX sh_0z ml_474 (tW_set hc) (by decide) rfl rfl (Nat.le_of_ble_eq_true rfl) dL_law_517 (pq := 520) rfl ?_
  refine wb_aload_n 2 hX dL_law_520 rfl (pq := 521) rfl ?_
  refine wb_aload_n 0 hX dL_law_521 rfl (pq := 522) rfl ?_
  refine wb_iload 4 hX dL_law_522 rfl (pq := 524) rfl ?_
  refine wb_iconst (v := iI (1)) hX dL_law_524 rfl (pq := 525) rfl ?_
  refine wb_iadd hX dL_law_525 (pq := 526) rfl ?_
  refine wb_sld hX hSc h1 dL_law_526 (pq := 527) rfl ?_
  refine wb_aload_n 0 hX dL_law_527 rfl (pq := 528) rfl ?_
  refine wb_iload 4 hX dL_law_528 rfl (pq := 530) rfl ?_
  refine wb_iconst (v := iI (2)) hX dL_law_530 rfl (pq := 531) rfl ?_
  refine wb_iadd hX dL_law_531 (pq := 532) rfl ?_
  refine wb_sld hX hSc h2 dL_law_532 (pq := 533) rfl ?_
  refine wb_aload_n 0 hX dL_law_533 rfl (pq := 534) rfl ?_
  refine wb_iload 4 hX dL_law_534 rfl (pq := 536) rfl ?_
  refine wb_iconst (v := iI (3)) hX dL_law_536 rfl (pq := 537) rfl ?_
  refine wb_iadd hX dL_law_537 (pq := 538) rfl ?_
  refine wb_sld hX hSc h3 dL_law_538 (pq := 539) rfl ?_
  refine wb_callVi (r0 := r) (s1 := s2) [.int (xs (x4 + iI (1)).toNatClampNeg), .int (xs (x4 + iI (2)).toNatClampNeg), .int (xs (x4 + iI (3)).toNatClampNeg)] hX sh_161z ml_1215 (tM_set hm) (by decide) rfl rfl (Nat.le_of_ble_eq_true rfl) dL_law_539 (pq := 542) rfl ?_
  exact wb_icmp_eq (tgt := 1566) hX dL_law_542 (by decide) (fun _ => k) (pq := 545) rfl (fun c => absurd rfl c)
set_option maxHeartbeats 4000000 in
set_option maxRecDepth 100000 in
theorem law_8 {G : wG} {X : wX} {b L : Nat} {xs : Nat → Int32} {x4 r : Int32} {s s1 s2 : wM} (hX : wOK G X code RL (some .boolean) 60) (hSc : wSc G X b L xs) (h1 : vp_in (x4 + iI (1)) L) (h2 : vp_in (x4 + iI (2)) L) (h3 : vp_in (x4 + iI (3)) L) (h4 : vp_in (x4 + iI (4)) L) (hc : fW_sheet s (xs (x4 + iI (1)).toNatClampNeg) (xs (x4 + iI (2)).toNatClampNeg) (xs (x4 + iI (3)).toNatClampNeg) (xs (x4 + iI (4)).toNatClampNeg) = some (r, s1)) (hm : fM_sheet s1 (xs (x4 + iI (1)).toNatClampNeg) (xs (x4 + iI (2)).toNatClampNeg) (xs (x4 + iI (3)).toNatClampNeg) (xs (x4 + iI (4)).toNatClampNeg) = some (r, s2)) (k : WB G X 1566 [(0, .ref b), (1, .ref (G.1 0)), (2, .ref (G.1 161)), (3, .ref (G.1 196)), (4, .int x4)] [] s2) : WB G X 547 [(0, .ref b), (1, .ref (G.1 0)), (2, .ref (G.1 161)), (3, .ref (G.1 196)), (4, .int x4)] [] s := by
  refine wb_aload_n 1 hX dL_law_547 rfl (pq := 548) rfl ?_
  refine wb_aload_n 0 hX dL_law_548 rfl (pq := 549) rfl ?_
  refine wb_iload 4 hX dL_law_549 rfl (pq := 551) rfl ?_
  refine wb_iconst (v := iI (1)) hX dL_law_551 rfl (pq := 552) rfl ?_
  refine wb_iadd hX dL_law_552 (pq := 553) rfl ?_
  refine wb_sld hX hSc h1 dL_law_553 (pq := 554) rfl ?_
  refine wb_aload_n 0 hX dL_law_554 rfl (pq := 555) rfl ?_
  refine wb_iload 4 hX dL_law_555 rfl (pq := 557) rfl ?_
  refine wb_iconst (v := iI (2)) hX dL_law_557 rfl (pq := 558) rfl ?_
  refine wb_iadd hX dL_law_558 (pq := 559) rfl ?_
  refine wb_sld hX hSc h2 dL_law_559 (pq := 560) rfl ?_
  refine wb_aload_n 0 hX dL_law_560 rfl (pq := 561) rfl ?_
  refine wb_iload 4 hX dL_law_561 rfl (pq := 563) rfl ?_
  refine wb_iconst (v := iI (3)) hX dL_law_563 rfl (pq := 564) rfl ?_
  refine wb_iadd hX dL_law_564 (pq := 565) rfl ?_
  refine wb_sld hX hSc h3 dL_law_565 (pq := 566) rfl ?_
  refine wb_aload_n 0 hX dL_law_566 rfl (pq := 567) rfl ?_
  refine wb_iload 4 hX dL_law_567 rfl (pq := 569) rfl ?_
  refine wb_iconst (v := iI (4)) hX dL_law_569 rfl (pq := 570) rfl ?_
  refine wb_iadd hX dL_law_570 (pq := 571) rfl ?_
  refine wb_sld hX hSc h4 dL_law_571 (pq := 572) rfl ?_
  refine wb_callVi (r0 := r) (s1 := s1) [.int (xs (x4 + iI (1)).toNatClampNeg), .int (xs (x4 + iI (2)).toNatClampNeg), .int (xs (x4 + iI (3)).toNatClampNeg), .int (xs (x4 + iI (4)).toNatClampNeg)] hX sh_0z ml_479 (tW_sheet hc) (by decide) rfl rfl (Nat.le_of_ble_eq_true rfl) dL_law_572 (pq := 575) rfl ?_
  refine wb_aload_n 2 hX dL_law_575 rfl (pq := 576) rfl ?_
  refine wb_aload_n 0 hX dL_law_576 rfl (pq := 577) rfl ?_
  refine wb_iload 4 hX dL_law_577 rfl (pq := 579) rfl ?_
  refine wb_iconst (v := iI (1)) hX dL_law_579 rfl (pq := 580) rfl ?_
  refine wb_iadd hX dL_law_580 (pq := 581) rfl ?_
  refine wb_sld hX hSc h1 dL_law_581 (pq := 582) rfl ?_
  refine wb_aload_n 0 hX dL_law_582 rfl (pq := 583) rfl ?_
  refine wb_iload 4 hX dL_law_583 rfl (pq := 585) rfl ?_
  refine wb_iconst (v := iI (2)) hX dL_law_585 rfl (pq := 586) rfl ?_
  refine wb_iadd hX dL_law_586 (pq := 587) rfl ?_
  refine wb_sld hX hSc h2 dL_law_587 (pq := 588) rfl ?_
  refine wb_aload_n 0 hX dL_law_588 rfl (pq := 589) rfl ?_
  refine wb_iload 4 hX dL_law_589 rfl (pq := 591) rfl ?_
  refine wb_iconst (v := iI (3)) hX dL_law_591 rfl (pq := 592) rfl ?_
  refine wb_iadd hX dL_law_592 (pq := 593) rfl ?_
  refine wb_sld hX hSc h3 dL_law_593 (pq := 594) rfl ?_
  refine wb_aload_n 0 hX dL_law_594 rfl (pq := 595) rfl ?_
  refine wb_iload 4 hX dL_law_595 rfl (pq := 597) rfl ?_
  refine wb_iconst (v := iI (4)) hX dL_law_597 rfl (pq := 598) rfl ?_
  refine wb_iadd hX dL_law_598 (pq := 599) rfl ?_
  refine wb_sld hX hSc h4 dL_law_599 (pq := 600) rfl ?_
  refine wb_callVi (r0 := r) (s1 := s2) [.int (xs (x4 + iI (1)).toNatClampNeg), .int (xs (x4 + iI (2)).toNatClampNeg), .int (xs (x4 + iI (3)).toNatClampNeg), .int (xs (x4 + iI (4)).toNatClampNeg)] hX sh_161z ml_1220 (tM_sheet hm) (by decide) rfl rfl (Nat.le_of_ble_eq_true rfl) dL_law_600 (pq := 603) rfl ?_
  exact wb_icmp_eq (tgt := 1566) hX dL_law_603 (by decide) (fun _ => k) (pq := 606) rfl (fun c => absurd rfl c)
set_option maxHeartbeats 4000000 in
set_option maxRecDepth 100000 in
theorem law_9 {G : wG} {X : wX} {b L : Nat} {xs : Nat → Int32} {x4 r : Int32} {s s1 s2 : wM} (hX : wOK G X code RL (some .boolean) 60) (hSc : wSc G X b L xs) (h1 : vp_in (x4 + iI (1)) L) (h2 : vp_in (x4 + iI (2)) L) (hc : fW_carry s (xs (x4 + iI (1)).toNatClampNeg) (xs (x4 + iI (2)).toNatClampNeg) = some (r, s1)) (hm : fM_carry s1 (xs (x4 + iI (1)).toNatClampNeg) (xs (x4 + iI (2)).toNatClampNeg) = some (r, s2)) (k : WB G X 1566 [(0, .ref b), (1, .ref (G.1 0)), (2, .ref (G.1 161)), (3, .ref (G.1 196)), (4, .int x4)] [] s2) : WB G X 608 [(0, .ref b), (1, .ref (G.1 0)), (2, .ref (G.1 161)), (3, .ref (G.1 196)), (4, .int x4)] [] s := by
  refine wb_aload_n 1 hX dL_law_608 rfl (pq := 609) rfl ?_
  refine wb_aload_n 0 hX dL_law_609 rfl (pq := 610) rfl ?_
  refine wb_iload 4 hX dL_law_610 rfl (pq := 612) rfl ?_
  refine wb_iconst (v := iI (1)) hX dL_law_612 rfl (pq := 613) rfl ?_
  refine wb_iadd hX dL_law_613 (pq := 614) rfl ?_
  refine wb_sld hX hSc h1 dL_law_614 (pq := 615) rfl ?_
  refine wb_aload_n 0 hX dL_law_615 rfl (pq := 616) rfl ?_
  refine wb_iload 4 hX dL_law_616 rfl (pq := 618) rfl ?_
  refine wb_iconst (v := iI (2)) hX dL_law_618 rfl (pq := 619) rfl ?_
  refine wb_iadd hX dL_law_619 (pq := 620) rfl ?_
  refine wb_sld hX hSc h2 dL_law_620 (pq := 621) rfl ?_
  refine wb_callVi (r0 := r) (s1 := s1) [.int (xs (x4 + iI (1)).toNatClampNeg), .int (xs (x4 + iI (2)).toNatClampNeg)] hX sh_0z ml_497 (tW_carry hc) (by decide) rfl rfl (Nat.le_of_ble_eq_true rfl) dL_law_621 (pq := 624) rfl ?_
  refine wb_aload_n 2 hX dL_law_624 rfl (pq := 625) rfl ?_
  refine wb_aload_n 0 hX dL_law_625 rfl (pq := 626) rfl ?_
  refine wb_iload 4 hX dL_law_626 rfl (pq := 628) rfl ?_
  refine wb_iconst (v := iI (1)) hX dL_law_628 rfl (pq := 629) rfl ?_
  refine wb_iadd hX dL_law_629 (pq := 630) rfl ?_
  refine wb_sld hX hSc h1 dL_law_630 (pq := 631) rfl ?_
  refine wb_aload_n 0 hX dL_law_631 rfl (pq := 632) rfl ?_
  refine wb_iload 4 hX dL_law_632 rfl (pq := 634) rfl ?_
  refine wb_iconst (v := iI (2)) hX dL_law_634 rfl (pq := 635) rfl ?_
  refine wb_iadd hX dL_law_635 (pq := 636) rfl ?_
  refine wb_sld hX hSc h2 dL_law_636 (pq := 637) rfl ?_
  refine wb_callVi (r0 := r) (s1 := s2) [.int (xs (x4 + iI (1)).toNatClampNeg), .int (xs (x4 + iI (2)).toNatClampNeg)] hX sh_161z ml_1229 (tM_carry hm) (by decide) rfl rfl (Nat.le_of_ble_eq_true rfl) dL_law_637 (pq := 640) rfl ?_
  exact wb_icmp_eq (tgt := 1566) hX dL_law_640 (by decide) (fun _ => k) (pq := 643) rfl (fun c => absurd rfl c)
set_option maxHeartbeats 4000000 in
set_option maxRecDepth 100000 in
theorem law_10 {G : wG} {X : wX} {b L : Nat} {xs : Nat → Int32} {x4 r : Int32} {s s1 s2 : wM} (hX : wOK G X code RL (some .boolean) 60) (hSc : wSc G X b L xs)  (hc : fW_night s  = some (r, s1)) (hm : fM_night s1  = some (r, s2)) (k : WB G X 1566 [(0, .ref b), (1, .ref (G.1 0)), (2, .ref (G.1 161)), (3, .ref (G.1 196)), (4, .int x4)] [] s2) : WB G X 645 [(0, .ref b), (1, .ref (G.1 0)), (2, .ref (G.1 161)), (3, .ref (G.1 196)), (4, .int x4)] [] s := by
  refine wb_aload_n 1 hX dL_law_645 rfl (pq := 646) rfl ?_
  refine wb_callVi (r0 := r) (s1 := s1) [] hX sh_0z ml_527 (tW_night hc) (by decide) rfl rfl (Nat.le_of_ble_eq_true rfl) dL_law_646 (pq := 649) rfl ?_
  refine wb_aload_n 2 hX dL_law_649 rfl (pq := 650) rfl ?_
  refine wb_callVi (r0 := r) (s1 := s2) [] hX sh_161z ml_1253 (tM_night hm) (by decide) rfl rfl (Nat.le_of_ble_eq_true rfl) dL_law_650 (pq := 653) rfl ?_
  exact wb_icmp_eq (tgt := 1566) hX dL_law_653 (by decide) (fun _ => k) (pq := 656) rfl (fun c => absurd rfl c)
set_option maxHeartbeats 4000000 in
set_option maxRecDepth 100000 in
theorem law_11 {G : wG} {X : wX} {b L : Nat} {xs : Nat → Int32} {x4 r : Int32} {s s1 s2 : wM} (hX : wOK G X code RL (some .boolean) 60) (hSc : wSc G X b L xs) (h1 : vp_in (x4 + iI (1)) L) (h2 : vp_in (x4 + iI (2)) L) (hc : fW_week s (xs (x4 + iI (1)).toNatClampNeg) (xs (x4 + iI (2)).toNatClampNeg) = some (r, s1)) (hm : fM_week s1 (xs (x4 + iI (1)).toNatClampNeg) (xs (x4 + iI (2)).toNatClampNeg) = some (r, s2)) (k : WB G X 1566 [(0, .ref b), (1, .ref (G.1 0)), (2, .ref (G.1 161)), (3, .ref (G.1 196)), (4, .int x4)] [] s2) : WB G X 658 [(0, .ref b), (1, .ref (G.1 0)), (2, .ref (G.1 161)), (3, .ref (G.1 196)), (4, .int x4)] [] s := by
  refine wb_aload_n 1 hX dL_law_658 rfl (pq := 659) rfl ?_
  refine wb_aload_n 0 hX dL_law_659 rfl (pq := 660) rfl ?_
  refine wb_iload 4 hX dL_law_660 rfl (pq := 662) rfl ?_
  refine wb_iconst (v := iI (1)) hX dL_law_662 rfl (pq := 663) rfl ?_
  refine wb_iadd hX dL_law_663 (pq := 664) rfl ?_
  refine wb_sld hX hSc h1 dL_law_664 (pq := 665) rfl ?_
  refine wb_aload_n 0 hX dL_law_665 rfl (pq := 666) rfl ?_
  refine wb_iload 4 hX dL_law_666 rfl (pq := 668) rfl ?_
  refine wb_iconst (v := iI (2)) hX dL_law_668 rfl (pq := 669) rfl ?_
  refine wb_iadd hX dL_law_669 (pq := 670) rfl ?_
  refine wb_sld hX hSc h2 dL_law_670 (pq := 671) rfl ?_
  refine wb_callVi (r0 := r) (s1 := s1) [.int (xs (x4 + iI (1)).toNatClampNeg), .int (xs (x4 + iI (2)).toNatClampNeg)] hX sh_0z ml_551 (tW_week hc) (by decide) rfl rfl (Nat.le_of_ble_eq_true rfl) dL_law_671 (pq := 674) rfl ?_
  refine wb_aload_n 2 hX dL_law_674 rfl (pq := 675) rfl ?_
  refine wb_aload_n 0 hX dL_law_675 rfl (pq := 676) rfl ?_
  refine wb_iload 4 hX dL_law_676 rfl (pq := 678) rfl ?_
  refine wb_iconst (v := iI (1)) hX dL_law_678 rfl (pq := 679) rfl ?_
  refine wb_iadd hX dL_law_679 (pq := 680) rfl ?_
  refine wb_sld hX hSc h1 dL_law_680 (pq := 681) rfl ?_
  refine wb_aload_n 0 hX dL_law_681 rfl (pq := 682) rfl ?_
  refine wb_iload 4 hX dL_law_682 rfl (pq := 684) rfl ?_
  refine wb_iconst (v := iI (2)) hX dL_law_684 rfl (pq := 685) rfl ?_
  refine wb_iadd hX dL_law_685 (pq := 686) rfl ?_
  refine wb_sld hX hSc h2 dL_law_686 (pq := 687) rfl ?_
  refine wb_callVi (r0 := r) (s1 := s2) [.int (xs (x4 + iI (1)).toNatClampNeg), .int (xs (x4 + iI (2)).toNatClampNeg)] hX sh_161z ml_1267 (tM_week hm) (by decide) rfl rfl (Nat.le_of_ble_eq_true rfl) dL_law_687 (pq := 690) rfl ?_
  exact wb_icmp_eq (tgt := 1566) hX dL_law_690 (by decide) (fun _ => k) (pq := 693) rfl (fun c => absurd rfl c)
set_option maxHeartbeats 4000000 in
set_option maxRecDepth 100000 in
theorem law_12 {G : wG} {X : wX} {b L : Nat} {xs : Nat → Int32} {x4 r : Int32} {s s1 s2 : wM} (hX : wOK G X code RL (some .boolean) 60) (hSc : wSc G X b L xs) (h1 : vp_in (x4 + iI (1)) L) (hc : fW_weeks s (xs (x4 + iI (1)).toNatClampNeg) = some (r, s1)) (hm : fM_weeks s1 (xs (x4 + iI (1)).toNatClampNeg) = some (r, s2)) (k : WB G X 1566 [(0, .ref b), (1, .ref (G.1 0)), (2, .ref (G.1 161)), (3, .ref (G.1 196)), (4, .int x4)] [] s2) : WB G X 695 [(0, .ref b), (1, .ref (G.1 0)), (2, .ref (G.1 161)), (3, .ref (G.1 196)), (4, .int x4)] [] s := by
  refine wb_aload_n 1 hX dL_law_695 rfl (pq := 696) rfl ?_
  refine wb_aload_n 0 hX dL_law_696 rfl (pq := 697) rfl ?_
  refine wb_iload 4 hX dL_law_697 rfl (pq := 699) rfl ?_
  refine wb_iconst (v := iI (1)) hX dL_law_699 rfl (pq := 700) rfl ?_
  refine wb_iadd hX dL_law_700 (pq := 701) rfl ?_
  refine wb_sld hX hSc h1 dL_law_701 (pq := 702) rfl ?_
  refine wb_callVi (r0 := r) (s1 := s1) [.int (xs (x4 + iI (1)).toNatClampNeg)] hX sh_0z ml_609 (tW_weeks hc) (by decide) rfl rfl (Nat.le_of_ble_eq_true rfl) dL_law_702 (pq := 705) rfl ?_
  refine wb_aload_n 2 hX dL_law_705 rfl (pq := 706) rfl ?_
  refine wb_aload_n 0 hX dL_law_706 rfl (pq := 707) rfl ?_
  refine wb_iload 4 hX dL_law_707 rfl (pq := 709) rfl ?_
  refine wb_iconst (v := iI (1)) hX dL_law_709 rfl (pq := 710) rfl ?_
  refine wb_iadd hX dL_law_710 (pq := 711) rfl ?_
  refine wb_sld hX hSc h1 dL_law_711 (pq := 712) rfl ?_
  refine wb_callVi (r0 := r) (s1 := s2) [.int (xs (x4 + iI (1)).toNatClampNeg)] hX sh_161z ml_1293 (tM_weeks hm) (by decide) rfl rfl (Nat.le_of_ble_eq_true rfl) dL_law_712 (pq := 715) rfl ?_
  exact wb_icmp_eq (tgt := 1566) hX dL_law_715 (by decide) (fun _ => k) (pq := 718) rfl (fun c => absurd rfl c)
set_option maxHeartbeats 4000000 in
set_option maxRecDepth 100000 in
theorem law_13 {G : wG} {X : wX} {b L : Nat} {xs : Nat → Int32} {x4 r : Int32} {s s1 s2 : wM} (hX : wOK G X code RL (some .boolean) 60) (hSc : wSc G X b L xs)  (hc : fW_undo s  = some (r, s1)) (hm : fM_undo s1  = some (r, s2)) (k : WB G X 1566 [(0, .ref b), (1, .ref (G.1 0)), (2, .ref (G.1 161)), (3, .ref (G.1 196)), (4, .int x4)] [] s2) : WB G X 720 [(0, .ref b), (1, .ref (G.1 0)), (2, .ref (G.1 161)), (3, .ref (G.1 196)), (4, .int x4)] [] s := by
  refine wb_aload_n 1 hX dL_law_720 rfl (pq := 721) rfl ?_
  refine wb_callVi (r0 := r) (s1 := s1) [] hX sh_0z ml_613 (tW_undo hc) (by decide) rfl rfl (Nat.le_of_ble_eq_true rfl) dL_law_721 (pq := 724) rfl ?_
  refine wb_aload_n 2 hX dL_law_724 rfl (pq := 725) rfl ?_
  refine wb_callVi (r0 := r) (s1 := s2) [] hX sh_161z ml_1225 (tM_undo hm) (by decide) rfl rfl (Nat.le_of_ble_eq_true rfl) dL_law_725 (pq := 728) rfl ?_
  exact wb_icmp_eq (tgt := 1566) hX dL_law_728 (by decide) (fun _ => k) (pq := 731) rfl (fun c => absurd rfl c)
set_option maxHeartbeats 4000000 in
set_option maxRecDepth 100000 in
theorem law_14 {G : wG} {X : wX} {b L : Nat} {xs : Nat → Int32} {x4 r : Int32} {s s1 s2 : wM} (hX : wOK G X code RL (some .boolean) 60) (hSc : wSc G X b L xs)  (hc : fW_even s  = some (r, s1)) (hm : fM_even s1  = some (r, s2)) (k : WB G X 1566 [(0, .ref b), (1, .ref (G.1 0)), (2, .ref (G.1 161)), (3, .ref (G.1 196)), (4, .int x4)] [] s2) : WB G X 733 [(0, .ref b), (1, .ref (G.1 0)), (2, .ref (G.1 161)), (3, .ref (G.1 196)), (4, .int x4)] [] s := by
  refine wb_aload_n 1 hX dL_law_733 rfl (pq := 734) rfl ?_
  refine wb_callVi (r0 := r) (s1 := s1) [] hX sh_0z ml_625 (tW_even hc) (by decide) rfl rfl (Nat.le_of_ble_eq_true rfl) dL_law_734 (pq := 737) rfl ?_
  refine wb_aload_n 2 hX dL_law_737 rfl (pq := 738) rfl ?_
  refine wb_callVi (r0 := r) (s1 := s2) [] hX sh_161z ml_1298 (tM_even hm) (by decide) rfl rfl (Nat.le_of_ble_eq_true rfl) dL_law_738 (pq := 741) rfl ?_
  exact wb_icmp_eq (tgt := 1566) hX dL_law_741 (by decide) (fun _ => k) (pq := 744) rfl (fun c => absurd rfl c)
set_option maxHeartbeats 4000000 in
set_option maxRecDepth 100000 in
theorem law_15 {G : wG} {X : wX} {b L : Nat} {xs : Nat → Int32} {x4 r : Int32} {s s1 s2 : wM} (hX : wOK G X code RL (some .boolean) 60) (hSc : wSc G X b L xs)  (hc : fW_fewest s  = some (r, s1)) (hm : fM_fewest s1  = some (r, s2)) (k : WB G X 1566 [(0, .ref b), (1, .ref (G.1 0)), (2, .ref (G.1 161)), (3, .ref (G.1 196)), (4, .int x4)] [] s2) : WB G X 746 [(0, .ref b), (1, .ref (G.1 0)), (2, .ref (G.1 161)), (3, .ref (G.1 196)), (4, .int x4)] [] s := by
  refine wb_aload_n 1 hX dL_law_746 rfl (pq := 747) rfl ?_
  refine wb_callVi (r0 := r) (s1 := s1) [] hX sh_0z ml_643 (tW_fewest hc) (by decide) rfl rfl (Nat.le_of_ble_eq_true rfl) dL_law_747 (pq := 750) rfl ?_
  refine wb_aload_n 2 hX dL_law_750 rfl (pq := 751) rfl ?_
  refine wb_callVi (r0 := r) (s1 := s2) [] hX sh_161z ml_1339 (tM_fewest hm) (by decide) rfl rfl (Nat.le_of_ble_eq_true rfl) dL_law_751 (pq := 754) rfl ?_
  exact wb_icmp_eq (tgt := 1566) hX dL_law_754 (by decide) (fun _ => k) (pq := 757) rfl (fun c => absurd rfl c)
set_option maxHeartbeats 4000000 in
set_option maxRecDepth 100000 in
theorem law_16 {G : wG} {X : wX} {b L : Nat} {xs : Nat → Int32} {x4 r : Int32} {s s1 s2 : wM} (hX : wOK G X code RL (some .boolean) 60) (hSc : wSc G X b L xs) (h1 : vp_in (x4 + iI (1)) L) (hc : fW_reach s (xs (x4 + iI (1)).toNatClampNeg) = some (r, s1)) (hm : fM_reach s1 (xs (x4 + iI (1)).toNatClampNeg) = some (r, s2)) (k : WB G X 1566 [(0, .ref b), (1, .ref (G.1 0)), (2, .ref (G.1 161)), (3, .ref (G.1 196)), (4, .int x4)] [] s2) : WB G X 759 [(0, .ref b), (1, .ref (G.1 0)), (2, .ref (G.1 161)), (3, .ref (G.1 196)), (4, .int x4)] [] s := by
  refine wb_aload_n 1 hX dL_law_759 rfl (pq := 760) rfl ?_
  refine wb_aload_n 0 hX dL_law_760 rfl (pq := 761) rfl ?_
  refine wb_iload 4 hX dL_law_761 rfl (pq := 763) rfl ?_
  refine wb_iconst (v := iI (1)) hX dL_law_763 rfl (pq := 764) rfl ?_
  refine wb_iadd hX dL_law_764 (pq := 765) rfl ?_
  refine wb_sld hX hSc h1 dL_law_765 (pq := 766) rfl ?_
  refine wb_callVi (r0 := r) (s1 := s1) [.int (xs (x4 + iI (1)).toNatClampNeg)] hX sh_0z ml_721 (tW_reach hc) (by decide) rfl rfl (Nat.le_of_ble_eq_true rfl) dL_law_766 (pq := 769) rfl ?_
  refine wb_aload_n 2 hX dL_law_769 rfl (pq := 770) rfl ?_
  refine wb_aload_n 0 hX dL_law_770 rfl (pq := 771) rfl ?_
  refine wb_iload 4 hX dL_law_771 rfl (pq := 773) rfl ?_
  refine wb_iconst (v := iI (1)) hX dL_law_773 rfl (pq := 774) rfl ?_
  refine wb_iadd hX dL_law_774 (pq := 775) rfl ?_
  refine wb_sld hX hSc h1 dL_law_775 (pq := 776) rfl ?_
  refine wb_callVi (r0 := r) (s1 := s2) [.int (xs (x4 + iI (1)).toNatClampNeg)] hX sh_161z ml_1302 (tM_reach hm) (by decide) rfl rfl (Nat.le_of_ble_eq_true rfl) dL_law_776 (pq := 779) rfl ?_
  exact wb_icmp_eq (tgt := 1566) hX dL_law_779 (by decide) (fun _ => k) (pq := 782) rfl (fun c => absurd rfl c)
set_option maxHeartbeats 4000000 in
set_option maxRecDepth 100000 in
theorem law_17 {G : wG} {X : wX} {b L : Nat} {xs : Nat → Int32} {x4 r : Int32} {s s1 s2 : wM} (hX : wOK G X code RL (some .boolean) 60) (hSc : wSc G X b L xs) (h1 : vp_in (x4 + iI (1)) L) (hc : fW_selfish s (xs (x4 + iI (1)).toNatClampNeg) = some (r, s1)) (hm : fM_selfish s1 (xs (x4 + iI (1)).toNatClampNeg) = some (r, s2)) (k : WB G X 1566 [(0, .ref b), (1, .ref (G.1 0)), (2, .ref (G.1 161)), (3, .ref (G.1 196)), (4, .int x4)] [] s2) : WB G X 784 [(0, .ref b), (1, .ref (G.1 0)), (2, .ref (G.1 161)), (3, .ref (G.1 196)), (4, .int x4)] [] s := by
  refine wb_aload_n 1 hX dL_law_784 rfl (pq := 785) rfl ?_
  refine wb_aload_n 0 hX dL_law_785 rfl (pq := 786) rfl ?_
  refine wb_iload 4 hX dL_law_786 rfl (pq := 788) rfl ?_
  refine wb_iconst (v := iI (1)) hX dL_law_788 rfl (pq := 789) rfl ?_
  refine wb_iadd hX dL_law_789 (pq := 790) rfl ?_
  refine wb_sld hX hSc h1 dL_law_790 (pq := 791) rfl ?_
  refine wb_callVi (r0 := r) (s1 := s1) [.int (xs (x4 + iI (1)).toNatClampNeg)] hX sh_0z ml_731 (tW_selfish hc) (by decide) rfl rfl (Nat.le_of_ble_eq_true rfl) dL_law_791 (pq := 794) rfl ?_
  refine wb_aload_n 2 hX dL_law_794 rfl (pq := 795) rfl ?_
  refine wb_aload_n 0 hX dL_law_795 rfl (pq := 796) rfl ?_
  refine wb_iload 4 hX dL_law_796 rfl (pq := 798) rfl ?_
  refine wb_iconst (v := iI (1)) hX dL_law_798 rfl (pq := 799) rfl ?_
  refine wb_iadd hX dL_law_799 (pq := 800) rfl ?_
  refine wb_sld hX hSc h1 dL_law_800 (pq := 801) rfl ?_
  refine wb_callVi (r0 := r) (s1 := s2) [.int (xs (x4 + iI (1)).toNatClampNeg)] hX sh_161z ml_1355 (tM_selfish hm) (by decide) rfl rfl (Nat.le_of_ble_eq_true rfl) dL_law_801 (pq := 804) rfl ?_
  exact wb_icmp_eq (tgt := 1566) hX dL_law_804 (by decide) (fun _ => k) (pq := 807) rfl (fun c => absurd rfl c)
set_option maxHeartbeats 4000000 in
set_option maxRecDepth 100000 in
theorem law_18 {G : wG} {X : wX} {b L : Nat} {xs : Nat → Int32} {x4 r : Int32} {s s1 s2 : wM} (hX : wOK G X code RL (some .boolean) 60) (hSc : wSc G X b L xs) (h1 : vp_in (x4 + iI (1)) L) (hc : fW_rests s (xs (x4 + iI (1)).toNatClampNeg) = some (r, s1)) (hm : fM_rests s1 (xs (x4 + iI (1)).toNatClampNeg) = some (r, s2)) (k : WB G X 1566 [(0, .ref b), (1, .ref (G.1 0)), (2, .ref (G.1 161)), (3, .ref (G.1 196)), (4, .int x4)] [] s2) : WB G X 809 [(0, .ref b), (1, .ref (G.1 0)), (2, .ref (G.1 161)), (3, .ref (G.1 196)), (4, .int x4)] [] s := by
  refine wb_aload_n 1 hX dL_law_809 rfl (pq := 810) rfl ?_
  refine wb_aload_n 0 hX dL_law_810 rfl (pq := 811) rfl ?_
  refine wb_iload 4 hX dL_law_811 rfl (pq := 813) rfl ?_
  refine wb_iconst (v := iI (1)) hX dL_law_813 rfl (pq := 814) rfl ?_
  refine wb_iadd hX dL_law_814 (pq := 815) rfl ?_
  refine wb_sld hX hSc h1 dL_law_815 (pq := 816) rfl ?_
  refine wb_callVi (r0 := r) (s1 := s1) [.int (xs (x4 + iI (1)).toNatClampNeg)] hX sh_0z ml_753 (tW_rests hc) (by decide) rfl rfl (Nat.le_of_ble_eq_true rfl) dL_law_816 (pq := 819) rfl ?_
  refine wb_aload_n 2 hX dL_law_819 rfl (pq := 820) rfl ?_
  refine wb_aload_n 0 hX dL_law_820 rfl (pq := 821) rfl ?_
  refine wb_iload 4 hX dL_law_821 rfl (pq := 823) rfl ?_
  refine wb_iconst (v := iI (1)) hX dL_law_823 rfl (pq := 824) rfl ?_
  refine wb_iadd hX dL_law_824 (pq := 825) rfl ?_
  refine wb_sld hX hSc h1 dL_law_825 (pq := 826) rfl ?_
  refine wb_callVi (r0 := r) (s1 := s2) [.int (xs (x4 + iI (1)).toNatClampNeg)] hX sh_161z ml_1363 (tM_rests hm) (by decide) rfl rfl (Nat.le_of_ble_eq_true rfl) dL_law_826 (pq := 829) rfl ?_
  exact wb_icmp_eq (tgt := 1566) hX dL_law_829 (by decide) (fun _ => k) (pq := 832) rfl (fun c => absurd rfl c)
set_option maxHeartbeats 4000000 in
set_option maxRecDepth 100000 in
theorem law_19 {G : wG} {X : wX} {b L : Nat} {xs : Nat → Int32} {x4 r : Int32} {s s1 s2 : wM} (hX : wOK G X code RL (some .boolean) 60) (hSc : wSc G X b L xs) (h1 : vp_in (x4 + iI (1)) L) (hc : fW_alter s (xs (x4 + iI (1)).toNatClampNeg) = some (r, s1)) (hm : fM_alter s1 (xs (x4 + iI (1)).toNatClampNeg) = some (r, s2)) (k : WB G X 1566 [(0, .ref b), (1, .ref (G.1 0)), (2, .ref (G.1 161)), (3, .ref (G.1 196)), (4, .int x4)] [] s2) : WB G X 834 [(0, .ref b), (1, .ref (G.1 0)), (2, .ref (G.1 161)), (3, .ref (G.1 196)), (4, .int x4)] [] s := by
  refine wb_aload_n 1 hX dL_law_834 rfl (pq := 835) rfl ?_
  refine wb_aload_n 0 hX dL_law_835 rfl (pq := 836) rfl ?_
  refine wb_iload 4 hX dL_law_836 rfl (pq := 838) rfl ?_
  refine wb_iconst (v := iI (1)) hX dL_law_838 rfl (pq := 839) rfl ?_
  refine wb_iadd hX dL_law_839 (pq := 840) rfl ?_
  refine wb_sld hX hSc h1 dL_law_840 (pq := 841) rfl ?_
  refine wb_callVi (r0 := r) (s1 := s1) [.int (xs (x4 + iI (1)).toNatClampNeg)] hX sh_0z ml_761 (tW_alter hc) (by decide) rfl rfl (Nat.le_of_ble_eq_true rfl) dL_law_841 (pq := 844) rfl ?_
  refine wb_aload_n 2 hX dL_law_844 rfl (pq := 845) rfl ?_
  refine wb_aload_n 0 hX dL_law_845 rfl (pq := 846) rfl ?_
  refine wb_iload 4 hX dL_law_846 rfl (pq := 848) rfl ?_
  refine wb_iconst (v := iI (1)) hX dL_law_848 rfl (pq := 849) rfl ?_
  refine wb_iadd hX dL_law_849 (pq := 850) rfl ?_
  refine wb_sld hX hSc h1 dL_law_850 (pq := 851) rfl ?_
  refine wb_callVi (r0 := r) (s1 := s2) [.int (xs (x4 + iI (1)).toNatClampNeg)] hX sh_161z ml_1368 (tM_alter hm) (by decide) rfl rfl (Nat.le_of_ble_eq_true rfl) dL_law_851 (pq := 854) rfl ?_
  exact wb_icmp_eq (tgt := 1566) hX dL_law_854 (by decide) (fun _ => k) (pq := 857) rfl (fun c => absurd rfl c)
set_option maxHeartbeats 4000000 in
set_option maxRecDepth 100000 in
theorem law_20 {G : wG} {X : wX} {b L : Nat} {xs : Nat → Int32} {x4 r : Int32} {s s1 s2 : wM} (hX : wOK G X code RL (some .boolean) 60) (hSc : wSc G X b L xs) (h1 : vp_in (x4 + iI (1)) L) (h2 : vp_in (x4 + iI (2)) L) (hc : fW_fill s (xs (x4 + iI (1)).toNatClampNeg) (xs (x4 + iI (2)).toNatClampNeg) = some (r, s1)) (hm : fM_fill s1 (xs (x4 + iI (1)).toNatClampNeg) (xs (x4 + iI (2)).toNatClampNeg) = some (r, s2)) (k : WB G X 1566 [(0, .ref b), (1, .ref (G.1 0)), (2, .ref (G.1 161)), (3, .ref (G.1 196)), (4, .int x4)] [] s2) : WB G X 859 [(0, .ref b), (1, .ref (G.1 0)), (2, .ref (G.1 161)), (3, .ref (G.1 196)), (4, .int x4)] [] s := by
  refine wb_aload_n 1 hX dL_law_859 rfl (pq := 860) rfl ?_
  refine wb_aload_n 0 hX dL_law_860 rfl (pq := 861) rfl ?_
  refine wb_iload 4 hX dL_law_861 rfl (pq := 863) rfl ?_
  refine wb_iconst (v := iI (1)) hX dL_law_863 rfl (pq := 864) rfl ?_
  refine wb_iadd hX dL_law_864 (pq := 865) rfl ?_
  refine wb_sld hX hSc h1 dL_law_865 (pq := 866) rfl ?_
  refine wb_aload_n 0 hX dL_law_866 rfl (pq := 867) rfl ?_
  refine wb_iload 4 hX dL_law_867 rfl (pq := 869) rfl ?_
  refine wb_iconst (v := iI (2)) hX dL_law_869 rfl (pq := 870) rfl ?_
  refine wb_iadd hX dL_law_870 (pq := 871) rfl ?_
  refine wb_sld hX hSc h2 dL_law_871 (pq := 872) rfl ?_
  refine wb_callVi (r0 := r) (s1 := s1) [.int (xs (x4 + iI (1)).toNatClampNeg), .int (xs (x4 + iI (2)).toNatClampNeg)] hX sh_0z ml_773 (tW_fill hc) (by decide) rfl rfl (Nat.le_of_ble_eq_true rfl) dL_law_872 (pq := 875) rfl ?_
  refine wb_aload_n 2 hX dL_law_875 rfl (pq := 876) rfl ?_
  refine wb_aload_n 0 hX dL_law_876 rfl (pq := 877) rfl ?_
  refine wb_iload 4 hX dL_law_877 rfl (pq := 879) rfl ?_
  refine wb_iconst (v := iI (1)) hX dL_law_879 rfl (pq := 880) rfl ?_
  refine wb_iadd hX dL_law_880 (pq := 881) rfl ?_
  refine wb_sld hX hSc h1 dL_law_881 (pq := 882) rfl ?_
  refine wb_aload_n 0 hX dL_law_882 rfl (pq := 883) rfl ?_
  refine wb_iload 4 hX dL_law_883 rfl (pq := 885) rfl ?_
  refine wb_iconst (v := iI (2)) hX dL_law_885 rfl (pq := 886) rfl ?_
  refine wb_iadd hX dL_law_886 (pq := 887) rfl ?_
  refine wb_sld hX hSc h2 dL_law_887 (pq := 888) rfl ?_
  refine wb_callVi (r0 := r) (s1 := s2) [.int (xs (x4 + iI (1)).toNatClampNeg), .int (xs (x4 + iI (2)).toNatClampNeg)] hX sh_161z ml_1351 (tM_fill hm) (by decide) rfl rfl (Nat.le_of_ble_eq_true rfl) dL_law_888 (pq := 891) rfl ?_
  exact wb_icmp_eq (tgt := 1566) hX dL_law_891 (by decide) (fun _ => k) (pq := 894) rfl (fun c => absurd rfl c)
set_option maxHeartbeats 4000000 in
set_option maxRecDepth 100000 in
theorem law_21 {G : wG} {X : wX} {b L : Nat} {xs : Nat → Int32} {x4 r : Int32} {s s1 s2 : wM} (hX : wOK G X code RL (some .boolean) 60) (hSc : wSc G X b L xs)  (hc : fW_colours s  = some (r, s1)) (hm : fM_colours s1  = some (r, s2)) (k : WB G X 1566 [(0, .ref b), (1, .ref (G.1 0)), (2, .ref (G.1 161)), (3, .ref (G.1 196)), (4, .int x4)] [] s2) : WB G X 896 [(0, .ref b), (1, .ref (G.1 0)), (2, .ref (G.1 161)), (3, .ref (G.1 196)), (4, .int x4)] [] s := by
  refine wb_aload_n 1 hX dL_law_896 rfl (pq := 897) rfl ?_
  refine wb_callVi (r0 := r) (s1 := s1) [] hX sh_0z ml_777 (tW_colours hc) (by decide) rfl rfl (Nat.le_of_ble_eq_true rfl) dL_law_897 (pq := 900) rfl ?_
  refine wb_aload_n 2 hX dL_law_900 rfl (pq := 901) rfl ?_
  refine wb_callVi (r0 := r) (s1 := s2) [] hX sh_161z ml_1372 (tM_colours hm) (by decide) rfl rfl (Nat.le_of_ble_eq_true rfl) dL_law_901 (pq := 904) rfl ?_
  exact wb_icmp_eq (tgt := 1566) hX dL_law_904 (by decide) (fun _ => k) (pq := 907) rfl (fun c => absurd rfl c)
set_option maxHeartbeats 4000000 in
set_option maxRecDepth 100000 in
theorem law_22 {G : wG} {X : wX} {b L : Nat} {xs : Nat → Int32} {x4 r : Int32} {s s1 s2 : wM} (hX : wOK G X code RL (some .boolean) 60) (hSc : wSc G X b L xs)  (hc : fW_clique s  = some (r, s1)) (hm : fM_clique s1  = some (r, s2)) (k : WB G X 1566 [(0, .ref b), (1, .ref (G.1 0)), (2, .ref (G.1 161)), (3, .ref (G.1 196)), (4, .int x4)] [] s2) : WB G X 909 [(0, .ref b), (1, .ref (G.1 0)), (2, .ref (G.1 161)), (3, .ref (G.1 196)), (4, .int x4)] [] s := by
  refine wb_aload_n 1 hX dL_law_909 rfl (pq := 910) rfl ?_
  refine wb_callVi (r0 := r) (s1 := s1) [] hX sh_0z ml_802 (tW_clique hc) (by decide) rfl rfl (Nat.le_of_ble_eq_true rfl) dL_law_910 (pq := 913) rfl ?_
  refine wb_aload_n 2 hX dL_law_913 rfl (pq := 914) rfl ?_
  refine wb_callVi (r0 := r) (s1 := s2) [] hX sh_161z ml_1384 (tM_clique hm) (by decide) rfl rfl (Nat.le_of_ble_eq_true rfl) dL_law_914 (pq := 917) rfl ?_
  exact wb_icmp_eq (tgt := 1566) hX dL_law_917 (by decide) (fun _ => k) (pq := 920) rfl (fun c => absurd rfl c)
set_option maxHeartbeats 4000000 in
set_option maxRecDepth 100000 in
theorem law_23 {G : wG} {X : wX} {b L : Nat} {xs : Nat → Int32} {x4 r : Int32} {s s1 s2 : wM} (hX : wOK G X code RL (some .boolean) 60) (hSc : wSc G X b L xs)  (hc : fW_lowest s  = some (r, s1)) (hm : fM_lowest s1  = some (r, s2)) (k : WB G X 1566 [(0, .ref b), (1, .ref (G.1 0)), (2, .ref (G.1 161)), (3, .ref (G.1 196)), (4, .int x4)] [] s2) : WB G X 922 [(0, .ref b), (1, .ref (G.1 0)), (2, .ref (G.1 161)), (3, .ref (G.1 196)), (4, .int x4)] [] s := by
  refine wb_aload_n 1 hX dL_law_922 rfl (pq := 923) rfl ?_
  refine wb_callVi (r0 := r) (s1 := s1) [] hX sh_0z ml_816 (tW_lowest hc) (by decide) rfl rfl (Nat.le_of_ble_eq_true rfl) dL_law_923 (pq := 926) rfl ?_
  refine wb_aload_n 2 hX dL_law_926 rfl (pq := 927) rfl ?_
  refine wb_callVi (r0 := r) (s1 := s2) [] hX sh_161z ml_1388 (tM_lowest hm) (by decide) rfl rfl (Nat.le_of_ble_eq_true rfl) dL_law_927 (pq := 930) rfl ?_
  exact wb_icmp_eq (tgt := 1566) hX dL_law_930 (by decide) (fun _ => k) (pq := 933) rfl (fun c => absurd rfl c)
set_option maxHeartbeats 4000000 in
set_option maxRecDepth 100000 in
theorem law_24 {G : wG} {X : wX} {b L : Nat} {xs : Nat → Int32} {x4 r : Int32} {s s1 s2 : wM} (hX : wOK G X code RL (some .boolean) 60) (hSc : wSc G X b L xs) (h1 : vp_in (x4 + iI (1)) L) (hc : fW_place s (xs (x4 + iI (1)).toNatClampNeg) = some (r, s1)) (hm : fM_place s1 (xs (x4 + iI (1)).toNatClampNeg) = some (r, s2)) (k : WB G X 1566 [(0, .ref b), (1, .ref (G.1 0)), (2, .ref (G.1 161)), (3, .ref (G.1 196)), (4, .int x4)] [] s2) : WB G X 935 [(0, .ref b), (1, .ref (G.1 0)), (2, .ref (G.1 161)), (3, .ref (G.1 196)), (4, .int x4)] [] s := by
  refine wb_aload_n 1 hX dL_law_935 rfl (pq := 936) rfl ?_
  refine wb_aload_n 0 hX dL_law_936 rfl (pq := 937) rfl ?_
  refine wb_iload 4 hX dL_law_937 rfl (pq := 939) rfl ?_
  refine wb_iconst (v := iI (1)) hX dL_law_939 rfl (pq := 940) rfl ?_
  refine wb_iadd hX dL_law_940 (pq := 941) rfl ?_
  refine wb_sld hX hSc h1 dL_law_941 (pq := 942) rfl ?_
  refine wb_callVi (r0 := r) (s1 := s1) [.int (xs (x4 + iI (1)).toNatClampNeg)] hX sh_0z ml_820 (tW_place hc) (by decide) rfl rfl (Nat.le_of_ble_eq_true rfl) dL_law_942 (pq := 945) rfl ?_
  refine wb_aload_n 2 hX dL_law_945 rfl (pq := 946) rfl ?_
  refine wb_aload_n 0 hX dL_law_946 rfl (pq := 947) rfl ?_
  refine wb_iload 4 hX dL_law_947 rfl (pq := 949) rfl ?_
  refine wb_iconst (v := iI (1)) hX dL_law_949 rfl (pq := 950) rfl ?_
  refine wb_iadd hX dL_law_950 (pq := 951) rfl ?_
  refine wb_sld hX hSc h1 dL_law_951 (pq := 952) rfl ?_
  refine wb_callVi (r0 := r) (s1 := s2) [.int (xs (x4 + iI (1)).toNatClampNeg)] hX sh_161z ml_1392 (tM_place hm) (by decide) rfl rfl (Nat.le_of_ble_eq_true rfl) dL_law_952 (pq := 955) rfl ?_
  exact wb_icmp_eq (tgt := 1566) hX dL_law_955 (by decide) (fun _ => k) (pq := 958) rfl (fun c => absurd rfl c)
set_option maxHeartbeats 4000000 in
set_option maxRecDepth 100000 in
theorem law_25 {G : wG} {X : wX} {b L : Nat} {xs : Nat → Int32} {x4 r : Int32} {s s1 s2 : wM} (hX : wOK G X code RL (some .boolean) 60) (hSc : wSc G X b L xs)  (hc : fW_lasts s  = some (r, s1)) (hm : fM_lasts s1  = some (r, s2)) (k : WB G X 1566 [(0, .ref b), (1, .ref (G.1 0)), (2, .ref (G.1 161)), (3, .ref (G.1 196)), (4, .int x4)] [] s2) : WB G X 960 [(0, .ref b), (1, .ref (G.1 0)), (2, .ref (G.1 161)), (3, .ref (G.1 196)), (4, .int x4)] [] s := by
  refine wb_aload_n 1 hX dL_law_960 rfl (pq := 961) rfl ?_
  refine wb_callVi (r0 := r) (s1 := s1) [] hX sh_0z ml_824 (tW_lasts hc) (by decide) rfl rfl (Nat.le_of_ble_eq_true rfl) dL_law_961 (pq := 964) rfl ?_
  refine wb_aload_n 2 hX dL_law_964 rfl (pq := 965) rfl ?_
  refine wb_callVi (r0 := r) (s1 := s2) [] hX sh_161z ml_1396 (tM_lasts hm) (by decide) rfl rfl (Nat.le_of_ble_eq_true rfl) dL_law_965 (pq := 968) rfl ?_
  exact wb_icmp_eq (tgt := 1566) hX dL_law_968 (by decide) (fun _ => k) (pq := 971) rfl (fun c => absurd rfl c)
set_option maxHeartbeats 4000000 in
set_option maxRecDepth 100000 in
theorem law_26 {G : wG} {X : wX} {b L : Nat} {xs : Nat → Int32} {x4 r : Int32} {s s1 s2 : wM} (hX : wOK G X code RL (some .boolean) 60) (hSc : wSc G X b L xs) (h1 : vp_in (x4 + iI (1)) L) (h2 : vp_in (x4 + iI (2)) L) (hc : fW_later s (xs (x4 + iI (1)).toNatClampNeg) (xs (x4 + iI (2)).toNatClampNeg) = some (r, s1)) (hm : fM_later s1 (xs (x4 + iI (1)).toNatClampNeg) (xs (x4 + iI (2)).toNatClampNeg) = some (r, s2)) (k : WB G X 1566 [(0, .ref b), (1, .ref (G.1 0)), (2, .ref (G.1 161)), (3, .ref (G.1 196)), (4, .int x4)] [] s2) : WB G X 973 [(0, .ref b), (1, .ref (G.1 0)), (2, .ref (G.1 161)), (3, .ref (G.1 196)), (4, .int x4)] [] s := by
  refine wb_aload_n 1 hX dL_law_973 rfl (pq := 974) rfl ?_
  refine wb_aload_n 0 hX dL_law_974 rfl (pq := 975) rfl ?_
  refine wb_iload 4 hX dL_law_975 rfl (pq := 977) rfl ?_
  refine wb_iconst (v := iI (1)) hX dL_law_977 rfl (pq := 978) rfl ?_
  refine wb_iadd hX dL_law_978 (pq := 979) rfl ?_
  refine wb_sld hX hSc h1 dL_law_979 (pq := 980) rfl ?_
  refine wb_aload_n 0 hX dL_law_980 rfl (pq := 981) rfl ?_
  refine wb_iload 4 hX dL_law_981 rfl (pq := 983) rfl ?_
  refine wb_iconst (v := iI (2)) hX dL_law_983 rfl (pq := 984) rfl ?_
  refine wb_iadd hX dL_law_984 (pq := 985) rfl ?_
  refine wb_sld hX hSc h2 dL_law_985 (pq := 986) rfl ?_
  refine wb_callVi (r0 := r) (s1 := s1) [.int (xs (x4 + iI (1)).toNatClampNeg), .int (xs (x4 + iI (2)).toNatClampNeg)] hX sh_0z ml_837 (tW_later hc) (by decide) rfl rfl (Nat.le_of_ble_eq_true rfl) dL_law_986 (pq := 989) rfl ?_
  refine wb_aload_n 2 hX dL_law_989 rfl (pq := 990) rfl ?_
  refine wb_aload_n 0 hX dL_law_990 rfl (pq := 991) rfl ?_
  refine wb_iload 4 hX dL_law_991 rfl (pq := 993) rfl ?_
  refine wb_iconst (v := iI (1)) hX dL_law_993 rfl (pq := 994) rfl ?_
  refine wb_iadd hX dL_law_994 (pq := 995) rfl ?_
  refine wb_sld hX hSc h1 dL_law_995 (pq := 996) rfl ?_
  refine wb_aload_n 0 hX dL_law_996 rfl (pq := 997) rfl ?_
  refine wb_iload 4 hX dL_law_997 rfl (pq := 999) rfl ?_
  refine wb_iconst (v := iI (2)) hX dL_law_999 rfl (pq := 1000) rfl ?_
  refine wb_iadd hX dL_law_1000 (pq := 1001) rfl ?_
  refine wb_sld hX hSc h2 dL_law_1001 (pq := 1002) rfl ?_
  refine wb_callVi (r0 := r) (s1 := s2) [.int (xs (x4 + iI (1)).toNatClampNeg), .int (xs (x4 + iI (2)).toNatClampNeg)] hX sh_161z ml_1408 (tM_later hm) (by decide) rfl rfl (Nat.le_of_ble_eq_true rfl) dL_law_1002 (pq := 1005) rfl ?_
  exact wb_icmp_eq (tgt := 1566) hX dL_law_1005 (by decide) (fun _ => k) (pq := 1008) rfl (fun c => absurd rfl c)
set_option maxHeartbeats 4000000 in
set_option maxRecDepth 100000 in
theorem law_27 {G : wG} {X : wX} {b L : Nat} {xs : Nat → Int32} {x4 r : Int32} {s s1 s2 : wM} (hX : wOK G X code RL (some .boolean) 60) (hSc : wSc G X b L xs)  (hc : fW_still s  = some (r, s1)) (hm : fM_still s1  = some (r, s2)) (k : WB G X 1566 [(0, .ref b), (1, .ref (G.1 0)), (2, .ref (G.1 161)), (3, .ref (G.1 196)), (4, .int x4)] [] s2) : WB G X 1010 [(0, .ref b), (1, .ref (G.1 0)), (2, .ref (G.1 161)), (3, .ref (G.1 196)), (4, .int x4)] [] s := by
  refine wb_aload_n 1 hX dL_law_1010 rfl (pq := 1011) rfl ?_
  refine wb_callVi (r0 := r) (s1 := s1) [] hX sh_0z ml_841 (tW_still hc) (by decide) rfl rfl (Nat.le_of_ble_eq_true rfl) dL_law_1011 (pq := 1014) rfl ?_
  refine wb_aload_n 2 hX dL_law_1014 rfl (pq := 1015) rfl ?_
  refine wb_callVi (r0 := r) (s1 := s2) [] hX sh_161z ml_1416 (tM_still hm) (by decide) rfl rfl (Nat.le_of_ble_eq_true rfl) dL_law_1015 (pq := 1018) rfl ?_
  exact wb_icmp_eq (tgt := 1566) hX dL_law_1018 (by decide) (fun _ => k) (pq := 1021) rfl (fun c => absurd rfl c)
set_option maxHeartbeats 4000000 in
set_option maxRecDepth 100000 in
theorem law_28 {G : wG} {X : wX} {b L : Nat} {xs : Nat → Int32} {x4 r : Int32} {s s1 s2 : wM} (hX : wOK G X code RL (some .boolean) 60) (hSc : wSc G X b L xs) (h1 : vp_in (x4 + iI (1)) L) (h2 : vp_in (x4 + iI (2)) L) (hc : fW_keeps s (xs (x4 + iI (1)).toNatClampNeg) (xs (x4 + iI (2)).toNatClampNeg) = some (r, s1)) (hm : fM_keeps s1 (xs (x4 + iI (1)).toNatClampNeg) (xs (x4 + iI (2)).toNatClampNeg) = some (r, s2)) (k : WB G X 1566 [(0, .ref b), (1, .ref (G.1 0)), (2, .ref (G.1 161)), (3, .ref (G.1 196)), (4, .int x4)] [] s2) : WB G X 1023 [(0, .ref b), (1, .ref (G.1 0)), (2, .ref (G.1 161)), (3, .ref (G.1 196)), (4, .int x4)] [] s := by
  refine wb_aload_n 1 hX dL_law_1023 rfl (pq := 1024) rfl ?_
  refine wb_aload_n 0 hX dL_law_1024 rfl (pq := 1025) rfl ?_
  refine wb_iload 4 hX dL_law_1025 rfl (pq := 1027) rfl ?_
  refine wb_iconst (v := iI (1)) hX dL_law_1027 rfl (pq := 1028) rfl ?_
  refine wb_iadd hX dL_law_1028 (pq := 1029) rfl ?_
  refine wb_sld hX hSc h1 dL_law_1029 (pq := 1030) rfl ?_
  refine wb_aload_n 0 hX dL_law_1030 rfl (pq := 1031) rfl ?_
  refine wb_iload 4 hX dL_law_1031 rfl (pq := 1033) rfl ?_
  refine wb_iconst (v := iI (2)) hX dL_law_1033 rfl (pq := 1034) rfl ?_
  refine wb_iadd hX dL_law_1034 (pq := 1035) rfl ?_
  refine wb_sld hX hSc h2 dL_law_1035 (pq := 1036) rfl ?_
  refine wb_callVi (r0 := r) (s1 := s1) [.int (xs (x4 + iI (1)).toNatClampNeg), .int (xs (x4 + iI (2)).toNatClampNeg)] hX sh_0z ml_845 (tW_keeps hc) (by decide) rfl rfl (Nat.le_of_ble_eq_true rfl) dL_law_1036 (pq := 1039) rfl ?_
  refine wb_aload_n 2 hX dL_law_1039 rfl (pq := 1040) rfl ?_
  refine wb_aload_n 0 hX dL_law_1040 rfl (pq := 1041) rfl ?_
  refine wb_iload 4 hX dL_law_1041 rfl (pq := 1043) rfl ?_
  refine wb_iconst (v := iI (1)) hX dL_law_1043 rfl (pq := 1044) rfl ?_
  refine wb_iadd hX dL_law_1044 (pq := 1045) rfl ?_
  refine wb_sld hX hSc h1 dL_law_1045 (pq := 1046) rfl ?_
  refine wb_aload_n 0 hX dL_law_1046 rfl (pq := 1047) rfl ?_
  refine wb_iload 4 hX dL_law_1047 rfl (pq := 1049) rfl ?_
  refine wb_iconst (v := iI (2)) hX dL_law_1049 rfl (pq := 1050) rfl ?_
  refine wb_iadd hX dL_law_1050 (pq := 1051) rfl ?_
  refine wb_sld hX hSc h2 dL_law_1051 (pq := 1052) rfl ?_
  refine wb_callVi (r0 := r) (s1 := s2) [.int (xs (x4 + iI (1)).toNatClampNeg), .int (xs (x4 + iI (2)).toNatClampNeg)] hX sh_161z ml_1420 (tM_keeps hm) (by decide) rfl rfl (Nat.le_of_ble_eq_true rfl) dL_law_1052 (pq := 1055) rfl ?_
  exact wb_icmp_eq (tgt := 1566) hX dL_law_1055 (by decide) (fun _ => k) (pq := 1058) rfl (fun c => absurd rfl c)
set_option maxHeartbeats 4000000 in
set_option maxRecDepth 100000 in
theorem law_29 {G : wG} {X : wX} {b L : Nat} {xs : Nat → Int32} {x4 r : Int32} {s s1 s2 : wM} (hX : wOK G X code RL (some .boolean) 60) (hSc : wSc G X b L xs) (h1 : vp_in (x4 + iI (1)) L) (hc : fW_mercy s (xs (x4 + iI (1)).toNatClampNeg) = some (r, s1)) (hm : fM_mercy s1 (xs (x4 + iI (1)).toNatClampNeg) = some (r, s2)) (k : WB G X 1566 [(0, .ref b), (1, .ref (G.1 0)), (2, .ref (G.1 161)), (3, .ref (G.1 196)), (4, .int x4)] [] s2) : WB G X 1060 [(0, .ref b), (1, .ref (G.1 0)), (2, .ref (G.1 161)), (3, .ref (G.1 196)), (4, .int x4)] [] s := by
  refine wb_aload_n 1 hX dL_law_1060 rfl (pq := 1061) rfl ?_
  refine wb_aload_n 0 hX dL_law_1061 rfl (pq := 1062) rfl ?_
  refine wb_iload 4 hX dL_law_1062 rfl (pq := 1064) rfl ?_
  refine wb_iconst (v := iI (1)) hX dL_law_1064 rfl (pq := 1065) rfl ?_
  refine wb_iadd hX dL_law_1065 (pq := 1066) rfl ?_
  refine wb_sld hX hSc h1 dL_law_1066 (pq := 1067) rfl ?_
  refine wb_callVi (r0 := r) (s1 := s1) [.int (xs (x4 + iI (1)).toNatClampNeg)] hX sh_0z ml_858 (tW_mercy hc) (by decide) rfl rfl (Nat.le_of_ble_eq_true rfl) dL_law_1067 (pq := 1070) rfl ?_
  refine wb_aload_n 2 hX dL_law_1070 rfl (pq := 1071) rfl ?_
  refine wb_aload_n 0 hX dL_law_1071 rfl (pq := 1072) rfl ?_
  refine wb_iload 4 hX dL_law_1072 rfl (pq := 1074) rfl ?_
  refine wb_iconst (v := iI (1)) hX dL_law_1074 rfl (pq := 1075) rfl ?_
  refine wb_iadd hX dL_law_1075 (pq := 1076) rfl ?_
  refine wb_sld hX hSc h1 dL_law_1076 (pq := 1077) rfl ?_
  refine wb_callVi (r0 := r) (s1 := s2) [.int (xs (x4 + iI (1)).toNatClampNeg)] hX sh_161z ml_1425 (tM_mercy hm) (by decide) rfl rfl (Nat.le_of_ble_eq_true rfl) dL_law_1077 (pq := 1080) rfl ?_
  exact wb_icmp_eq (tgt := 1566) hX dL_law_1080 (by decide) (fun _ => k) (pq := 1083) rfl (fun c => absurd rfl c)
set_option maxHeartbeats 4000000 in
set_option maxRecDepth 100000 in
theorem law_30 {G : wG} {X : wX} {b L : Nat} {xs : Nat → Int32} {x4 r : Int32} {s s1 s2 : wM} (hX : wOK G X code RL (some .boolean) 60) (hSc : wSc G X b L xs) (h1 : vp_in (x4 + iI (1)) L) (hc : fW_drought s (xs (x4 + iI (1)).toNatClampNeg) = some (r, s1)) (hm : fM_drought s1 (xs (x4 + iI (1)).toNatClampNeg) = some (r, s2)) (k : WB G X 1566 [(0, .ref b), (1, .ref (G.1 0)), (2, .ref (G.1 161)), (3, .ref (G.1 196)), (4, .int x4)] [] s2) : WB G X 1085 [(0, .ref b), (1, .ref (G.1 0)), (2, .ref (G.1 161)), (3, .ref (G.1 196)), (4, .int x4)] [] s := by
  refine wb_aload_n 1 hX dL_law_1085 rfl (pq := 1086) rfl ?_
  refine wb_aload_n 0 hX dL_law_1086 rfl (pq := 1087) rfl ?_
  refine wb_iload 4 hX dL_law_1087 rfl (pq := 1089) rfl ?_
  refine wb_iconst (v := iI (1)) hX dL_law_1089 rfl (pq := 1090) rfl ?_
  refine wb_iadd hX dL_law_1090 (pq := 1091) rfl ?_
  refine wb_sld hX hSc h1 dL_law_1091 (pq := 1092) rfl ?_
  refine wb_callVi (r0 := r) (s1 := s1) [.int (xs (x4 + iI (1)).toNatClampNeg)] hX sh_0z ml_887 (tW_drought hc) (by decide) rfl rfl (Nat.le_of_ble_eq_true rfl) dL_law_1092 (pq := 1095) rfl ?_
  refine wb_aload_n 2 hX dL_law_1095 rfl (pq := 1096) rfl ?_
  refine wb_aload_n 0 hX dL_law_1096 rfl (pq := 1097) rfl ?_
  refine wb_iload 4 hX dL_law_1097 rfl (pq := 1099) rfl ?_
  refine wb_iconst (v := iI (1)) hX dL_law_1099 rfl (pq := 1100) rfl ?_
  refine wb_iadd hX dL_law_1100 (pq := 1101) rfl ?_
  refine wb_sld hX hSc h1 dL_law_1101 (pq := 1102) rfl ?_
  refine wb_callVi (r0 := r) (s1 := s2) [.int (xs (x4 + iI (1)).toNatClampNeg)] hX sh_161z ml_1429 (tM_drought hm) (by decide) rfl rfl (Nat.le_of_ble_eq_true rfl) dL_law_1102 (pq := 1105) rfl ?_
  exact wb_icmp_eq (tgt := 1566) hX dL_law_1105 (by decide) (fun _ => k) (pq := 1108) rfl (fun c => absurd rfl c)
set_option maxHeartbeats 4000000 in
set_option maxRecDepth 100000 in
theorem law_31 {G : wG} {X : wX} {b L : Nat} {xs : Nat → Int32} {x4 r : Int32} {s s1 s2 : wM} (hX : wOK G X code RL (some .boolean) 60) (hSc : wSc G X b L xs) (h1 : vp_in (x4 + iI (1)) L) (h2 : vp_in (x4 + iI (2)) L) (hc : fW_clash s (xs (x4 + iI (1)).toNatClampNeg) (xs (x4 + iI (2)).toNatClampNeg) = some (r, s1)) (hm : fM_clash s1 (xs (x4 + iI (1)).toNatClampNeg) (xs (x4 + iI (2)).toNatClampNeg) = some (r, s2)) (k : WB G X 1566 [(0, .ref b), (1, .ref (G.1 0)), (2, .ref (G.1 161)), (3, .ref (G.1 196)), (4, .int x4)] [] s2) : WB G X 1110 [(0, .ref b), (1, .ref (G.1 0)), (2, .ref (G.1 161)), (3, .ref (G.1 196)), (4, .int x4)] [] s := by
  refine wb_aload_n 1 hX dL_law_1110 rfl (pq := 1111) rfl ?_
  refine wb_aload_n 0 hX dL_law_1111 rfl (pq := 1112) rfl ?_
  refine wb_iload 4 hX dL_law_1112 rfl (pq := 1114) rfl ?_
  refine wb_iconst (v := iI (1)) hX dL_law_1114 rfl (pq := 1115) rfl ?_
  refine wb_iadd hX dL_law_1115 (pq := 1116) rfl ?_
  refine wb_sld hX hSc h1 dL_law_1116 (pq := 1117) rfl ?_
  refine wb_aload_n 0 hX dL_law_1117 rfl (pq := 1118) rfl ?_
  refine wb_iload 4 hX dL_law_1118 rfl (pq := 1120) rfl ?_
  refine wb_iconst (v := iI (2)) hX dL_law_1120 rfl (pq := 1121) rfl ?_
  refine wb_iadd hX dL_law_1121 (pq := 1122) rfl ?_
  refine wb_sld hX hSc h2 dL_law_1122 (pq := 1123) rfl ?_
  refine wb_callVi (r0 := r) (s1 := s1) [.int (xs (x4 + iI (1)).toNatClampNeg), .int (xs (x4 + iI (2)).toNatClampNeg)] hX sh_0z ml_896 (tW_clash hc) (by decide) rfl rfl (Nat.le_of_ble_eq_true rfl) dL_law_1123 (pq := 1126) rfl ?_
  refine wb_aload_n 2 hX dL_law_1126 rfl (pq := 1127) rfl ?_
  refine wb_aload_n 0 hX dL_law_1127 rfl (pq := 1128) rfl ?_
  refine wb_iload 4 hX dL_law_1128 rfl (pq := 1130) rfl ?_
  refine wb_iconst (v := iI (1)) hX dL_law_1130 rfl (pq := 1131) rfl ?_
  refine wb_iadd hX dL_law_1131 (pq := 1132) rfl ?_
  refine wb_sld hX hSc h1 dL_law_1132 (pq := 1133) rfl ?_
  refine wb_aload_n 0 hX dL_law_1133 rfl (pq := 1134) rfl ?_
  refine wb_iload 4 hX dL_law_1134 rfl (pq := 1136) rfl ?_
  refine wb_iconst (v := iI (2)) hX dL_law_1136 rfl (pq := 1137) rfl ?_
  refine wb_iadd hX dL_law_1137 (pq := 1138) rfl ?_
  refine wb_sld hX hSc h2 dL_law_1138 (pq := 1139) rfl ?_
  refine wb_callVi (r0 := r) (s1 := s2) [.int (xs (x4 + iI (1)).toNatClampNeg), .int (xs (x4 + iI (2)).toNatClampNeg)] hX sh_161z ml_1433 (tM_clash hm) (by decide) rfl rfl (Nat.le_of_ble_eq_true rfl) dL_law_1139 (pq := 1142) rfl ?_
  exact wb_icmp_eq (tgt := 1566) hX dL_law_1142 (by decide) (fun _ => k) (pq := 1145) rfl (fun c => absurd rfl c)
set_option maxHeartbeats 4000000 in
set_option maxRecDepth 100000 in
theorem law_32 {G : wG} {X : wX} {b L : Nat} {xs : Nat → Int32} {x4 r : Int32} {s s1 s2 : wM} (hX : wOK G X code RL (some .boolean) 60) (hSc : wSc G X b L xs) (h1 : vp_in (x4 + iI (1)) L) (hc : fW_payer s (xs (x4 + iI (1)).toNatClampNeg) = some (r, s1)) (hm : fM_payer s1 (xs (x4 + iI (1)).toNatClampNeg) = some (r, s2)) (k : WB G X 1566 [(0, .ref b), (1, .ref (G.1 0)), (2, .ref (G.1 161)), (3, .ref (G.1 196)), (4, .int x4)] [] s2) : WB G X 1147 [(0, .ref b), (1, .ref (G.1 0)), (2, .ref (G.1 161)), (3, .ref (G.1 196)), (4, .int x4)] [] s := by
  refine wb_aload_n 1 hX dL_law_1147 rfl (pq := 1148) rfl ?_
  refine wb_aload_n 0 hX dL_law_1148 rfl (pq := 1149) rfl ?_
  refine wb_iload 4 hX dL_law_1149 rfl (pq := 1151) rfl ?_
  refine wb_iconst (v := iI (1)) hX dL_law_1151 rfl (pq := 1152) rfl ?_
  refine wb_iadd hX dL_law_1152 (pq := 1153) rfl ?_
  refine wb_sld hX hSc h1 dL_law_1153 (pq := 1154) rfl ?_
  refine wb_callVi (r0 := r) (s1 := s1) [.int (xs (x4 + iI (1)).toNatClampNeg)] hX sh_0z ml_906 (tW_payer hc) (by decide) rfl rfl (Nat.le_of_ble_eq_true rfl) dL_law_1154 (pq := 1157) rfl ?_
  refine wb_aload_n 2 hX dL_law_1157 rfl (pq := 1158) rfl ?_
  refine wb_aload_n 0 hX dL_law_1158 rfl (pq := 1159) rfl ?_
  refine wb_iload 4 hX dL_law_1159 rfl (pq := 1161) rfl ?_
  refine wb_iconst (v := iI (1)) hX dL_law_1161 rfl (pq := 1162) rfl ?_
  refine wb_iadd hX dL_law_1162 (pq := 1163) rfl ?_
  refine wb_sld hX hSc h1 dL_law_1163 (pq := 1164) rfl ?_
  refine wb_callVi (r0 := r) (s1 := s2) [.int (xs (x4 + iI (1)).toNatClampNeg)] hX sh_161z ml_1437 (tM_payer hm) (by decide) rfl rfl (Nat.le_of_ble_eq_true rfl) dL_law_1164 (pq := 1167) rfl ?_
  exact wb_icmp_eq (tgt := 1566) hX dL_law_1167 (by decide) (fun _ => k) (pq := 1170) rfl (fun c => absurd rfl c)
set_option maxHeartbeats 4000000 in
set_option maxRecDepth 100000 in
theorem law_33 {G : wG} {X : wX} {b L : Nat} {xs : Nat → Int32} {x4 r : Int32} {s s1 s2 : wM} (hX : wOK G X code RL (some .boolean) 60) (hSc : wSc G X b L xs) (h1 : vp_in (x4 + iI (1)) L) (hc : fW_pray s (xs (x4 + iI (1)).toNatClampNeg) = some (r, s1)) (hm : fM_pray s1 (xs (x4 + iI (1)).toNatClampNeg) = some (r, s2)) (k : WB G X 1566 [(0, .ref b), (1, .ref (G.1 0)), (2, .ref (G.1 161)), (3, .ref (G.1 196)), (4, .int x4)] [] s2) : WB G X 1172 [(0, .ref b), (1, .ref (G.1 0)), (2, .ref (G.1 161)), (3, .ref (G.1 196)), (4, .int x4)] [] s := by
  refine wb_aload_n 1 hX dL_law_1172 rfl (pq := 1173) rfl ?_
  refine wb_aload_n 0 hX dL_law_1173 rfl (pq := 1174) rfl ?_
  refine wb_iload 4 hX dL_law_1174 rfl (pq := 1176) rfl ?_
  refine wb_iconst (v := iI (1)) hX dL_law_1176 rfl (pq := 1177) rfl ?_
  refine wb_iadd hX dL_law_1177 (pq := 1178) rfl ?_
  refine wb_sld hX hSc h1 dL_law_1178 (pq := 1179) rfl ?_
  refine wb_callVi (r0 := r) (s1 := s1) [.int (xs (x4 + iI (1)).toNatClampNeg)] hX sh_0z ml_914 (tW_pray hc) (by decide) rfl rfl (Nat.le_of_ble_eq_true rfl) dL_law_1179 (pq := 1182) rfl ?_
  refine wb_aload_n 2 hX dL_law_1182 rfl (pq := 1183) rfl ?_
  refine wb_aload_n 0 hX dL_law_1183 rfl (pq := 1184) rfl ?_
  refine wb_iload 4 hX dL_law_1184 rfl (pq := 1186) rfl ?_
  refine wb_iconst (v := iI (1)) hX dL_law_1186 rfl (pq := 1187) rfl ?_
  refine wb_iadd hX dL_law_1187 (pq := 1188) rfl ?_
  refine wb_sld hX hSc h1 dL_law_1188 (pq := 1189) rfl ?_
  refine wb_callVi (r0 := r) (s1 := s2) [.int (xs (x4 + iI (1)).toNatClampNeg)] hX sh_161z ml_1441 (tM_pray hm) (by decide) rfl rfl (Nat.le_of_ble_eq_true rfl) dL_law_1189 (pq := 1192) rfl ?_
  exact wb_icmp_eq (tgt := 1566) hX dL_law_1192 (by decide) (fun _ => k) (pq := 1195) rfl (fun c => absurd rfl c)
set_option maxHeartbeats 4000000 in
set_option maxRecDepth 100000 in
theorem law_34 {G : wG} {X : wX} {b L : Nat} {xs : Nat → Int32} {x4 r : Int32} {s s1 s2 : wM} (hX : wOK G X code RL (some .boolean) 60) (hSc : wSc G X b L xs)  (hc : fW_seal s  = some (r, s1)) (hm : fM_seal s1  = some (r, s2)) (k : WB G X 1566 [(0, .ref b), (1, .ref (G.1 0)), (2, .ref (G.1 161)), (3, .ref (G.1 196)), (4, .int x4)] [] s2) : WB G X 1197 [(0, .ref b), (1, .ref (G.1 0)), (2, .ref (G.1 161)), (3, .ref (G.1 196)), (4, .int x4)] [] s := by
  refine wb_aload_n 1 hX dL_law_1197 rfl (pq := 1198) rfl ?_
  refine wb_callVi (r0 := r) (s1 := s1) [] hX sh_0z ml_922 (tW_seal hc) (by decide) rfl rfl (Nat.le_of_ble_eq_true rfl) dL_law_1198 (pq := 1201) rfl ?_
  refine wb_aload_n 2 hX dL_law_1201 rfl (pq := 1202) rfl ?_
  refine wb_callVi (r0 := r) (s1 := s2) [] hX sh_161z ml_1445 (tM_seal hm) (by decide) rfl rfl (Nat.le_of_ble_eq_true rfl) dL_law_1202 (pq := 1205) rfl ?_
  exact wb_icmp_eq (tgt := 1566) hX dL_law_1205 (by decide) (fun _ => k) (pq := 1208) rfl (fun c => absurd rfl c)
set_option maxHeartbeats 4000000 in
set_option maxRecDepth 100000 in
theorem law_35 {G : wG} {X : wX} {b L : Nat} {xs : Nat → Int32} {x4 r : Int32} {s s1 s2 : wM} (hX : wOK G X code RL (some .boolean) 60) (hSc : wSc G X b L xs) (h1 : vp_in (x4 + iI (1)) L) (h2 : vp_in (x4 + iI (2)) L) (hc : fW_road s (xs (x4 + iI (1)).toNatClampNeg) (xs (x4 + iI (2)).toNatClampNeg) = some (r, s1)) (hm : fM_road s1 (xs (x4 + iI (1)).toNatClampNeg) (xs (x4 + iI (2)).toNatClampNeg) = some (r, s2)) (k : WB G X 1566 [(0, .ref b), (1, .ref (G.1 0)), (2, .ref (G.1 161)), (3, .ref (G.1 196)), (4, .int x4)] [] s2) : WB G X 1210 [(0, .ref b), (1, .ref (G.1 0)), (2, .ref (G.1 161)), (3, .ref (G.1 196)), (4, .int x4)] [] s := by
  refine wb_aload_n 1 hX dL_law_1210 rfl (pq := 1211) rfl ?_
  refine wb_aload_n 0 hX dL_law_1211 rfl (pq := 1212) rfl ?_
  refine wb_iload 4 hX dL_law_1212 rfl (pq := 1214) rfl ?_
  refine wb_iconst (v := iI (1)) hX dL_law_1214 rfl (pq := 1215) rfl ?_
  refine wb_iadd hX dL_law_1215 (pq := 1216) rfl ?_
  refine wb_sld hX hSc h1 dL_law_1216 (pq := 1217) rfl ?_
  refine wb_aload_n 0 hX dL_law_1217 rfl (pq := 1218) rfl ?_
  refine wb_iload 4 hX dL_law_1218 rfl (pq := 1220) rfl ?_
  refine wb_iconst (v := iI (2)) hX dL_law_1220 rfl (pq := 1221) rfl ?_
  refine wb_iadd hX dL_law_1221 (pq := 1222) rfl ?_
  refine wb_sld hX hSc h2 dL_law_1222 (pq := 1223) rfl ?_
  refine wb_callVi (r0 := r) (s1 := s1) [.int (xs (x4 + iI (1)).toNatClampNeg), .int (xs (x4 + iI (2)).toNatClampNeg)] hX sh_0z ml_927 (tW_road hc) (by decide) rfl rfl (Nat.le_of_ble_eq_true rfl) dL_law_1223 (pq := 1226) rfl ?_
  refine wb_aload_n 2 hX dL_law_1226 rfl (pq := 1227) rfl ?_
  refine wb_aload_n 0 hX dL_law_1227 rfl (pq := 1228) rfl ?_
  refine wb_iload 4 hX dL_law_1228 rfl (pq := 1230) rfl ?_
  refine wb_iconst (v := iI (1)) hX dL_law_1230 rfl (pq := 1231) rfl ?_
  refine wb_iadd hX dL_law_1231 (pq := 1232) rfl ?_
  refine wb_sld hX hSc h1 dL_law_1232 (pq := 1233) rfl ?_
  refine wb_aload_n 0 hX dL_law_1233 rfl (pq := 1234) rfl ?_
  refine wb_iload 4 hX dL_law_1234 rfl (pq := 1236) rfl ?_
  refine wb_iconst (v := iI (2)) hX dL_law_1236 rfl (pq := 1237) rfl ?_
  refine wb_iadd hX dL_law_1237 (pq := 1238) rfl ?_
  refine wb_sld hX hSc h2 dL_law_1238 (pq := 1239) rfl ?_
  refine wb_callVi (r0 := r) (s1 := s2) [.int (xs (x4 + iI (1)).toNatClampNeg), .int (xs (x4 + iI (2)).toNatClampNeg)] hX sh_161z ml_1449 (tM_road hm) (by decide) rfl rfl (Nat.le_of_ble_eq_true rfl) dL_law_1239 (pq := 1242) rfl ?_
  exact wb_icmp_eq (tgt := 1566) hX dL_law_1242 (by decide) (fun _ => k) (pq := 1245) rfl (fun c => absurd rfl c)
set_option maxHeartbeats 4000000 in
set_option maxRecDepth 100000 in
theorem law_36 {G : wG} {X : wX} {b L : Nat} {xs : Nat → Int32} {x4 r : Int32} {s s1 s2 : wM} (hX : wOK G X code RL (some .boolean) 60) (hSc : wSc G X b L xs)  (hc : fW_boon s  = some (r, s1)) (hm : fM_boon s1  = some (r, s2)) (k : WB G X 1566 [(0, .ref b), (1, .ref (G.1 0)), (2, .ref (G.1 161)), (3, .ref (G.1 196)), (4, .int x4)] [] s2) : WB G X 1247 [(0, .ref b), (1, .ref (G.1 0)), (2, .ref (G.1 161)), (3, .ref (G.1 196)), (4, .int x4)] [] s := by
  refine wb_aload_n 1 hX dL_law_1247 rfl (pq := 1248) rfl ?_
  refine wb_callVi (r0 := r) (s1 := s1) [] hX sh_0z ml_943 (tW_boon hc) (by decide) rfl rfl (Nat.le_of_ble_eq_true rfl) dL_law_1248 (pq := 1251) rfl ?_
  refine wb_aload_n 2 hX dL_law_1251 rfl (pq := 1252) rfl ?_
  refine wb_callVi (r0 := r) (s1 := s2) [] hX sh_161z ml_1453 (tM_boon hm) (by decide) rfl rfl (Nat.le_of_ble_eq_true rfl) dL_law_1252 (pq := 1255) rfl ?_
  exact wb_icmp_eq (tgt := 1566) hX dL_law_1255 (by decide) (fun _ => k) (pq := 1258) rfl (fun c => absurd rfl c)
set_option maxHeartbeats 4000000 in
set_option maxRecDepth 100000 in
theorem law_37 {G : wG} {X : wX} {b L : Nat} {xs : Nat → Int32} {x4 r : Int32} {s s1 s2 : wM} (hX : wOK G X code RL (some .boolean) 60) (hSc : wSc G X b L xs) (h1 : vp_in (x4 + iI (1)) L) (h2 : vp_in (x4 + iI (2)) L) (hc : fW_seen s (xs (x4 + iI (1)).toNatClampNeg) (xs (x4 + iI (2)).toNatClampNeg) = some (r, s1)) (hm : fM_seen s1 (xs (x4 + iI (1)).toNatClampNeg) (xs (x4 + iI (2)).toNatClampNeg) = some (r, s2)) (k : WB G X 1566 [(0, .ref b), (1, .ref (G.1 0)), (2, .ref (G.1 161)), (3, .ref (G.1 196)), (4, .int x4)] [] s2) : WB G X 1260 [(0, .ref b), (1, .ref (G.1 0)), (2, .ref (G.1 161)), (3, .ref (G.1 196)), (4, .int x4)] [] s := by
  refine wb_aload_n 1 hX dL_law_1260 rfl (pq := 1261) rfl ?_
  refine wb_aload_n 0 hX dL_law_1261 rfl (pq := 1262) rfl ?_
  refine wb_iload 4 hX dL_law_1262 rfl (pq := 1264) rfl ?_
  refine wb_iconst (v := iI (1)) hX dL_law_1264 rfl (pq := 1265) rfl ?_
  refine wb_iadd hX dL_law_1265 (pq := 1266) rfl ?_
  refine wb_sld hX hSc h1 dL_law_1266 (pq := 1267) rfl ?_
  refine wb_aload_n 0 hX dL_law_1267 rfl (pq := 1268) rfl ?_
  refine wb_iload 4 hX dL_law_1268 rfl (pq := 1270) rfl ?_
  refine wb_iconst (v := iI (2)) hX dL_law_1270 rfl (pq := 1271) rfl ?_
  refine wb_iadd hX dL_law_1271 (pq := 1272) rfl ?_
  refine wb_sld hX hSc h2 dL_law_1272 (pq := 1273) rfl ?_
  refine wb_callVi (r0 := r) (s1 := s1) [.int (xs (x4 + iI (1)).toNatClampNeg), .int (xs (x4 + iI (2)).toNatClampNeg)] hX sh_0z ml_947 (tW_seen hc) (by decide) rfl rfl (Nat.le_of_ble_eq_true rfl) dL_law_1273 (pq := 1276) rfl ?_
  refine wb_aload_n 2 hX dL_law_1276 rfl (pq := 1277) rfl ?_
  refine wb_aload_n 0 hX dL_law_1277 rfl (pq := 1278) rfl ?_
  refine wb_iload 4 hX dL_law_1278 rfl (pq := 1280) rfl ?_
  refine wb_iconst (v := iI (1)) hX dL_law_1280 rfl (pq := 1281) rfl ?_
  refine wb_iadd hX dL_law_1281 (pq := 1282) rfl ?_
  refine wb_sld hX hSc h1 dL_law_1282 (pq := 1283) rfl ?_
  refine wb_aload_n 0 hX dL_law_1283 rfl (pq := 1284) rfl ?_
  refine wb_iload 4 hX dL_law_1284 rfl (pq := 1286) rfl ?_
  refine wb_iconst (v := iI (2)) hX dL_law_1286 rfl (pq := 1287) rfl ?_
  refine wb_iadd hX dL_law_1287 (pq := 1288) rfl ?_
  refine wb_sld hX hSc h2 dL_law_1288 (pq := 1289) rfl ?_
  refine wb_callVi (r0 := r) (s1 := s2) [.int (xs (x4 + iI (1)).toNatClampNeg), .int (xs (x4 + iI (2)).toNatClampNeg)] hX sh_161z ml_1460 (tM_seen hm) (by decide) rfl rfl (Nat.le_of_ble_eq_true rfl) dL_law_1289 (pq := 1292) rfl ?_
  exact wb_icmp_eq (tgt := 1566) hX dL_law_1292 (by decide) (fun _ => k) (pq := 1295) rfl (fun c => absurd rfl c)
set_option maxHeartbeats 4000000 in
set_option maxRecDepth 100000 in
theorem law_38 {G : wG} {X : wX} {b L : Nat} {xs : Nat → Int32} {x4 r : Int32} {s s1 s2 : wM} (hX : wOK G X code RL (some .boolean) 60) (hSc : wSc G X b L xs)  (hc : fW_forget s  = some (r, s1)) (hm : fM_forget s1  = some (r, s2)) (k : WB G X 1566 [(0, .ref b), (1, .ref (G.1 0)), (2, .ref (G.1 161)), (3, .ref (G.1 196)), (4, .int x4)] [] s2) : WB G X 1297 [(0, .ref b), (1, .ref (G.1 0)), (2, .ref (G.1 161)), (3, .ref (G.1 196)), (4, .int x4)] [] s := by
  refine wb_aload_n 1 hX dL_law_1297 rfl (pq := 1298) rfl ?_
  refine wb_callVi (r0 := r) (s1 := s1) [] hX sh_0z ml_955 (tW_forget hc) (by decide) rfl rfl (Nat.le_of_ble_eq_true rfl) dL_law_1298 (pq := 1301) rfl ?_
  refine wb_aload_n 2 hX dL_law_1301 rfl (pq := 1302) rfl ?_
  refine wb_callVi (r0 := r) (s1 := s2) [] hX sh_161z ml_1465 (tM_forget hm) (by decide) rfl rfl (Nat.le_of_ble_eq_true rfl) dL_law_1302 (pq := 1305) rfl ?_
  exact wb_icmp_eq (tgt := 1566) hX dL_law_1305 (by decide) (fun _ => k) (pq := 1308) rfl (fun c => absurd rfl c)
set_option maxHeartbeats 4000000 in
set_option maxRecDepth 100000 in
theorem law_39 {G : wG} {X : wX} {b L : Nat} {xs : Nat → Int32} {x4 r : Int32} {s s1 s2 : wM} (hX : wOK G X code RL (some .boolean) 60) (hSc : wSc G X b L xs) (h1 : vp_in (x4 + iI (1)) L) (hc : fW_springs s (xs (x4 + iI (1)).toNatClampNeg) = some (r, s1)) (hm : fM_springs s1 (xs (x4 + iI (1)).toNatClampNeg) = some (r, s2)) (k : WB G X 1566 [(0, .ref b), (1, .ref (G.1 0)), (2, .ref (G.1 161)), (3, .ref (G.1 196)), (4, .int x4)] [] s2) : WB G X 1310 [(0, .ref b), (1, .ref (G.1 0)), (2, .ref (G.1 161)), (3, .ref (G.1 196)), (4, .int x4)] [] s := by
  refine wb_aload_n 1 hX dL_law_1310 rfl (pq := 1311) rfl ?_
  refine wb_aload_n 0 hX dL_law_1311 rfl (pq := 1312) rfl ?_
  refine wb_iload 4 hX dL_law_1312 rfl (pq := 1314) rfl ?_
  refine wb_iconst (v := iI (1)) hX dL_law_1314 rfl (pq := 1315) rfl ?_
  refine wb_iadd hX dL_law_1315 (pq := 1316) rfl ?_
  refine wb_sld hX hSc h1 dL_law_1316 (pq := 1317) rfl ?_
  refine wb_callVi (r0 := r) (s1 := s1) [.int (xs (x4 + iI (1)).toNatClampNeg)] hX sh_0z ml_959 (tW_springs hc) (by decide) rfl rfl (Nat.le_of_ble_eq_true rfl) dL_law_1317 (pq := 1320) rfl ?_
  refine wb_aload_n 2 hX dL_law_1320 rfl (pq := 1321) rfl ?_
  refine wb_aload_n 0 hX dL_law_1321 rfl (pq := 1322) rfl ?_
  refine wb_iload 4 hX dL_law_1322 rfl (pq := 1324) rfl ?_
  refine wb_iconst (v := iI (1)) hX dL_law_1324 rfl (pq := 1325) rfl ?_
  refine wb_iadd hX dL_law_1325 (pq := 1326) rfl ?_
  refine wb_sld hX hSc h1 dL_law_1326 (pq := 1327) rfl ?_
  refine wb_callVi (r0 := r) (s1 := s2) [.int (xs (x4 + iI (1)).toNatClampNeg)] hX sh_161z ml_1469 (tM_springs hm) (by decide) rfl rfl (Nat.le_of_ble_eq_true rfl) dL_law_1327 (pq := 1330) rfl ?_
  exact wb_icmp_eq (tgt := 1566) hX dL_law_1330 (by decide) (fun _ => k) (pq := 1333) rfl (fun c => absurd rfl c)
set_option maxHeartbeats 4000000 in
set_option maxRecDepth 100000 in
theorem law_40 {G : wG} {X : wX} {b L : Nat} {xs : Nat → Int32} {x4 r : Int32} {s s1 s2 : wM} (hX : wOK G X code RL (some .boolean) 60) (hSc : wSc G X b L xs) (h1 : vp_in (x4 + iI (1)) L) (h2 : vp_in (x4 + iI (2)) L) (hc : fW_stones s (xs (x4 + iI (1)).toNatClampNeg) (xs (x4 + iI (2)).toNatClampNeg) = some (r, s1)) (hm : fM_stones s1 (xs (x4 + iI (1)).toNatClampNeg) (xs (x4 + iI (2)).toNatClampNeg) = some (r, s2)) (k : WB G X 1566 [(0, .ref b), (1, .ref (G.1 0)), (2, .ref (G.1 161)), (3, .ref (G.1 196)), (4, .int x4)] [] s2) : WB G X 1335 [(0, .ref b), (1, .ref (G.1 0)), (2, .ref (G.1 161)), (3, .ref (G.1 196)), (4, .int x4)] [] s := by
  refine wb_aload_n 1 hX dL_law_1335 rfl (pq := 1336) rfl ?_
  refine wb_aload_n 0 hX dL_law_1336 rfl (pq := 1337) rfl ?_
  refine wb_iload 4 hX dL_law_1337 rfl (pq := 1339) rfl ?_
  refine wb_iconst (v := iI (1)) hX dL_law_1339 rfl (pq := 1340) rfl ?_
  refine wb_iadd hX dL_law_1340 (pq := 1341) rfl ?_
  refine wb_sld hX hSc h1 dL_law_1341 (pq := 1342) rfl ?_
  refine wb_aload_n 0 hX dL_law_1342 rfl (pq := 1343) rfl ?_
  refine wb_iload 4 hX dL_law_1343 rfl (pq := 1345) rfl ?_
  refine wb_iconst (v := iI (2)) hX dL_law_1345 rfl (pq := 1346) rfl ?_
  refine wb_iadd hX dL_law_1346 (pq := 1347) rfl ?_
  refine wb_sld hX hSc h2 dL_law_1347 (pq := 1348) rfl ?_
  refine wb_callVi (r0 := r) (s1 := s1) [.int (xs (x4 + iI (1)).toNatClampNeg), .int (xs (x4 + iI (2)).toNatClampNeg)] hX sh_0z ml_970 (tW_stones hc) (by decide) rfl rfl (Nat.le_of_ble_eq_true rfl) dL_law_1348 (pq := 1351) rfl ?_
  refine wb_aload_n 2 hX dL_law_1351 rfl (pq := 1352) rfl ?_
  refine wb_aload_n 0 hX dL_law_1352 rfl (pq := 1353) rfl ?_
  refine wb_iload 4 hX dL_law_1353 rfl (pq := 1355) rfl ?_
  refine wb_iconst (v := iI (1)) hX dL_law_1355 rfl (pq := 1356) rfl ?_
  refine wb_iadd hX dL_law_1356 (pq := 1357) rfl ?_
  refine wb_sld hX hSc h1 dL_law_1357 (pq := 1358) rfl ?_
  refine wb_aload_n 0 hX dL_law_1358 rfl (pq := 1359) rfl ?_
  refine wb_iload 4 hX dL_law_1359 rfl (pq := 1361) rfl ?_
  refine wb_iconst (v := iI (2)) hX dL_law_1361 rfl (pq := 1362) rfl ?_
  refine wb_iadd hX dL_law_1362 (pq := 1363) rfl ?_
  refine wb_sld hX hSc h2 dL_law_1363 (pq := 1364) rfl ?_
  refine wb_callVi (r0 := r) (s1 := s2) [.int (xs (x4 + iI (1)).toNatClampNeg), .int (xs (x4 + iI (2)).toNatClampNeg)] hX sh_161z ml_1477 (tM_stones hm) (by decide) rfl rfl (Nat.le_of_ble_eq_true rfl) dL_law_1364 (pq := 1367) rfl ?_
  exact wb_icmp_eq (tgt := 1566) hX dL_law_1367 (by decide) (fun _ => k) (pq := 1370) rfl (fun c => absurd rfl c)
set_option maxHeartbeats 4000000 in
set_option maxRecDepth 100000 in
theorem law_41 {G : wG} {X : wX} {b L : Nat} {xs : Nat → Int32} {x4 r : Int32} {s s1 s2 : wM} (hX : wOK G X code RL (some .boolean) 60) (hSc : wSc G X b L xs)  (hc : fW_nights s  = some (r, s1)) (hm : fM_nights s1  = some (r, s2)) (k : WB G X 1566 [(0, .ref b), (1, .ref (G.1 0)), (2, .ref (G.1 161)), (3, .ref (G.1 196)), (4, .int x4)] [] s2) : WB G X 1372 [(0, .ref b), (1, .ref (G.1 0)), (2, .ref (G.1 161)), (3, .ref (G.1 196)), (4, .int x4)] [] s := by
  refine wb_aload_n 1 hX dL_law_1372 rfl (pq := 1373) rfl ?_
  refine wb_callVi (r0 := r) (s1 := s1) [] hX sh_0z ml_974 (tW_nights hc) (by decide) rfl rfl (Nat.le_of_ble_eq_true rfl) dL_law_1373 (pq := 1376) rfl ?_
  refine wb_aload_n 2 hX dL_law_1376 rfl (pq := 1377) rfl ?_
  refine wb_callVi (r0 := r) (s1 := s2) [] hX sh_161z ml_1481 (tM_nights hm) (by decide) rfl rfl (Nat.le_of_ble_eq_true rfl) dL_law_1377 (pq := 1380) rfl ?_
  exact wb_icmp_eq (tgt := 1566) hX dL_law_1380 (by decide) (fun _ => k) (pq := 1383) rfl (fun c => absurd rfl c)
set_option maxHeartbeats 4000000 in
set_option maxRecDepth 100000 in
theorem law_42 {G : wG} {X : wX} {b L : Nat} {xs : Nat → Int32} {x4 r : Int32} {s s1 s2 : wM} (hX : wOK G X code RL (some .boolean) 60) (hSc : wSc G X b L xs)  (hc : fW_sunday s  = some (r, s1)) (hm : fM_sunday s1  = some (r, s2)) (k : WB G X 1566 [(0, .ref b), (1, .ref (G.1 0)), (2, .ref (G.1 161)), (3, .ref (G.1 196)), (4, .int x4)] [] s2) : WB G X 1385 [(0, .ref b), (1, .ref (G.1 0)), (2, .ref (G.1 161)), (3, .ref (G.1 196)), (4, .int x4)] [] s := by
  refine wb_aload_n 1 hX dL_law_1385 rfl (pq := 1386) rfl ?_
  refine wb_callVi (r0 := r) (s1 := s1) [] hX sh_0z ml_982 (tW_sunday hc) (by decide) rfl rfl (Nat.le_of_ble_eq_true rfl) dL_law_1386 (pq := 1389) rfl ?_
  refine wb_aload_n 2 hX dL_law_1389 rfl (pq := 1390) rfl ?_
  refine wb_callVi (r0 := r) (s1 := s2) [] hX sh_161z ml_1485 (tM_sunday hm) (by decide) rfl rfl (Nat.le_of_ble_eq_true rfl) dL_law_1390 (pq := 1393) rfl ?_
  exact wb_icmp_eq (tgt := 1566) hX dL_law_1393 (by decide) (fun _ => k) (pq := 1396) rfl (fun c => absurd rfl c)
set_option maxHeartbeats 4000000 in
set_option maxRecDepth 100000 in
theorem law_43 {G : wG} {X : wX} {b L : Nat} {xs : Nat → Int32} {x4 r : Int32} {s s1 s2 : wM} (hX : wOK G X code RL (some .boolean) 60) (hSc : wSc G X b L xs) (h1 : vp_in (x4 + iI (1)) L) (h2 : vp_in (x4 + iI (2)) L) (hc : fW_divide s (xs (x4 + iI (1)).toNatClampNeg) (xs (x4 + iI (2)).toNatClampNeg) = some (r, s1)) (hm : fM_divide s1 (xs (x4 + iI (1)).toNatClampNeg) (xs (x4 + iI (2)).toNatClampNeg) = some (r, s2)) (k : WB G X 1566 [(0, .ref b), (1, .ref (G.1 0)), (2, .ref (G.1 161)), (3, .ref (G.1 196)), (4, .int x4)] [] s2) : WB G X 1398 [(0, .ref b), (1, .ref (G.1 0)), (2, .ref (G.1 161)), (3, .ref (G.1 196)), (4, .int x4)] [] s := by
  refine wb_aload_n 1 hX dL_law_1398 rfl (pq := 1399) rfl ?_
  refine wb_aload_n 0 hX dL_law_1399 rfl (pq := 1400) rfl ?_
  refine wb_iload 4 hX dL_law_1400 rfl (pq := 1402) rfl ?_
  refine wb_iconst (v := iI (1)) hX dL_law_1402 rfl (pq := 1403) rfl ?_
  refine wb_iadd hX dL_law_1403 (pq := 1404) rfl ?_
  refine wb_sld hX hSc h1 dL_law_1404 (pq := 1405) rfl ?_
  refine wb_aload_n 0 hX dL_law_1405 rfl (pq := 1406) rfl ?_
  refine wb_iload 4 hX dL_law_1406 rfl (pq := 1408) rfl ?_
  refine wb_iconst (v := iI (2)) hX dL_law_1408 rfl (pq := 1409) rfl ?_
  refine wb_iadd hX dL_law_1409 (pq := 1410) rfl ?_
  refine wb_sld hX hSc h2 dL_law_1410 (pq := 1411) rfl ?_
  refine wb_callVi (r0 := r) (s1 := s1) [.int (xs (x4 + iI (1)).toNatClampNeg), .int (xs (x4 + iI (2)).toNatClampNeg)] hX sh_0z ml_998 (tW_divide hc) (by decide) rfl rfl (Nat.le_of_ble_eq_true rfl) dL_law_1411 (pq := 1414) rfl ?_
  refine wb_aload_n 2 hX dL_law_1414 rfl (pq := 1415) rfl ?_
  refine wb_aload_n 0 hX dL_law_1415 rfl (pq := 1416) rfl ?_
  refine wb_iload 4 hX dL_law_1416 rfl (pq := 1418) rfl ?_
  refine wb_iconst (v := iI (1)) hX dL_law_1418 rfl (pq := 1419) rfl ?_
  refine wb_iadd hX dL_law_1419 (pq := 1420) rfl ?_
  refine wb_sld hX hSc h1 dL_law_1420 (pq := 1421) rfl ?_
  refine wb_aload_n 0 hX dL_law_1421 rfl (pq := 1422) rfl ?_
  refine wb_iload 4 hX dL_law_1422 rfl (pq := 1424) rfl ?_
  refine wb_iconst (v := iI (2)) hX dL_law_1424 rfl (pq := 1425) rfl ?_
  refine wb_iadd hX dL_law_1425 (pq := 1426) rfl ?_
  refine wb_sld hX hSc h2 dL_law_1426 (pq := 1427) rfl ?_
  refine wb_callVi (r0 := r) (s1 := s2) [.int (xs (x4 + iI (1)).toNatClampNeg), .int (xs (x4 + iI (2)).toNatClampNeg)] hX sh_161z ml_1489 (tM_divide hm) (by decide) rfl rfl (Nat.le_of_ble_eq_true rfl) dL_law_1427 (pq := 1430) rfl ?_
  exact wb_icmp_eq (tgt := 1566) hX dL_law_1430 (by decide) (fun _ => k) (pq := 1433) rfl (fun c => absurd rfl c)
set_option maxHeartbeats 4000000 in
set_option maxRecDepth 100000 in
theorem law_44 {G : wG} {X : wX} {b L : Nat} {xs : Nat → Int32} {x4 r : Int32} {s s1 s2 : wM} (hX : wOK G X code RL (some .boolean) 60) (hSc : wSc G X b L xs) (h1 : vp_in (x4 + iI (1)) L) (hc : fW_keep s (xs (x4 + iI (1)).toNatClampNeg) = some (r, s1)) (hm : fM_keep s1 (xs (x4 + iI (1)).toNatClampNeg) = some (r, s2)) (k : WB G X 1566 [(0, .ref b), (1, .ref (G.1 0)), (2, .ref (G.1 161)), (3, .ref (G.1 196)), (4, .int x4)] [] s2) : WB G X 1435 [(0, .ref b), (1, .ref (G.1 0)), (2, .ref (G.1 161)), (3, .ref (G.1 196)), (4, .int x4)] [] s := by
  refine wb_aload_n 1 hX dL_law_1435 rfl (pq := 1436) rfl ?_
  refine wb_aload_n 0 hX dL_law_1436 rfl (pq := 1437) rfl ?_
  refine wb_iload 4 hX dL_law_1437 rfl (pq := 1439) rfl ?_
  refine wb_iconst (v := iI (1)) hX dL_law_1439 rfl (pq := 1440) rfl ?_
  refine wb_iadd hX dL_law_1440 (pq := 1441) rfl ?_
  refine wb_sld hX hSc h1 dL_law_1441 (pq := 1442) rfl ?_
  refine wb_callVi (r0 := r) (s1 := s1) [.int (xs (x4 + iI (1)).toNatClampNeg)] hX sh_0z ml_1002 (tW_keep hc) (by decide) rfl rfl (Nat.le_of_ble_eq_true rfl) dL_law_1442 (pq := 1445) rfl ?_
  refine wb_aload_n 2 hX dL_law_1445 rfl (pq := 1446) rfl ?_
  refine wb_aload_n 0 hX dL_law_1446 rfl (pq := 1447) rfl ?_
  refine wb_iload 4 hX dL_law_1447 rfl (pq := 1449) rfl ?_
  refine wb_iconst (v := iI (1)) hX dL_law_1449 rfl (pq := 1450) rfl ?_
  refine wb_iadd hX dL_law_1450 (pq := 1451) rfl ?_
  refine wb_sld hX hSc h1 dL_law_1451 (pq := 1452) rfl ?_
  refine wb_callVi (r0 := r) (s1 := s2) [.int (xs (x4 + iI (1)).toNatClampNeg)] hX sh_161z ml_1493 (tM_keep hm) (by decide) rfl rfl (Nat.le_of_ble_eq_true rfl) dL_law_1452 (pq := 1455) rfl ?_
  exact wb_icmp_eq (tgt := 1566) hX dL_law_1455 (by decide) (fun _ => k) (pq := 1458) rfl (fun c => absurd rfl c)
set_option maxHeartbeats 4000000 in
set_option maxRecDepth 100000 in
theorem law_45 {G : wG} {X : wX} {b L : Nat} {xs : Nat → Int32} {x4 r : Int32} {s s1 s2 : wM} (hX : wOK G X code RL (some .boolean) 60) (hSc : wSc G X b L xs) (h1 : vp_in (x4 + iI (1)) L) (hc : fW_again s (xs (x4 + iI (1)).toNatClampNeg) = some (r, s1)) (hm : fM_again s1 (xs (x4 + iI (1)).toNatClampNeg) = some (r, s2)) (k : WB G X 1566 [(0, .ref b), (1, .ref (G.1 0)), (2, .ref (G.1 161)), (3, .ref (G.1 196)), (4, .int x4)] [] s2) : WB G X 1460 [(0, .ref b), (1, .ref (G.1 0)), (2, .ref (G.1 161)), (3, .ref (G.1 196)), (4, .int x4)] [] s := by
  refine wb_aload_n 1 hX dL_law_1460 rfl (pq := 1461) rfl ?_
  refine wb_aload_n 0 hX dL_law_1461 rfl (pq := 1462) rfl ?_
  refine wb_iload 4 hX dL_law_1462 rfl (pq := 1464) rfl ?_
  refine wb_iconst (v := iI (1)) hX dL_law_1464 rfl (pq := 1465) rfl ?_
  refine wb_iadd hX dL_law_1465 (pq := 1466) rfl ?_
  refine wb_sld hX hSc h1 dL_law_1466 (pq := 1467) rfl ?_
  refine wb_callVi (r0 := r) (s1 := s1) [.int (xs (x4 + iI (1)).toNatClampNeg)] hX sh_0z ml_1007 (tW_again hc) (by decide) rfl rfl (Nat.le_of_ble_eq_true rfl) dL_law_1467 (pq := 1470) rfl ?_
  refine wb_aload_n 2 hX dL_law_1470 rfl (pq := 1471) rfl ?_
  refine wb_aload_n 0 hX dL_law_1471 rfl (pq := 1472) rfl ?_
  refine wb_iload 4 hX dL_law_1472 rfl (pq := 1474) rfl ?_
  refine wb_iconst (v := iI (1)) hX dL_law_1474 rfl (pq := 1475) rfl ?_
  refine wb_iadd hX dL_law_1475 (pq := 1476) rfl ?_
  refine wb_sld hX hSc h1 dL_law_1476 (pq := 1477) rfl ?_
  refine wb_callVi (r0 := r) (s1 := s2) [.int (xs (x4 + iI (1)).toNatClampNeg)] hX sh_161z ml_1497 (tM_again hm) (by decide) rfl rfl (Nat.le_of_ble_eq_true rfl) dL_law_1477 (pq := 1480) rfl ?_
  exact wb_icmp_eq (tgt := 1566) hX dL_law_1480 (by decide) (fun _ => k) (pq := 1483) rfl (fun c => absurd rfl c)
set_option maxHeartbeats 4000000 in
set_option maxRecDepth 100000 in
theorem law_46 {G : wG} {X : wX} {b L : Nat} {xs : Nat → Int32} {x4 r : Int32} {s s2 : wM} (hX : wOK G X code RL (some .boolean) 60) (hSc : wSc G X b L xs) (h1 : vp_in (x4 + iI (1)) L) (hc : fW_count s (xs (x4 + iI (1)).toNatClampNeg) = some r) (hm : fM_count s (xs (x4 + iI (1)).toNatClampNeg) = some (r, s2)) (k : WB G X 1566 [(0, .ref b), (1, .ref (G.1 0)), (2, .ref (G.1 161)), (3, .ref (G.1 196)), (4, .int x4)] [] s2) : WB G X 1485 [(0, .ref b), (1, .ref (G.1 0)), (2, .ref (G.1 161)), (3, .ref (G.1 196)), (4, .int x4)] [] s := by
  refine wb_aload_n 1 hX dL_law_1485 rfl (pq := 1486) rfl ?_
  refine wb_aload_n 0 hX dL_law_1486 rfl (pq := 1487) rfl ?_
  refine wb_iload 4 hX dL_law_1487 rfl (pq := 1489) rfl ?_
  refine wb_iconst (v := iI (1)) hX dL_law_1489 rfl (pq := 1490) rfl ?_
  refine wb_iadd hX dL_law_1490 (pq := 1491) rfl ?_
  refine wb_sld hX hSc h1 dL_law_1491 (pq := 1492) rfl ?_
  refine wb_callVi (r0 := r) (s1 := s) [.int (xs (x4 + iI (1)).toNatClampNeg)] hX sh_0z ml_1016 (tW_count hc) (by decide) rfl rfl (Nat.le_of_ble_eq_true rfl) dL_law_1492 (pq := 1495) rfl ?_
  refine wb_aload_n 2 hX dL_law_1495 rfl (pq := 1496) rfl ?_
  refine wb_aload_n 0 hX dL_law_1496 rfl (pq := 1497) rfl ?_
  refine wb_iload 4 hX dL_law_1497 rfl (pq := 1499) rfl ?_
  refine wb_iconst (v := iI (1)) hX dL_law_1499 rfl (pq := 1500) rfl ?_
  refine wb_iadd hX dL_law_1500 (pq := 1501) rfl ?_
  refine wb_sld hX hSc h1 dL_law_1501 (pq := 1502) rfl ?_
  refine wb_callVi (r0 := r) (s1 := s2) [.int (xs (x4 + iI (1)).toNatClampNeg)] hX sh_161z ml_1501 (tM_count hm) (by decide) rfl rfl (Nat.le_of_ble_eq_true rfl) dL_law_1502 (pq := 1505) rfl ?_
  exact wb_icmp_eq (tgt := 1566) hX dL_law_1505 (by decide) (fun _ => k) (pq := 1508) rfl (fun c => absurd rfl c)
set_option maxHeartbeats 4000000 in
set_option maxRecDepth 100000 in
theorem law_3 {G : wG} {X : wX} {b L : Nat} {xs : Nat → Int32} {x4 kk rb : Int32} {s s1 s2 : wM} (hX : wOK G X code RL (some .boolean) 60) (hSc : wSc G X b L xs) (hLx : wLx G X) (hN : wNl X = 7) (hf : wCf X ((wCn X).1 + 1) ((wCn X).2 + 6)) (h1 : vp_in (x4 + iI (1)) L) (h2 : vp_in (x4 + iI (2)) L) (hc : fL_farm s (xs (x4 + iI (1)).toNatClampNeg) (xs (x4 + iI (2)).toNatClampNeg) = some (kk, s1)) (hm : fM_farm s1 (xs (x4 + iI (1)).toNatClampNeg) (xs (x4 + iI (2)).toNatClampNeg) = some (rb, s2)) (ht : fM_thrown s2 = some kk) (ho : kk = iI 0 → s2.2 196 0 = rb.toInt64) (k : WB G (wCs X ((wCn X).1 + 1) ((wCn X).2 + 6)) 1566 [(0, .ref b), (1, .ref (G.1 0)), (2, .ref (G.1 161)), (3, .ref (G.1 196)), (4, .int x4)] [] s2) : WB G X 307 [(0, .ref b), (1, .ref (G.1 0)), (2, .ref (G.1 161)), (3, .ref (G.1 196)), (4, .int x4)] [] s := by
  have hX1 := wOK_cs hX hf
  have hN1 : wNl (wCs X ((wCn X).1 + 1) ((wCn X).2 + 6)) = 7 := wNl_cs.trans hN
  have hSc1 : wSc G (wCs X ((wCn X).1 + 1) ((wCn X).2 + 6)) b L xs := wSc_cs hSc
  have hl1 : X.2.1.stackTraces = false := by obtain ⟨p, l, e, R, s0, m, args, below, meth, c, Q, nL, cells, slots⟩ := X; exact hLx.1
  refine wb_aload_n 1 hX dL_law_307 rfl (pq := 308) rfl ?_
  refine wb_aload_n 0 hX dL_law_308 rfl (pq := 309) rfl ?_
  refine wb_iload 4 hX dL_law_309 rfl (pq := 311) rfl ?_
  refine wb_iconst (v := iI (1)) hX dL_law_311 rfl (pq := 312) rfl ?_
  refine wb_iadd hX dL_law_312 (pq := 313) rfl ?_
  refine wb_sld hX hSc h1 dL_law_313 (pq := 314) rfl ?_
  refine wb_aload_n 0 hX dL_law_314 rfl (pq := 315) rfl ?_
  refine wb_iload 4 hX dL_law_315 rfl (pq := 317) rfl ?_
  refine wb_iconst (v := iI (2)) hX dL_law_317 rfl (pq := 318) rfl ?_
  refine wb_iadd hX dL_law_318 (pq := 319) rfl ?_
  refine wb_sld hX hSc h2 dL_law_319 (pq := 320) rfl ?_
  refine wb_aload_n 3 hX dL_law_320 rfl (pq := 321) rfl ?_
  refine wb_callF (r0 := kk) (s1 := s1) [.ref (G.1 0), .int (xs (x4 + iI (1)).toNatClampNeg), .int (xs (x4 + iI (2)).toNatClampNeg), .ref (G.1 196)] hX hLx mw_1029 (tL_farm hl1 hc) (by decide) rfl rfl (Nat.le_of_ble_eq_true rfl) dL_law_321 hf (pq := 324) rfl ?_
  refine wb_istore (loc' := [(5, .int kk), (0, .ref b), (1, .ref (G.1 0)), (2, .ref (G.1 161)), (3, .ref (G.1 196)), (4, .int x4)]) hX1 hN1 dL_law_324 (by decide) rfl (pq := 326) rfl ?_
  refine wb_aload_n 3 hX1 dL_law_326 rfl (pq := 327) rfl ?_
  refine wb_aload_n 1 hX1 dL_law_327 rfl (pq := 328) rfl ?_
  refine wb_iload 5 hX1 dL_law_328 rfl (pq := 330) rfl ?_
  refine wb_iconst (v := iI (1)) hX1 dL_law_330 rfl (pq := 331) rfl ?_
  refine wb_iadd hX1 dL_law_331 (pq := 332) rfl ?_
  refine wb_sld hX1 hSc1 h1 dL_law_332 (pq := 333) rfl ?_
  refine wb_aload_n 1 hX1 dL_law_333 rfl (pq := 334) rfl ?_
  refine wb_iload 5 hX1 dL_law_334 rfl (pq := 336) rfl ?_
  refine wb_iconst (v := iI (2)) hX1 dL_law_336 rfl (pq := 337) rfl ?_
  refine wb_iadd hX1 dL_law_337 (pq := 338) rfl ?_
  refine wb_sld hX1 hSc1 h2 dL_law_338 (pq := 339) rfl ?_
  refine wb_callVi (r0 := rb) (s1 := s2) [.int (xs (x4 + iI (1)).toNatClampNeg), .int (xs (x4 + iI (2)).toNatClampNeg)] hX1 sh_161z ml_1166 (tM_farm hm) (by decide) rfl rfl (Nat.le_of_ble_eq_true rfl) dL_law_339 (pq := 342) rfl ?_
  refine wb_istore (loc' := [(6, .int rb), (5, .int kk), (0, .ref b), (1, .ref (G.1 0)), (2, .ref (G.1 161)), (3, .ref (G.1 196)), (4, .int x4)]) hX1 hN1 dL_law_342 (by decide) rfl (pq := 344) rfl ?_
  refine wb_aload_n 4 hX1 dL_law_344 rfl (pq := 345) rfl ?_
  refine wb_callVi (r0 := kk) (s1 := s2) [] hX1 sh_161z ml_1112 (tM_thrown ht) (by decide) rfl rfl (Nat.le_of_ble_eq_true rfl) dL_law_345 (pq := 348) rfl ?_
  refine wb_iload 1 hX1 dL_law_348 rfl (pq := 350) rfl ?_
  refine wb_icmp_eq (tgt := 355) hX1 dL_law_350 (by decide) (fun _ => ?_) (pq := 353) rfl (fun c => absurd rfl c)
  refine wb_iload 1 hX1 dL_law_355 rfl (pq := 357) rfl ?_
  refine wb_if_ne (tgt := 372) hX1 dL_law_357 (by decide) (pq := 360) rfl (fun c0 => ?_) (fun _ => ?_)
  · refine wb_aload_n 5 hX1 dL_law_360 rfl (pq := 361) rfl ?_
    refine wb_iconst (v := iI 0) hX1 dL_law_361 rfl (pq := 362) rfl ?_
    refine wb_lald hX1 sh_196z (by unfold vp_in; decide) dL_law_362 (pq := 363) rfl ?_
    refine wb_iload 0 hX1 dL_law_363 rfl (pq := 365) rfl ?_
    refine wb_i2l hX1 dL_law_365 (pq := 366) rfl ?_
    refine wb_lcmp hX1 dL_law_366 (pq := 367) rfl ?_
    refine wb_if_eq (tgt := 372) hX1 dL_law_367 (by decide) (fun _ => ?_) (pq := 370) rfl (fun c => absurd (by rw [clamp0, ho c0]; exact lg_cmp_self _) c)
    refine wb_goto (tgt := 1566) hX1 dL_law_372 (by decide) ?_
    exact wb_sub [2, 3, 4, 5, 6] (loc' := [(0, .ref b), (1, .ref (G.1 0)), (2, .ref (G.1 161)), (3, .ref (G.1 196)), (4, .int x4)]) rfl k
  · refine wb_goto (tgt := 1566) hX1 dL_law_372 (by decide) ?_
    exact wb_sub [2, 3, 4, 5, 6] (loc' := [(0, .ref b), (1, .ref (G.1 0)), (2, .ref (G.1 161)), (3, .ref (G.1 196)), (4, .int x4)]) rfl k
set_option maxHeartbeats 4000000 in
set_option maxRecDepth 100000 in
theorem law_47 {G : wG} {X : wX} {b L : Nat} {xs : Nat → Int32} {x4 kk rb : Int32} {s s1 s2 : wM} (hX : wOK G X code RL (some .boolean) 60) (hSc : wSc G X b L xs) (hLx : wLx G X) (hN : wNl X = 7) (hf : wCf X ((wCn X).1 + 1) ((wCn X).2 + 6)) (h1 : vp_in (x4 + iI (1)) L) (hc : fL_row s (xs (x4 + iI (1)).toNatClampNeg) = some (kk, s1)) (hm : fM_row s1 (xs (x4 + iI (1)).toNatClampNeg) = some (rb, s2)) (ht : fM_thrown s2 = some kk) (ho : kk = iI 0 → s2.2 196 0 = rb.toInt64) (k : WB G (wCs X ((wCn X).1 + 1) ((wCn X).2 + 6)) 1566 [(0, .ref b), (1, .ref (G.1 0)), (2, .ref (G.1 161)), (3, .ref (G.1 196)), (4, .int x4)] [] s2) : WB G X 1510 [(0, .ref b), (1, .ref (G.1 0)), (2, .ref (G.1 161)), (3, .ref (G.1 196)), (4, .int x4)] [] s := by
  have hX1 := wOK_cs hX hf
  have hN1 : wNl (wCs X ((wCn X).1 + 1) ((wCn X).2 + 6)) = 7 := wNl_cs.trans hN
  have hSc1 : wSc G (wCs X ((wCn X).1 + 1) ((wCn X).2 + 6)) b L xs := wSc_cs hSc
  have hl1 : X.2.1.stackTraces = false := by obtain ⟨p, l, e, R, s0, m, args, below, meth, c, Q, nL, cells, slots⟩ := X; exact hLx.1
  refine wb_aload_n 1 hX dL_law_1510 rfl (pq := 1511) rfl ?_
  refine wb_aload_n 0 hX dL_law_1511 rfl (pq := 1512) rfl ?_
  refine wb_iload 4 hX dL_law_1512 rfl (pq := 1514) rfl ?_
  refine wb_iconst (v := iI (1)) hX dL_law_1514 rfl (pq := 1515) rfl ?_
  refine wb_iadd hX dL_law_1515 (pq := 1516) rfl ?_
  refine wb_sld hX hSc h1 dL_law_1516 (pq := 1517) rfl ?_
  refine wb_aload_n 3 hX dL_law_1517 rfl (pq := 1518) rfl ?_
  refine wb_callF (r0 := kk) (s1 := s1) [.ref (G.1 0), .int (xs (x4 + iI (1)).toNatClampNeg), .ref (G.1 196)] hX hLx mw_1104 (tL_row hl1 hc) (by decide) rfl rfl (Nat.le_of_ble_eq_true rfl) dL_law_1518 hf (pq := 1521) rfl ?_
  refine wb_istore (loc' := [(5, .int kk), (0, .ref b), (1, .ref (G.1 0)), (2, .ref (G.1 161)), (3, .ref (G.1 196)), (4, .int x4)]) hX1 hN1 dL_law_1521 (by decide) rfl (pq := 1523) rfl ?_
  refine wb_aload_n 3 hX1 dL_law_1523 rfl (pq := 1524) rfl ?_
  refine wb_aload_n 1 hX1 dL_law_1524 rfl (pq := 1525) rfl ?_
  refine wb_iload 5 hX1 dL_law_1525 rfl (pq := 1527) rfl ?_
  refine wb_iconst (v := iI (1)) hX1 dL_law_1527 rfl (pq := 1528) rfl ?_
  refine wb_iadd hX1 dL_law_1528 (pq := 1529) rfl ?_
  refine wb_sld hX1 hSc1 h1 dL_law_1529 (pq := 1530) rfl ?_
  refine wb_callVi (r0 := rb) (s1 := s2) [.int (xs (x4 + iI (1)).toNatClampNeg)] hX1 sh_161z ml_1667 (tM_row hm) (by decide) rfl rfl (Nat.le_of_ble_eq_true rfl) dL_law_1530 (pq := 1533) rfl ?_
  refine wb_istore (loc' := [(6, .int rb), (5, .int kk), (0, .ref b), (1, .ref (G.1 0)), (2, .ref (G.1 161)), (3, .ref (G.1 196)), (4, .int x4)]) hX1 hN1 dL_law_1533 (by decide) rfl (pq := 1535) rfl ?_
  refine wb_aload_n 4 hX1 dL_law_1535 rfl (pq := 1536) rfl ?_
  refine wb_callVi (r0 := kk) (s1 := s2) [] hX1 sh_161z ml_1112 (tM_thrown ht) (by decide) rfl rfl (Nat.le_of_ble_eq_true rfl) dL_law_1536 (pq := 1539) rfl ?_
  refine wb_iload 1 hX1 dL_law_1539 rfl (pq := 1541) rfl ?_
  refine wb_icmp_eq (tgt := 1546) hX1 dL_law_1541 (by decide) (fun _ => ?_) (pq := 1544) rfl (fun c => absurd rfl c)
  refine wb_iload 1 hX1 dL_law_1546 rfl (pq := 1548) rfl ?_
  refine wb_if_ne (tgt := 1563) hX1 dL_law_1548 (by decide) (pq := 1551) rfl (fun c0 => ?_) (fun _ => ?_)
  · refine wb_aload_n 5 hX1 dL_law_1551 rfl (pq := 1552) rfl ?_
    refine wb_iconst (v := iI 0) hX1 dL_law_1552 rfl (pq := 1553) rfl ?_
    refine wb_lald hX1 sh_196z (by unfold vp_in; decide) dL_law_1553 (pq := 1554) rfl ?_
    refine wb_iload 0 hX1 dL_law_1554 rfl (pq := 1556) rfl ?_
    refine wb_i2l hX1 dL_law_1556 (pq := 1557) rfl ?_
    refine wb_lcmp hX1 dL_law_1557 (pq := 1558) rfl ?_
    refine wb_if_eq (tgt := 1563) hX1 dL_law_1558 (by decide) (fun _ => ?_) (pq := 1561) rfl (fun c => absurd (by rw [clamp0, ho c0]; exact lg_cmp_self _) c)
    refine wb_goto (tgt := 1566) hX1 dL_law_1563 (by decide) ?_
    exact wb_sub [2, 3, 4, 5, 6] (loc' := [(0, .ref b), (1, .ref (G.1 0)), (2, .ref (G.1 161)), (3, .ref (G.1 196)), (4, .int x4)]) rfl k
  · refine wb_goto (tgt := 1566) hX1 dL_law_1563 (by decide) ?_
    exact wb_sub [2, 3, 4, 5, 6] (loc' := [(0, .ref b), (1, .ref (G.1 0)), (2, .ref (G.1 161)), (3, .ref (G.1 196)), (4, .int x4)]) rfl k
