def fAh_rewind (s : wM)  : Option (wM) :=
  chkC (iI (0)) (iI (0)) (iI (9)) 9 9 (nmM (wCpy s 8 14 (iI (0)).toNatClampNeg (iI (0)).toNatClampNeg (iI (9)).toNatClampNeg) fun s_2 =>
  nmM (wsI s_2 13 8 (iI (0))) fun s_3 =>
  some s_3)
def fLand_between (s : wM) (x1 : Int32) (x2 : Int32) : Option (Int32) :=
  chk ((x1 * (iI (9))) + x2) 81 (some (s.1 12 ((x1 * (iI (9))) + x2).toNatClampNeg))
def fAh_look_J120 (k45 : Int32 → wM → Option (wM)) (k57 : Int32 → wM → Option (wM)) (x2 : Int32) (x3 : Int32)  (s : wM) : Option (wM) :=
  k57 (x3 + iI (1)) s
def fAh_look_L57 (k45 : Int32 → wM → Option (wM)) (x2 : Int32) : Int32 → wM → (Int32 → wM → Option (wM)) → Option (wM) := fun x3 s k57 =>
  if (s.1 13 12) ≤ x3 then
  (k45 (x2 + iI (1)) s)
  else ((fLand_between s x2 x3).bind fun q_3 =>
  if q_3 = (iI (-1)) then
  (fAh_look_J120 k45 k57 x2 x3 s)
  else (chk (s.1 13 6) 36 (nmM (wsI s 17 (s.1 13 6).toNatClampNeg x2) fun s_6 =>
  chk (s_6.1 13 6) 36 (nmM (wsI s_6 18 (s_6.1 13 6).toNatClampNeg x3) fun s_8 =>
  (fLand_between s_8 x2 x3).bind fun q_10 =>
  chk (s_8.1 13 6) 36 (nmM (wsI s_8 19 (s_8.1 13 6).toNatClampNeg q_10) fun s_12 =>
  nmM (wsI s_12 13 6 ((s_12.1 13 6) + (iI (1)))) fun s_13 =>
  fAh_look_J120 k45 k57 x2 x3 s_13)))))
def fAh_look_L45   : Int32 → wM → (Int32 → wM → Option (wM)) → Option (wM) := fun x2 s k45 =>
  if (s.1 13 12) ≤ x2 then
  (some s)
  else (wh2 (fAh_look_L57 k45 x2) 100000 (x2 + (iI (1))) s)
def fAh_look (s : wM)  : Option (wM) :=
  nmM (wsI s 13 12 (s.1 7 4)) fun s_1 =>
  nmM (wsI s_1 13 13 (s_1.1 11 (iI (0)).toNatClampNeg)) fun s_2 =>
  chkC (iI (0)) (iI (0)) (iI (9)) 9 9 (nmM (wCpy s_2 9 15 (iI (0)).toNatClampNeg (iI (0)).toNatClampNeg (iI (9)).toNatClampNeg) fun s_4 =>
  (fAh_rewind s_4).bind fun q_6 =>
  nmM (wsI q_6 13 6 (iI (0))) fun s_7 =>
  wh2 (fAh_look_L45) 100000 (iI (0)) s_7)
def fAh_pairOf_J51 (k16 : Int32 → Option (Int32)) (x3 : Int32) (x4 : Int32) (x5 : Int32)  (s : wM) : Option (Int32) :=
  k16 (x5 + iI (1))
def fAh_pairOf_L16  (x3 : Int32) (x4 : Int32) (s : wM) : Int32 → (Int32 → Option (Int32)) → Option (Int32) := fun x5 k16 =>
  if (s.1 13 6) ≤ x5 then
  (some (iI (-1)))
  else (chk x5 36 (if (s.1 17 x5.toNatClampNeg) = x3 then
  (if (s.1 18 x5.toNatClampNeg) = x4 then
  (some x5)
  else (fAh_pairOf_J51 k16 x3 x4 x5 s))
  else (fAh_pairOf_J51 k16 x3 x4 x5 s)))
def fAh_pairOf (s : wM) (x1 : Int32) (x2 : Int32) : Option (Int32) :=
  wh1 (fAh_pairOf_L16 (iMin x1 x2) (iMax x1 x2) s) 100000 (iI (0))
def fAh_measureSeep_J94 (k10 : Int32 → wM → Option (wM)) (x1 : Int32) (x2 : Int32) (v0 : Int32) (s : wM) : Option (wM) :=
  chk v0 9 (nmM (wsI s 22 v0.toNatClampNeg ((s.1 22 v0.toNatClampNeg) + (iAbs x2))) fun s_2 =>
  k10 (x1 + iI (1)) s_2)
def fAh_measureSeep_J63 (k10 : Int32 → wM → Option (wM)) (x1 : Int32) (v0 : Int32) (s : wM) : Option (wM) :=
  chk x1 36 (nmM (wsI s 21 x1.toNatClampNeg v0) fun s_2 =>
  if v0 ≤ iI 0 then
  (fAh_measureSeep_J94 k10 x1 v0 (s_2.1 18 x1.toNatClampNeg) s_2)
  else (fAh_measureSeep_J94 k10 x1 v0 (s_2.1 17 x1.toNatClampNeg) s_2))
def fAh_measureSeep_L10   : Int32 → wM → (Int32 → wM → Option (wM)) → Option (wM) := fun x1 s k10 =>
  if (s.1 13 6) ≤ x1 then
  (some s)
  else (chk x1 36 (if (s.1 19 x1.toNatClampNeg) ≤ iI 0 then
  (fAh_measureSeep_J63 k10 x1 (iI (0)) s)
  else (chk (s.1 17 x1.toNatClampNeg) 9 (chk (s.1 18 x1.toNatClampNeg) 9 (chkD ((iI (2)) * (s.1 19 x1.toNatClampNeg)) (fAh_measureSeep_J63 k10 x1 (((s.1 14 (s.1 17 x1.toNatClampNeg).toNatClampNeg) - (s.1 14 (s.1 18 x1.toNatClampNeg).toNatClampNeg)) / ((iI (2)) * (s.1 19 x1.toNatClampNeg))) s))))))
def fAh_measureSeep (s : wM)  : Option (wM) :=
  nmM (wFillI s 22 9 (iI (0))) fun s_1 =>
  wh2 (fAh_measureSeep_L10) 100000 (iI (0)) s_1
def fAh_letSeep_J40 (k2 : Int32 → wM → Option (wM)) (x1 : Int32) (v0 : Int32) (v1 : Int32) (s : wM) : Option (wM) :=
  chk v1 9 (nmM (wsI s 22 v1.toNatClampNeg v0) fun s_2 =>
  k2 (x1 + iI (1)) s_2)
def fAh_letSeep_J130 (k49 : Int32 → wM → Option (wM)) (x1 : Int32)  (s : wM) : Option (wM) :=
  k49 (x1 + iI (1)) s
def fAh_letSeep_J85 (k49 : Int32 → wM → Option (wM)) (x1 : Int32) (v0 : Int32) (s : wM) : Option (wM) :=
  chk v0 9 (if (s.1 22 v0.toNatClampNeg) = (iI (-1)) then
  (fAh_letSeep_J130 k49 x1 s)
  else (chk x1 36 (chk (s.1 17 x1.toNatClampNeg) 9 (nmM (wsI s 14 (s.1 17 x1.toNatClampNeg).toNatClampNeg ((s.1 14 (s.1 17 x1.toNatClampNeg).toNatClampNeg) - (s.1 21 x1.toNatClampNeg))) fun s_5 =>
  chk (s_5.1 18 x1.toNatClampNeg) 9 (nmM (wsI s_5 14 (s_5.1 18 x1.toNatClampNeg).toNatClampNeg ((s_5.1 14 (s_5.1 18 x1.toNatClampNeg).toNatClampNeg) + (s_5.1 21 x1.toNatClampNeg))) fun s_7 =>
  fAh_letSeep_J130 k49 x1 s_7)))))
def fAh_letSeep_L49   : Int32 → wM → (Int32 → wM → Option (wM)) → Option (wM) := fun x1 s k49 =>
  if (s.1 13 6) ≤ x1 then
  (some s)
  else (chk x1 36 (if (s.1 21 x1.toNatClampNeg) ≤ iI 0 then
  (fAh_letSeep_J85 k49 x1 (s.1 18 x1.toNatClampNeg) s)
  else (fAh_letSeep_J85 k49 x1 (s.1 17 x1.toNatClampNeg) s)))
def fAh_letSeep_L2   : Int32 → wM → (Int32 → wM → Option (wM)) → Option (wM) := fun x1 s k2 =>
  if (s.1 13 12) ≤ x1 then
  (wh2 (fAh_letSeep_L49) 100000 (iI (0)) s)
  else (chk x1 9 (if (s.1 22 x1.toNatClampNeg) ≤ (s.1 14 x1.toNatClampNeg) then
  (fAh_letSeep_J40 k2 x1 (s.1 22 x1.toNatClampNeg) x1 s)
  else (fAh_letSeep_J40 k2 x1 (iI (-1)) x1 s)))
def fAh_letSeep (s : wM)  : Option (wM) :=
  wh2 (fAh_letSeep_L2) 100000 (iI (0)) s
def fW_putToDepth (s : wM) (x0 : Int32) : Option (Int32) :=
  some (iMax (iI (0)) (iMin (iI (99)) x0))
def fAh_pass_J150 (k55 : Int32 → wM → Option (wM)) (x1 : Int32) (x2 : Int32) (x3 : Int32) (v0 : Int32) (s : wM) : Option (wM) :=
  chkZ v0 (nmM (wsI s 13 8 v0) fun s_2 =>
  k55 (x3 + iI (1)) s_2)
def fAh_pass_J149 (k55 : Int32 → wM → Option (wM)) (x1 : Int32) (x2 : Int32) (x3 : Int32)  (s : wM) : Option (wM) :=
  fAh_pass_J150 k55 x1 x2 x3 (iI (0)) s
def fAh_pass_J90 (k55 : Int32 → wM → Option (wM)) (x1 : Int32) (x2 : Int32) (x3 : Int32) (v0 : Int32) (v1 : Int32) (s : wM) : Option (wM) :=
  nmM (wsI s 13 7 ((s.1 13 7) + (iMax (iI (0)) ((v1 + v0) - (iI (99)))))) fun s_1 =>
  (fW_putToDepth s_1 (v1 + v0)).bind fun q_3 =>
  chk x3 9 (nmM (wsI s_1 14 x3.toNatClampNeg q_3) fun s_5 =>
  if (s_5.1 13 8) = iI 0 then
  (fAh_pass_J149 k55 x1 x2 x3 s_5)
  else (if (s_5.1 14 x3.toNatClampNeg) = (s_5.1 20 x3.toNatClampNeg) then
  (fAh_pass_J150 k55 x1 x2 x3 (iI (1)) s_5)
  else (fAh_pass_J149 k55 x1 x2 x3 s_5)))
def fAh_pass_L55  (x1 : Int32) (x2 : Int32) : Int32 → wM → (Int32 → wM → Option (wM)) → Option (wM) := fun x3 s k55 =>
  if (s.1 13 12) ≤ x3 then
  (some s)
  else (chk x3 9 (if ((iShr x2 x3) &&& (iI (1))) = (iI (1)) then
  (fAh_pass_J90 k55 x1 x2 x3 x1 ((s.1 14 x3.toNatClampNeg) + (s.1 15 x3.toNatClampNeg)) s)
  else (fAh_pass_J90 k55 x1 x2 x3 (iI (0)) ((s.1 14 x3.toNatClampNeg) + (s.1 15 x3.toNatClampNeg)) s)))
def fAh_pass_J50  (x1 : Int32) (x2 : Int32) (v0 : Int32) (s : wM) : Option (wM) :=
  chkZ v0 (nmM (wsI s 13 8 v0) fun s_2 =>
  wh2 (fAh_pass_L55 x1 x2) 100000 (iI (0)) s_2)
def fAh_pass_J12  (x1 : Int32) (x2 : Int32)  (s : wM) : Option (wM) :=
  chkC (iI (0)) (iI (0)) (iI (9)) 9 9 (nmM (wCpy s 14 20 (iI (0)).toNatClampNeg (iI (0)).toNatClampNeg (iI (9)).toNatClampNeg) fun s_2 =>
  (fAh_measureSeep s_2).bind fun q_4 =>
  (fAh_letSeep q_4).bind fun q_6 =>
  nmM (wsI q_6 13 7 (iI (0))) fun s_7 =>
  if x1 = iI 0 then
  (fAh_pass_J50 x1 x2 (iI (1)) s_7)
  else (fAh_pass_J50 x1 x2 (iI (0)) s_7))
def fAh_pass (s : wM) (x1 : Int32) (x2 : Int32) : Option (wM) :=
  if (s.1 13 8) = iI 0 then
  (fAh_pass_J12 x1 x2 s)
  else (if x1 = iI 0 then
  (some s)
  else (fAh_pass_J12 x1 x2 s))
def fAh_isEven_J38   (v0 : Int32) (s : wM) : Option (Int32) :=
  chkZ v0 (some v0)
def fAh_isEven (s : wM) (x1 : Int32) : Option (Int32) :=
  chk x1 36 (chk (s.1 17 x1.toNatClampNeg) 9 (chk (s.1 18 x1.toNatClampNeg) 9 (if (s.1 13 13) ≤ (iAbs ((s.1 14 (s.1 17 x1.toNatClampNeg).toNatClampNeg) - (s.1 14 (s.1 18 x1.toNatClampNeg).toNatClampNeg))) then
  (fAh_isEven_J38 (iI (0)) s)
  else (fAh_isEven_J38 (iI (1)) s))))
def fAh_firstEven_L2   (s : wM) : Int32 → (Int32 → Option (Int32)) → Option (Int32) := fun x1 k2 =>
  if (s.1 13 6) ≤ x1 then
  (some (iI (-1)))
  else ((fAh_isEven s x1).bind fun q_3 =>
  if q_3 = iI 0 then
  (k2 (x1 + iI (1)))
  else (some x1))
def fAh_firstEven (s : wM)  : Option (Int32) :=
  wh1 (fAh_firstEven_L2 s) 100000 (iI (0))
def fAh_evenPairs_J26 (k4 : Int32 → Int32 → Option (Int32)) (x2 : Int32) (v0 : Int32) (v1 : Int32) (s : wM) : Option (Int32) :=
  k4 (v1 + v0) (x2 + iI (1))
def fAh_evenPairs_L4   (s : wM) : Int32 → Int32 → (Int32 → Int32 → Option (Int32)) → Option (Int32) := fun x1 x2 k4 =>
  if (s.1 13 6) ≤ x2 then
  (some x1)
  else ((fAh_isEven s x2).bind fun q_3 =>
  if q_3 = iI 0 then
  (fAh_evenPairs_J26 k4 x2 (iI (0)) x1 s)
  else (fAh_evenPairs_J26 k4 x2 (iI (1)) x1 s))
def fAh_evenPairs (s : wM)  : Option (Int32) :=
  wh2 (fAh_evenPairs_L4 s) 100000 (iI (0)) (iI (0))
def fAh_isLawful_J13   (v0 : Int32) (s : wM) : Option (Int32) :=
  chkZ v0 (some v0)
def fAh_isLawful (s : wM)  : Option (Int32) :=
  (fAh_firstEven s).bind fun q_2 =>
  if q_2 = (iI (-1)) then
  (fAh_isLawful_J13 (iI (1)) s)
  else (fAh_isLawful_J13 (iI (0)) s)
def fAh_lasting_L2   : Int32 → wM → (Int32 → wM → Option (Int32 × wM)) → Option (Int32 × wM) := fun x1 s k2 =>
  if (iI (100)) < x1 then
  (some ((iI (101)), s))
  else ((fAh_pass s (iI (0)) (iI (0))).bind fun q_3 =>
  (fAh_isLawful q_3).bind fun q_5 =>
  if q_5 = iI 0 then
  (some (x1, q_3))
  else (k2 (x1 + iI (1)) q_3))
def fAh_lasting (s : wM)  : Option (Int32 × wM) :=
  wh2 (fAh_lasting_L2) 100000 (iI (1)) s
def fAh_allAlike_L2   (s : wM) : Int32 → (Int32 → Option (Int32)) → Option (Int32) := fun x1 k2 =>
  if (s.1 13 12) ≤ x1 then
  (some (iI (1)))
  else (chk x1 9 (if (s.1 14 x1.toNatClampNeg) = (s.1 14 (iI (0)).toNatClampNeg) then
  (k2 (x1 + iI (1)))
  else (some (iI (0)))))
def fAh_allAlike (s : wM)  : Option (Int32) :=
  wh1 (fAh_allAlike_L2 s) 100000 (iI (1))
def fAh_clearPaid (s : wM)  : Option (wM) :=
  nmM (wFillI s 16 9 (iI (0))) fun s_1 =>
  some s_1
def fAh_payInto_J42 (k2 : Int32 → wM → Option (wM)) (x1 : Nat) (x2 : Int32) (x3 : Int32)  (s : wM) : Option (wM) :=
  k2 (x3 + iI (1)) s
def fAh_payInto_L2  (x1 : Nat) (x2 : Int32) : Int32 → wM → (Int32 → wM → Option (wM)) → Option (wM) := fun x3 s k2 =>
  if (s.1 13 6) ≤ x3 then
  (some s)
  else ((fAh_isEven s x3).bind fun q_3 =>
  if q_3 = iI 0 then
  (fAh_payInto_J42 k2 x1 x2 x3 s)
  else (chk x3 36 (chk (s.1 17 x3.toNatClampNeg) 9 (nmM (wsI s x1 (s.1 17 x3.toNatClampNeg).toNatClampNeg ((s.1 x1 (s.1 17 x3.toNatClampNeg).toNatClampNeg) + x2)) fun s_7 =>
  chk (s_7.1 18 x3.toNatClampNeg) 9 (nmM (wsI s_7 x1 (s_7.1 18 x3.toNatClampNeg).toNatClampNeg ((s_7.1 x1 (s_7.1 18 x3.toNatClampNeg).toNatClampNeg) + x2)) fun s_9 =>
  fAh_payInto_J42 k2 x1 x2 x3 s_9)))))
def fAh_payInto (s : wM) (x1 : Nat) (x2 : Int32) : Option (wM) :=
  wh2 (fAh_payInto_L2 x1 x2) 100000 (iI (0)) s
def fGr_join (s : wM) (x1 : Int32) (x2 : Int32) : Option (wM) :=
  chk x1 9 (nmM (wsI s 31 x1.toNatClampNeg ((s.1 31 x1.toNatClampNeg) ||| (iShl (iI (1)) x2))) fun s_2 =>
  chk x2 9 (nmM (wsI s_2 31 x2.toNatClampNeg ((s_2.1 31 x2.toNatClampNeg) ||| (iShl (iI (1)) x1))) fun s_4 =>
  some s_4))
def fAh_markEven_J34 (k2 : Int32 → wM → Option (wM)) (x2 : Int32)  (s : wM) : Option (wM) :=
  k2 (x2 + iI (1)) s
def fAh_markEven_L2   : Int32 → wM → (Int32 → wM → Option (wM)) → Option (wM) := fun x2 s k2 =>
  if (s.1 13 6) ≤ x2 then
  (some s)
  else ((fAh_isEven s x2).bind fun q_3 =>
  if q_3 = iI 0 then
  (fAh_markEven_J34 k2 x2 s)
  else (chk x2 36 ((fGr_join s (s.1 17 x2.toNatClampNeg) (s.1 18 x2.toNatClampNeg)).bind fun q_7 =>
  fAh_markEven_J34 k2 x2 q_7)))
def fAh_markEven (s : wM)  : Option (wM) :=
  wh2 (fAh_markEven_L2) 100000 (iI (0)) s
def fAh_pack_L4   (s : wM) : Int64 → Int32 → (Int64 → Int32 → Option (Int64)) → Option (Int64) := fun x1 x3 k4 =>
  if (s.1 13 12) ≤ x3 then
  (some x1)
  else (chk x3 9 (nmL (x1 ||| (lShl ((s.1 14 x3.toNatClampNeg).toInt64) ((iI (7)) * x3))) fun y_3 =>
  k4 y_3 (x3 + iI (1))))
def fAh_pack (s : wM)  : Option (Int64) :=
  wh2 (fAh_pack_L4 s) 100000 (0 : Int64) (iI (0))
def fAh_unpack_L2  (x1 : Int64) : Int32 → wM → (Int32 → wM → Option (wM)) → Option (wM) := fun x3 s k2 =>
  if (s.1 13 12) ≤ x3 then
  (nmM (wsI s 13 8 (iI (0))) fun s_2 =>
  some s_2)
  else (chk x3 9 (nmM (wsI s 14 x3.toNatClampNeg ((lUshr x1 ((iI (7)) * x3)).toInt32 &&& (iI (127)))) fun s_4 =>
  k2 (x3 + iI (1)) s_4))
def fAh_unpack (s : wM) (x1 : Int64) : Option (wM) :=
  wh2 (fAh_unpack_L2 x1) 100000 (iI (0)) s
def fGr_clear (s : wM) (x1 : Int32) : Option (wM) :=
  nmM (wsI s 28 2 x1) fun s_1 =>
  nmM (wFillI s_1 31 9 (iI (0))) fun s_2 =>
  some s_2
def fLand_touching_J30 (k4 : Int32 → Int32 → Option (Int32)) (x1 : Int32) (x3 : Int32) (v0 : Int32) (v1 : Int32) (s : wM) : Option (Int32) :=
  k4 (v1 ||| v0) (x3 + iI (1))
def fLand_touching_L4  (x1 : Int32) (s : wM) : Int32 → Int32 → (Int32 → Int32 → Option (Int32)) → Option (Int32) := fun x2 x3 k4 =>
  if (s.1 7 4) ≤ x3 then
  (some x2)
  else ((fLand_between s x1 x3).bind fun q_3 =>
  if q_3 = (iI (-1)) then
  (fLand_touching_J30 k4 x1 x3 (iI (0)) x2 s)
  else (fLand_touching_J30 k4 x1 x3 (iShl (iI (1)) x3) x2 s))
def fLand_touching (s : wM) (x1 : Int32) : Option (Int32) :=
  wh2 (fLand_touching_L4 x1 s) 100000 (iI (0)) (iI (0))
def fGr_look_L10   : Int32 → wM → (Int32 → wM → Option (wM)) → Option (wM) := fun x2 s k10 =>
  if (s.1 28 2) ≤ x2 then
  (some s)
  else ((fLand_touching s x2).bind fun q_3 =>
  chk x2 9 (nmM (wsI s 31 x2.toNatClampNeg q_3) fun s_5 =>
  k10 (x2 + iI (1)) s_5))
def fGr_look (s : wM)  : Option (wM) :=
  nmM (wsI s 28 2 (s.1 7 4)) fun s_1 =>
  wh2 (fGr_look_L10) 100000 (iI (0)) s_1
def fJ_bitCount (s : wM) (x0 : Int32) : Option (Int32) :=
  nmI (x0 - ((iUshr x0 (iI (1))) &&& (1431655765 : Int32))) fun y_1 =>
  nmI ((y_1 &&& (858993459 : Int32)) + ((iUshr y_1 (iI (2))) &&& (858993459 : Int32))) fun y_2 =>
  nmI ((y_2 + (iUshr y_2 (iI (4)))) &&& (252645135 : Int32)) fun y_3 =>
  nmI ((y_3 + (iUshr y_3 (iI (8)))) + (iUshr (y_3 + (iUshr y_3 (iI (8)))) (iI (16)))) fun y_4 =>
  some (y_4 &&& (iI (63)))
def fGr_pairs_L4   (s : wM) : Int32 → Int32 → (Int32 → Int32 → Option (Int32)) → Option (Int32) := fun x1 x2 k4 =>
  if (s.1 28 2) ≤ x2 then
  (some (x1 / (iI (2))))
  else (chk x2 9 ((fJ_bitCount s (s.1 31 x2.toNatClampNeg)).bind fun q_4 =>
  k4 (x1 + q_4) (x2 + iI (1))))
def fGr_pairs (s : wM)  : Option (Int32) :=
  wh2 (fGr_pairs_L4 s) 100000 (iI (0)) (iI (0))
def fGr_isUnlike_J38 (k2 : Int32 → Option (Int32)) (x1 : Int32) (x2 : Int32)  (s : wM) : Option (Int32) :=
  k2 (x2 + iI (1))
def fGr_isUnlike_L2  (x1 : Int32) (s : wM) : Int32 → (Int32 → Option (Int32)) → Option (Int32) := fun x2 k2 =>
  if x1 ≤ x2 then
  (some (iI (1)))
  else (chk x1 9 (if ((iShr (s.1 31 x1.toNatClampNeg) x2) &&& (iI (1))) = (iI (1)) then
  (chk x2 9 (if (s.1 29 x2.toNatClampNeg) = (s.1 29 x1.toNatClampNeg) then
  (some (iI (0)))
  else (fGr_isUnlike_J38 k2 x1 x2 s)))
  else (fGr_isUnlike_J38 k2 x1 x2 s)))
def fGr_isUnlike (s : wM) (x1 : Int32) : Option (Int32) :=
  wh1 (fGr_isUnlike_L2 x1 s) 100000 (iI (0))
def fGr_paintFrom_J62 (rec : wM → Int32 → Int32 → Int32 → Option (Int32 × wM)) (k13 : Int32 → wM → Option (Int32 × wM)) (x1 : Int32) (x2 : Int32) (x3 : Int32) (x4 : Int32)  (s : wM) : Option (Int32 × wM) :=
  k13 (x4 + iI (1)) s
def fGr_paintFrom_J68 (rec : wM → Int32 → Int32 → Int32 → Option (Int32 × wM))    (s : wM) : Option (Int32 × wM) :=
  some ((iI (0)), s)
def fGr_paintFrom_L13 (rec : wM → Int32 → Int32 → Int32 → Option (Int32 × wM))  (x1 : Int32) (x2 : Int32) (x3 : Int32) : Int32 → wM → (Int32 → wM → Option (Int32 × wM)) → Option (Int32 × wM) := fun x4 s k13 =>
  if x3 ≤ x4 then
  (fGr_paintFrom_J68 rec s)
  else (if x2 < x4 then
  (fGr_paintFrom_J68 rec s)
  else (chk x1 9 (nmM (wsI s 29 x1.toNatClampNeg x4) fun s_4 =>
  (fGr_isUnlike s_4 x1).bind fun q_6 =>
  if q_6 = iI 0 then
  (fGr_paintFrom_J62 rec k13 x1 x2 x3 x4 s_4)
  else ((rec s_4 (x1 + (iI (1))) (iMax x2 (x4 + (iI (1)))) x3).bind fun q_9 =>
  if q_9.1 = iI 0 then
  (fGr_paintFrom_J62 rec k13 x1 x2 x3 x4 q_9.2)
  else (some ((iI (1)), q_9.2))))))
def fGr_paintFrom_B (rec : wM → Int32 → Int32 → Int32 → Option (Int32 × wM)) (s : wM) (x1 : Int32) (x2 : Int32) (x3 : Int32) : Option (Int32 × wM) :=
  if x1 < (s.1 28 2) then
  (wh2 (fGr_paintFrom_L13 rec x1 x2 x3) 100000 (iI (0)) s)
  else (some ((iI (1)), s))
def fGr_paintFrom : Nat → wM → Int32 → Int32 → Int32 → Option (Int32 × wM)
  | 0, _, _, _, _ => none
  | n + 1, s, a, b, c => fGr_paintFrom_B (fGr_paintFrom n) s a b c
def fGr_paintAll_L2   : Int32 → wM → (Int32 → wM → Option (Int32 × wM)) → Option (Int32 × wM) := fun x1 s k2 =>
  if (s.1 28 2) ≤ x1 then
  ((fGr_paintFrom 12 s (iI (0)) (iI (0)) (s.1 28 2)).bind fun q_3 =>
  some ((q_3.2.1 28 2), q_3.2))
  else ((fGr_paintFrom 12 s (iI (0)) (iI (0)) x1).bind fun q_5 =>
  if q_5.1 = iI 0 then
  (k2 (x1 + iI (1)) q_5.2)
  else (some (x1, q_5.2)))
def fGr_paintAll (s : wM)  : Option (Int32 × wM) :=
  wh2 (fGr_paintAll_L2) 100000 (iI (0)) s
def fGr_isKnot_J37 (k2 : Int32 → Option (Int32)) (x1 : Int32) (x2 : Int32)  (s : wM) : Option (Int32) :=
  k2 (x2 + iI (1))
def fGr_isKnot_L2  (x1 : Int32) (s : wM) : Int32 → (Int32 → Option (Int32)) → Option (Int32) := fun x2 k2 =>
  if (s.1 28 2) ≤ x2 then
  (some (iI (1)))
  else (if ((iShr x1 x2) &&& (iI (1))) = (iI (1)) then
  (chk x2 9 (if (x1 &&& ((s.1 31 x2.toNatClampNeg) ^^^ (iI (-1)))) = (iShl (iI (1)) x2) then
  (fGr_isKnot_J37 k2 x1 x2 s)
  else (some (iI (0)))))
  else (fGr_isKnot_J37 k2 x1 x2 s))
def fGr_isKnot (s : wM) (x1 : Int32) : Option (Int32) :=
  wh1 (fGr_isKnot_L2 x1 s) 100000 (iI (0))
def fGr_largestKnot_J35 (k4 : Int32 → Int32 → Option (Int32)) (x1 : Int32) (x2 : Int32)  (s : wM) : Option (Int32) :=
  k4 x1 (x2 + iI (1))
def fGr_largestKnot_L4   (s : wM) : Int32 → Int32 → (Int32 → Int32 → Option (Int32)) → Option (Int32) := fun x1 x2 k4 =>
  if (iShl (iI (1)) (s.1 28 2)) ≤ x2 then
  (some x1)
  else ((fJ_bitCount s x2).bind fun q_3 =>
  (fJ_bitCount s x1).bind fun q_5 =>
  if q_3 ≤ q_5 then
  (fGr_largestKnot_J35 k4 x1 x2 s)
  else ((fGr_isKnot s x2).bind fun q_8 =>
  if q_8 = iI 0 then
  (fGr_largestKnot_J35 k4 x1 x2 s)
  else (fGr_largestKnot_J35 k4 x2 x2 s)))
def fGr_largestKnot (s : wM)  : Option (Int32) :=
  wh2 (fGr_largestKnot_L4 s) 100000 (iI (0)) (iI (1))
def fGr_isCover_J33 (k2 : Int32 → Option (Int32)) (x1 : Int32) (x2 : Int32)  (s : wM) : Option (Int32) :=
  k2 (x2 + iI (1))
def fGr_isCover_L2  (x1 : Int32) (s : wM) : Int32 → (Int32 → Option (Int32)) → Option (Int32) := fun x2 k2 =>
  if (s.1 28 2) ≤ x2 then
  (some (iI (1)))
  else (if ((iShr x1 x2) &&& (iI (1))) = iI 0 then
  (chk x2 9 (if ((s.1 31 x2.toNatClampNeg) &&& (x1 ^^^ (iI (-1)))) = iI 0 then
  (fGr_isCover_J33 k2 x1 x2 s)
  else (some (iI (0)))))
  else (fGr_isCover_J33 k2 x1 x2 s))
def fGr_isCover (s : wM) (x1 : Int32) : Option (Int32) :=
  wh1 (fGr_isCover_L2 x1 s) 100000 (iI (0))
def fGr_smallestCover_J42 (k11 : Int32 → Int32 → Option (Int32)) (x1 : Int32) (x2 : Int32)  (s : wM) : Option (Int32) :=
  k11 x1 (x2 + iI (1))
def fGr_smallestCover_L11   (s : wM) : Int32 → Int32 → (Int32 → Int32 → Option (Int32)) → Option (Int32) := fun x1 x2 k11 =>
  if (iShl (iI (1)) (s.1 28 2)) ≤ x2 then
  (some x1)
  else ((fJ_bitCount s x2).bind fun q_3 =>
  (fJ_bitCount s x1).bind fun q_5 =>
  if q_5 ≤ q_3 then
  (fGr_smallestCover_J42 k11 x1 x2 s)
  else ((fGr_isCover s x2).bind fun q_8 =>
  if q_8 = iI 0 then
  (fGr_smallestCover_J42 k11 x1 x2 s)
  else (fGr_smallestCover_J42 k11 x2 x2 s)))
def fGr_smallestCover (s : wM)  : Option (Int32) :=
  wh2 (fGr_smallestCover_L11 s) 100000 ((iShl (iI (1)) (s.1 28 2)) - (iI (1))) (iI (0))
def fGr_measureAround_J41 (k2 : Int32 → wM → Option (wM)) (x1 : Int32) (x2 : Int32) (x3 : Int32)  (s : wM) : Option (wM) :=
  k2 (x3 + iI (1)) s
def fGr_measureAround_L2  (x1 : Int32) (x2 : Int32) : Int32 → wM → (Int32 → wM → Option (wM)) → Option (wM) := fun x3 s k2 =>
  if (s.1 28 2) ≤ x3 then
  (some s)
  else (chk x1 9 (if ((iShr (s.1 31 x1.toNatClampNeg) x3) &&& (iI (1))) = (iI (1)) then
  (chk x3 9 (if (s.1 30 x3.toNatClampNeg) = (iI (-1)) then
  (nmM (wsI s 30 x3.toNatClampNeg x2) fun s_6 =>
  fGr_measureAround_J41 k2 x1 x2 x3 s_6)
  else (fGr_measureAround_J41 k2 x1 x2 x3 s)))
  else (fGr_measureAround_J41 k2 x1 x2 x3 s)))
def fGr_measureAround (s : wM) (x1 : Int32) (x2 : Int32) : Option (wM) :=
  wh2 (fGr_measureAround_L2 x1 x2) 100000 (iI (0)) s
def fGr_measureTo_J53 (k17 : Int32 → wM → Option (wM)) (k27 : Int32 → wM → Option (wM)) (x2 : Int32) (x3 : Int32)  (s : wM) : Option (wM) :=
  k27 (x3 + iI (1)) s
def fGr_measureTo_L27 (k17 : Int32 → wM → Option (wM)) (x2 : Int32) : Int32 → wM → (Int32 → wM → Option (wM)) → Option (wM) := fun x3 s k27 =>
  if (s.1 28 2) ≤ x3 then
  (k17 (x2 + iI (1)) s)
  else (chk x3 9 (if (s.1 30 x3.toNatClampNeg) = x2 then
  ((fGr_measureAround s x3 (x2 + (iI (1)))).bind fun q_5 =>
  fGr_measureTo_J53 k17 k27 x2 x3 q_5)
  else (fGr_measureTo_J53 k17 k27 x2 x3 s)))
def fGr_measureTo_L17   : Int32 → wM → (Int32 → wM → Option (wM)) → Option (wM) := fun x2 s k17 =>
  if (s.1 28 2) ≤ x2 then
  (some s)
  else (wh2 (fGr_measureTo_L27 k17 x2) 100000 (iI (0)) s)
def fGr_measureTo (s : wM) (x1 : Int32) : Option (wM) :=
  nmM (wFillI s 30 9 (iI (-1))) fun s_1 =>
  chk x1 9 (nmM (wsI s_1 30 x1.toNatClampNeg (iI (0))) fun s_3 =>
  wh2 (fGr_measureTo_L17) 100000 (iI (0)) s_3)
def fGr_nearer_J36 (k2 : Int32 → Option (Int32)) (x1 : Int32) (x2 : Int32) (x3 : Int32)  (s : wM) : Option (Int32) :=
  k2 (x3 + iI (1))
def fGr_nearer_L2  (x1 : Int32) (x2 : Int32) (s : wM) : Int32 → (Int32 → Option (Int32)) → Option (Int32) := fun x3 k2 =>
  if (s.1 28 2) ≤ x3 then
  (some x1)
  else (chk x1 9 (if ((iShr (s.1 31 x1.toNatClampNeg) x3) &&& (iI (1))) = (iI (1)) then
  (chk x3 9 (if (s.1 30 x3.toNatClampNeg) = x2 then
  (some x3)
  else (fGr_nearer_J36 k2 x1 x2 x3 s)))
  else (fGr_nearer_J36 k2 x1 x2 x3 s)))
def fGr_nearer (s : wM) (x1 : Int32) (x2 : Int32) : Option (Int32) :=
  wh1 (fGr_nearer_L2 x1 x2 s) 100000 (iI (0))
def fLand_has_J17   (v0 : Int32) (s : wM) : Option (Int32) :=
  chkZ v0 (some v0)
def fLand_has_J16    (s : wM) : Option (Int32) :=
  fLand_has_J17 (iI (0)) s
def fLand_has (s : wM) (x1 : Int32) : Option (Int32) :=
  if x1 < iI 0 then
  (fLand_has_J16 s)
  else (if (s.1 7 4) ≤ x1 then
  (fLand_has_J16 s)
  else (fLand_has_J17 (iI (1)) s))
def fLand_hasTwo_J26   (v0 : Int32) (s : wM) : Option (Int32) :=
  chkZ v0 (some v0)
def fLand_hasTwo_J25    (s : wM) : Option (Int32) :=
  fLand_hasTwo_J26 (iI (0)) s
def fLand_hasTwo (s : wM) (x1 : Int32) (x2 : Int32) : Option (Int32) :=
  (fLand_has s x1).bind fun q_2 =>
  if q_2 = iI 0 then
  (fLand_hasTwo_J25 s)
  else ((fLand_has s x2).bind fun q_5 =>
  if q_5 = iI 0 then
  (fLand_hasTwo_J25 s)
  else (if x1 = x2 then
  (fLand_hasTwo_J25 s)
  else (fLand_hasTwo_J26 (iI (1)) s)))
def fLand_everyone (s : wM)  : Option (Int32) :=
  some ((iShl (iI (1)) (s.1 7 4)) - (iI (1)))
def fLand_hasAll_J16   (v0 : Int32) (s : wM) : Option (Int32) :=
  chkZ v0 (some v0)
def fLand_hasAll (s : wM) (x1 : Int32) : Option (Int32) :=
  (fLand_everyone s).bind fun q_2 =>
  if (x1 &&& (q_2 ^^^ (iI (-1)))) = iI 0 then
  (fLand_hasAll_J16 (iI (1)) s)
  else (fLand_hasAll_J16 (iI (0)) s)
def fLand_settle (s : wM) (x1 : Int32) (x2 : Int32) : Option (Int32 × wM) :=
  if (s.1 7 4) = (iI (9)) then
  (some ((iI (-1)), s))
  else (chk (s.1 7 4) 9 (nmM (wsI s 8 (s.1 7 4).toNatClampNeg x1) fun s_3 =>
  chk (s_3.1 7 4) 9 (nmM (wsI s_3 9 (s_3.1 7 4).toNatClampNeg x2) fun s_5 =>
  nmM (wsI s_5 7 4 ((s_5.1 7 4) + (iI (1)))) fun s_6 =>
  some (((s_6.1 7 4) - (iI (1))), s_6))))
def fLand_join (s : wM) (x1 : Int32) (x2 : Int32) (x3 : Int32) : Option (wM) :=
  chk ((x1 * (iI (9))) + x2) 81 (nmM (wsI s 12 ((x1 * (iI (9))) + x2).toNatClampNeg x3) fun s_2 =>
  chk ((x2 * (iI (9))) + x1) 81 (nmM (wsI s_2 12 ((x2 * (iI (9))) + x1).toNatClampNeg x3) fun s_4 =>
  some s_4))
def fLand_touchingPairs_L4   (s : wM) : Int32 → Int32 → (Int32 → Int32 → Option (Int32)) → Option (Int32) := fun x1 x2 k4 =>
  if (s.1 7 4) ≤ x2 then
  (some (x1 / (iI (2))))
  else ((fLand_touching s x2).bind fun q_3 =>
  (fJ_bitCount s q_3).bind fun q_5 =>
  k4 (x1 + q_5) (x2 + iI (1)))
def fLand_touchingPairs (s : wM)  : Option (Int32) :=
  wh2 (fLand_touchingPairs_L4 s) 100000 (iI (0)) (iI (0))
def fLand_isNear_J20   (v0 : Int32) (s : wM) : Option (Int32) :=
  chkZ v0 (some v0)
def fLand_isNear (s : wM) (x1 : Int32) (x2 : Int32) : Option (Int32) :=
  if (s.1 11 (iI (0)).toNatClampNeg) ≤ (iAbs (x1 - x2)) then
  (fLand_isNear_J20 (iI (0)) s)
  else (fLand_isNear_J20 (iI (1)) s)
def fLand_evenWith_J49 (k4 : Int32 → Int32 → Option (Int32)) (x1 : Int32) (x3 : Int32) (v0 : Int32) (v1 : Int32) (s : wM) : Option (Int32) :=
  k4 (v1 ||| v0) (x3 + iI (1))
def fLand_evenWith_J48 (k4 : Int32 → Int32 → Option (Int32)) (x1 : Int32) (x3 : Int32) (v0 : Int32) (s : wM) : Option (Int32) :=
  fLand_evenWith_J49 k4 x1 x3 (iI (0)) v0 s
def fLand_evenWith_L4  (x1 : Int32) (s : wM) : Int32 → Int32 → (Int32 → Int32 → Option (Int32)) → Option (Int32) := fun x2 x3 k4 =>
  if (s.1 7 4) ≤ x3 then
  (some x2)
  else ((fLand_between s x1 x3).bind fun q_3 =>
  if q_3 = (iI (-1)) then
  (fLand_evenWith_J48 k4 x1 x3 x2 s)
  else (chk x1 9 (chk x3 9 ((fLand_isNear s (s.1 8 x1.toNatClampNeg) (s.1 8 x3.toNatClampNeg)).bind fun q_8 =>
  if q_8 = iI 0 then
  (fLand_evenWith_J48 k4 x1 x3 x2 s)
  else (fLand_evenWith_J49 k4 x1 x3 (iShl (iI (1)) x3) x2 s)))))
def fLand_evenWith (s : wM) (x1 : Int32) : Option (Int32) :=
  wh2 (fLand_evenWith_L4 x1 s) 100000 (iI (0)) (iI (0))
def fLand_isFree_J35 (k2 : Int32 → Option (Int32)) (x1 : Int32) (x2 : Int32) (x3 : Int32)  (s : wM) : Option (Int32) :=
  k2 (x3 + iI (1))
def fLand_isFree_L2  (x1 : Int32) (x2 : Int32) (s : wM) : Int32 → (Int32 → Option (Int32)) → Option (Int32) := fun x3 k2 =>
  if (s.1 7 4) ≤ x3 then
  (some (iI (1)))
  else (if ((iShr x2 x3) &&& (iI (1))) = (iI (1)) then
  (chk x3 9 ((fLand_isNear s x1 (s.1 8 x3.toNatClampNeg)).bind fun q_5 =>
  if q_5 = iI 0 then
  (fLand_isFree_J35 k2 x1 x2 x3 s)
  else (some (iI (0)))))
  else (fLand_isFree_J35 k2 x1 x2 x3 s))
def fLand_isFree (s : wM) (x1 : Int32) (x2 : Int32) : Option (Int32) :=
  wh1 (fLand_isFree_L2 x1 x2 s) 100000 (iI (0))
def fLand_canCarry_J57   (v0 : Int32) (s : wM) : Option (Int32) :=
  chkZ v0 (some v0)
def fLand_canCarry_J56    (s : wM) : Option (Int32) :=
  fLand_canCarry_J57 (iI (0)) s
def fLand_canCarry (s : wM) (x1 : Int32) (x2 : Int32) : Option (Int32) :=
  (fLand_hasTwo s x1 x2).bind fun q_2 =>
  if q_2 = iI 0 then
  (fLand_canCarry_J56 s)
  else ((fLand_between s x1 x2).bind fun q_5 =>
  if q_5 = (iI (-1)) then
  (fLand_canCarry_J56 s)
  else (chk x1 9 (if (s.1 8 x1.toNatClampNeg) < (s.1 11 (iI (2)).toNatClampNeg) then
  (fLand_canCarry_J56 s)
  else (chk x2 9 (if ((iI (99)) - (s.1 11 (iI (2)).toNatClampNeg)) < (s.1 8 x2.toNatClampNeg) then
  (fLand_canCarry_J56 s)
  else (fLand_canCarry_J57 (iI (1)) s))))))
def fLand_bring (s : wM) (x1 : Int32) (x2 : Int32) : Option (wM) :=
  chk x1 9 (nmM (wsI s 8 x1.toNatClampNeg ((s.1 8 x1.toNatClampNeg) - (s.1 11 (iI (2)).toNatClampNeg))) fun s_2 =>
  chk x2 9 (nmM (wsI s_2 8 x2.toNatClampNeg ((s_2.1 8 x2.toNatClampNeg) + (s_2.1 11 (iI (2)).toNatClampNeg))) fun s_4 =>
  some s_4))
def fLand_evensAfter (s : wM) (x1 : Int32) (x2 : Int32) : Option (Int32 × wM) :=
  if x2 = (iI (-1)) then
  ((fLand_evenWith s x1).bind fun q_3 =>
  (fJ_bitCount s q_3).bind fun q_5 =>
  some (q_5, s))
  else ((fLand_bring s x1 x2).bind fun q_7 =>
  (fLand_evenWith q_7 x1).bind fun q_9 =>
  (fJ_bitCount q_7 q_9).bind fun q_11 =>
  (fLand_bring q_7 x2 x1).bind fun q_13 =>
  some (q_11, q_13))
def fLand_bestFor_J53 (k12 : Int32 → Int32 → Int32 → wM → Option (Int32 × wM)) (x1 : Int32) (x2 : Int32) (x3 : Int32) (x4 : Int32)  (s : wM) : Option (Int32 × wM) :=
  k12 x2 x3 (x4 + iI (1)) s
def fLand_bestFor_L12  (x1 : Int32) : Int32 → Int32 → Int32 → wM → (Int32 → Int32 → Int32 → wM → Option (Int32 × wM)) → Option (Int32 × wM) := fun x2 x3 x4 s k12 =>
  if (s.1 7 4) ≤ x4 then
  (some (x2, s))
  else ((fLand_canCarry s x1 x4).bind fun q_3 =>
  if q_3 = iI 0 then
  (fLand_bestFor_J53 k12 x1 x2 x3 x4 s)
  else ((fLand_evensAfter s x1 x4).bind fun q_6 =>
  if x3 ≤ q_6.1 then
  (fLand_bestFor_J53 k12 x1 x2 x3 x4 q_6.2)
  else ((fLand_evensAfter q_6.2 x1 x4).bind fun q_9 =>
  fLand_bestFor_J53 k12 x1 x4 q_9.1 x4 q_9.2)))
def fLand_bestFor (s : wM) (x1 : Int32) : Option (Int32 × wM) :=
  (fLand_evensAfter s x1 (iI (-1))).bind fun q_2 =>
  wh4 (fLand_bestFor_L12 x1) 100000 (iI (-1)) q_2.1 (iI (0)) q_2.2
def fLand_allDepths_L4   (s : wM) : Int32 → Int32 → (Int32 → Int32 → Option (Int32)) → Option (Int32) := fun x1 x2 k4 =>
  if (s.1 7 4) ≤ x2 then
  (some x1)
  else (chk x2 9 (k4 (x1 + (s.1 8 x2.toNatClampNeg)) (x2 + iI (1))))
def fLand_allDepths (s : wM)  : Option (Int32) :=
  wh2 (fLand_allDepths_L4 s) 100000 (iI (0)) (iI (0))
def fLand_allPaid_L4   (s : wM) : Int32 → Int32 → (Int32 → Int32 → Option (Int32)) → Option (Int32) := fun x1 x2 k4 =>
  if (s.1 7 4) ≤ x2 then
  (some x1)
  else (chk x2 9 (k4 (x1 + (s.1 10 x2.toNatClampNeg)) (x2 + iI (1))))
def fLand_allPaid (s : wM)  : Option (Int32) :=
  wh2 (fLand_allPaid_L4 s) 100000 (iI (0)) (iI (0))
def fNum_clear (s : wM)  : Option (wM) :=
  nmM (wsI s 32 1 (iI (0))) fun s_1 =>
  some s_1
def fNum_add_J29    (s : wM) : Option (wM) :=
  some s
def fNum_add (s : wM) (x1 : Int32) : Option (wM) :=
  if (iI (10)) ≤ (s.1 32 1) then
  (fNum_add_J29 s)
  else (chk (s.1 32 1) 10 (nmM (wsI s 33 (s.1 32 1).toNatClampNeg x1) fun s_3 =>
  nmM (wsI s_3 32 1 ((s_3.1 32 1) + (iI (1)))) fun s_4 =>
  fNum_add_J29 s_4))
def fNum_addAhead_L22  (x1 : Int32) : Int32 → wM → (Int32 → wM → Option (wM)) → Option (wM) := fun x2 s k22 =>
  if x2 ≤ iI 0 then
  (nmM (wsI s 33 (iI (0)).toNatClampNeg x1) fun s_2 =>
  some s_2)
  else (chk (x2 - (iI (1))) 10 (chk x2 10 (nmM (wsI s 33 x2.toNatClampNeg (s.1 33 (x2 - (iI (1))).toNatClampNeg)) fun s_5 =>
  k22 (x2 + iI (-1)) s_5)))
def fNum_addAhead (s : wM) (x1 : Int32) : Option (wM) :=
  nmM (wsI s 32 1 (iMin (iI (10)) ((s.1 32 1) + (iI (1))))) fun s_1 =>
  wh2 (fNum_addAhead_L22 x1) 100000 ((s_1.1 32 1) - (iI (1))) s_1
def fNum_tell (s : wM) (x1 : Int32) : Option (wM) :=
  (fNum_clear s).bind fun q_2 =>
  (fNum_add q_2 x1).bind fun q_4 =>
  some q_4
def fPa_clear (s : wM)  : Option (wM) :=
  nmM (wsI s 34 0 (iI (0))) fun s_1 =>
  some s_1
def fSn_take (s : wM) (x0 : Nat) : Option (wM) :=
  chkC (iI (0)) (iI (0)) (iI (9)) 9 9 (nmM (wCpy s 8 (x0 + 1) (iI (0)).toNatClampNeg (iI (0)).toNatClampNeg (iI (9)).toNatClampNeg) fun s_2 =>
  chkC (iI (0)) (iI (0)) (iI (9)) 9 9 (nmM (wCpy s_2 9 (x0 + 2) (iI (0)).toNatClampNeg (iI (0)).toNatClampNeg (iI (9)).toNatClampNeg) fun s_4 =>
  chkC (iI (0)) (iI (0)) (iI (9)) 9 9 (nmM (wCpy s_4 10 (x0 + 3) (iI (0)).toNatClampNeg (iI (0)).toNatClampNeg (iI (9)).toNatClampNeg) fun s_6 =>
  chkC (iI (0)) (iI (0)) (iI (3)) 3 3 (nmM (wCpy s_6 11 (x0 + 4) (iI (0)).toNatClampNeg (iI (0)).toNatClampNeg (iI (3)).toNatClampNeg) fun s_8 =>
  nmM (wsI s_8 x0 4 (s_8.1 7 5)) fun s_9 =>
  nmM (wsI s_9 x0 5 (s_9.1 7 4)) fun s_10 =>
  some s_10))))
def fPa_note (s : wM)  : Option (wM) :=
  chk (s.1 34 2) 21 ((fSn_take s (36 + 5 * (s.1 34 2).toNatClampNeg)).bind fun q_3 =>
  some q_3)
def fPa_keepNoted (s : wM)  : Option (wM) :=
  nmM (wsI s 34 2 (iRem ((s.1 34 2) + (iI (1))) (iI (21)))) fun s_1 =>
  nmM (wsI s_1 34 0 (iMin (iI (20)) ((s_1.1 34 0) + (iI (1))))) fun s_2 =>
  some s_2
def fSn_giveWeeks (s : wM) (x0 : Nat) : Option (wM) :=
  chkC (iI (0)) (iI (0)) (iI (9)) 9 9 (nmM (wCpy s (x0 + 1) 8 (iI (0)).toNatClampNeg (iI (0)).toNatClampNeg (iI (9)).toNatClampNeg) fun s_2 =>
  chkC (iI (0)) (iI (0)) (iI (9)) 9 9 (nmM (wCpy s_2 (x0 + 3) 10 (iI (0)).toNatClampNeg (iI (0)).toNatClampNeg (iI (9)).toNatClampNeg) fun s_4 =>
  nmM (wsI s_4 7 5 (s_4.1 x0 4)) fun s_5 =>
  some s_5))
def fPa_goBack (s : wM)  : Option (wM) :=
  nmM (wsI s 34 2 (iRem (((s.1 34 2) + (iI (21))) - (iI (1))) (iI (21)))) fun s_1 =>
  nmM (wsI s_1 34 0 ((s_1.1 34 0) - (iI (1)))) fun s_2 =>
  chk (s_2.1 34 2) 21 ((fSn_giveWeeks s_2 (36 + 5 * (s_2.1 34 2).toNatClampNeg)).bind fun q_5 =>
  some q_5)
def fRd_isDigit_J17   (v0 : Int32) (s : wM) : Option (Int32) :=
  chkZ v0 (some v0)
def fRd_isDigit_J16    (s : wM) : Option (Int32) :=
  fRd_isDigit_J17 (iI (0)) s
def fRd_isDigit (s : wM) (x0 : Int32) : Option (Int32) :=
  if x0 < (iI (48)) then
  (fRd_isDigit_J16 s)
  else (if (iI (57)) < x0 then
  (fRd_isDigit_J16 s)
  else (fRd_isDigit_J17 (iI (1)) s))
def fRd_beginLine (s : wM) (x1 : Int32) (x2 : Int32) (x3 : Int32) (x4 : Int32) : Option (Int32 × wM) :=
  if (s.1 3 3) = (iI (40)) then
  (some ((iI (0)), s))
  else (chk (s.1 3 3) 40 (nmM (wsI s 4 (s.1 3 3).toNatClampNeg x1) fun s_3 =>
  chk (s_3.1 3 3) 40 (nmM (wsI s_3 5 (s_3.1 3 3).toNatClampNeg x2) fun s_5 =>
  chk (s_5.1 3 3) 40 (nmM (wsI s_5 6 (s_5.1 3 3).toNatClampNeg x3) fun s_7 =>
  nmM (wsI s_7 3 3 ((s_7.1 3 3) + (iI (1)))) fun s_8 =>
  nmM (wsI s_8 3 6 x4) fun s_9 =>
  some ((iI (1)), s_9)))))
def fRd_beginFarm (s : wM) (x1 : Int32) : Option (Int32 × wM) :=
  if (s.1 3 4) = (iI (9)) then
  (some ((iI (0)), s))
  else (nmM (wsI s 3 4 ((s.1 3 4) + (iI (1)))) fun s_2 =>
  (fRd_beginLine s_2 (iI (-1)) x1 (iI (0)) (iI (1))).bind fun q_4 =>
  chkZ q_4.1 (some (q_4.1, q_4.2)))
def fRd_beginPair_J28   (v0 : Int32) (s : wM) : Option (Int32 × wM) :=
  chkZ v0 (some (v0, s))
def fRd_beginPair_J27    (s : wM) : Option (Int32 × wM) :=
  fRd_beginPair_J28 (iI (0)) s
def fRd_beginPair (s : wM) (x1 : Int32) (x2 : Int32) (x3 : Int32) : Option (Int32 × wM) :=
  if x1 < iI 0 then
  (fRd_beginPair_J27 s)
  else (if (s.1 3 4) ≤ x1 then
  (fRd_beginPair_J27 s)
  else ((fRd_beginLine s x1 (iI (0)) x2 x3).bind fun q_4 =>
  if q_4.1 = iI 0 then
  (fRd_beginPair_J27 q_4.2)
  else (fRd_beginPair_J28 (iI (1)) q_4.2)))
def fRd_takeSecondDigit (s : wM) (x1 : Int32) : Option (Int32 × wM) :=
  chk ((s.1 3 3) - (iI (1))) 40 (nmM (wsI s 5 ((s.1 3 3) - (iI (1))).toNatClampNeg (((iI (10)) * (s.1 5 ((s.1 3 3) - (iI (1))).toNatClampNeg)) + x1)) fun s_2 =>
  nmM (wsI s_2 3 6 (iI (2))) fun s_3 =>
  some ((iI (1)), s_3))
def fRd_goesOn_J34   (v0 : Int32) (s : wM) : Option (Int32 × wM) :=
  chkZ v0 (some (v0, s))
def fRd_goesOn_J29    (s : wM) : Option (Int32 × wM) :=
  fRd_goesOn_J34 (iI (1)) s
def fRd_goesOn_J15  (x1 : Int32) (x2 : Int32) (v0 : Int32) (s : wM) : Option (Int32 × wM) :=
  nmM (wsI s 3 6 v0) fun s_1 =>
  if x1 = (iI (59)) then
  (fRd_goesOn_J29 s_1)
  else (if x1 = x2 then
  (fRd_goesOn_J29 s_1)
  else (fRd_goesOn_J34 (iI (0)) s_1))
def fRd_goesOn (s : wM) (x1 : Int32) (x2 : Int32) (x3 : Int32) : Option (Int32 × wM) :=
  if x1 = (iI (59)) then
  (fRd_goesOn_J15 x1 x2 (s.1 3 5) s)
  else (fRd_goesOn_J15 x1 x2 x3 s)
def fRd_takeLastDigit_J11    (s : wM) : Option (Int32 × wM) :=
  some ((iI (0)), s)
def fRd_takeLastDigit (s : wM) (x1 : Int32) (x2 : Int32) : Option (Int32 × wM) :=
  if x1 < x2 then
  (fRd_takeLastDigit_J11 s)
  else (if x1 ≤ (iI (57)) then
  (chk ((s.1 3 3) - (iI (1))) 40 (nmM (wsI s 6 ((s.1 3 3) - (iI (1))).toNatClampNeg (x1 - (iI (48)))) fun s_4 =>
  nmM (wsI s_4 3 6 (iI (12))) fun s_5 =>
  some ((iI (1)), s_5)))
  else (fRd_takeLastDigit_J11 s))
def fRd_takeOther_J12    (s : wM) : Option (Int32 × wM) :=
  some ((iI (0)), s)
def fRd_takeOther (s : wM) (x1 : Int32) (x2 : Int32) : Option (Int32 × wM) :=
  if x1 < iI 0 then
  (fRd_takeOther_J12 s)
  else (if x1 < (s.1 3 4) then
  (chk ((s.1 3 3) - (iI (1))) 40 (nmM (wsI s 5 ((s.1 3 3) - (iI (1))).toNatClampNeg x1) fun s_4 =>
  nmM (wsI s_4 3 6 x2) fun s_5 =>
  some ((iI (1)), s_5)))
  else (fRd_takeOther_J12 s))
def fRd_takes_J96   (v0 : Int32) (s : wM) : Option (Int32 × wM) :=
  chkZ v0 (some (v0, s))
def fRd_takes_J123   (v0 : Int32) (s : wM) : Option (Int32 × wM) :=
  chkZ v0 (some (v0, s))
def fRd_takes_J133  (x1 : Int32)  (s : wM) : Option (Int32 × wM) :=
  (fRd_takeLastDigit s x1 (iI (48))).bind fun q_2 =>
  chkZ q_2.1 (some (q_2.1, q_2.2))
def fRd_takes_J176   (v0 : Int32) (s : wM) : Option (Int32 × wM) :=
  chkZ v0 (some (v0, s))
def fRd_takes_J175    (s : wM) : Option (Int32 × wM) :=
  fRd_takes_J176 (iI (0)) s
def fRd_takes_J216   (v0 : Int32) (s : wM) : Option (Int32 × wM) :=
  chkZ v0 (some (v0, s))
def fRd_takes (s : wM) (x1 : Int32) : Option (Int32 × wM) :=
  if (s.1 3 6) = iI (0) then
  ((fRd_isDigit s x1).bind fun q_3 =>
  if q_3 = iI 0 then
  ((fRd_beginPair s (x1 - (iI (97))) (iI (0)) (iI (4))).bind fun q_6 =>
  fRd_takes_J96 q_6.1 q_6.2)
  else ((fRd_beginFarm s (x1 - (iI (48)))).bind fun q_8 =>
  fRd_takes_J96 q_8.1 q_8.2))
  else (if (s.1 3 6) = iI (1) then
  ((fRd_isDigit s x1).bind fun q_11 =>
  if q_11 = iI 0 then
  ((fRd_goesOn s x1 (iI (43)) (iI (3))).bind fun q_14 =>
  fRd_takes_J123 q_14.1 q_14.2)
  else ((fRd_takeSecondDigit s (x1 - (iI (48)))).bind fun q_16 =>
  fRd_takes_J123 q_16.1 q_16.2))
  else (if (s.1 3 6) = iI (2) then
  ((fRd_goesOn s x1 (iI (43)) (iI (3))).bind fun q_19 =>
  chkZ q_19.1 (some (q_19.1, q_19.2)))
  else (if (s.1 3 6) = iI (3) then
  (fRd_takes_J133 x1 s)
  else (if (s.1 3 6) = iI (4) then
  (chk ((s.1 3 3) - (iI (1))) 40 (if (x1 - (iI (97))) = (s.1 4 ((s.1 3 3) - (iI (1))).toNatClampNeg) then
  (fRd_takes_J175 s)
  else ((fRd_takeOther s (x1 - (iI (97))) (iI (5))).bind fun q_26 =>
  if q_26.1 = iI 0 then
  (fRd_takes_J175 q_26.2)
  else (fRd_takes_J176 (iI (1)) q_26.2))))
  else (if (s.1 3 6) = iI (5) then
  ((fRd_goesOn s x1 (iI (47)) (iI (6))).bind fun q_30 =>
  chkZ q_30.1 (some (q_30.1, q_30.2)))
  else (if (s.1 3 6) = iI (6) then
  (fRd_takes_J133 x1 s)
  else (if (s.1 3 6) = iI (7) then
  ((fRd_beginPair s (x1 - (iI (97))) (iI (1)) (iI (8))).bind fun q_35 =>
  chkZ q_35.1 (some (q_35.1, q_35.2)))
  else (if (s.1 3 6) = iI (8) then
  (nmM (wsI s 3 6 (iI (9))) fun s_38 =>
  if x1 = (iI (62)) then
  (fRd_takes_J216 (iI (1)) s_38)
  else (fRd_takes_J216 (iI (0)) s_38))
  else (if (s.1 3 6) = iI (9) then
  ((fRd_takeOther s (x1 - (iI (97))) (iI (10))).bind fun q_42 =>
  chkZ q_42.1 (some (q_42.1, q_42.2)))
  else (if (s.1 3 6) = iI (10) then
  ((fRd_goesOn s x1 (iI (42)) (iI (11))).bind fun q_46 =>
  chkZ q_46.1 (some (q_46.1, q_46.2)))
  else (if (s.1 3 6) = iI (11) then
  ((fRd_takeLastDigit s x1 (iI (49))).bind fun q_50 =>
  chkZ q_50.1 (some (q_50.1, q_50.2)))
  else ((fRd_goesOn s x1 (iI (59)) (s.1 3 5)).bind fun q_53 =>
  chkZ q_53.1 (some (q_53.1, q_53.2))))))))))))))
def fRd_mayEnd_J47   (v0 : Int32) (s : wM) : Option (Int32) :=
  chkZ v0 (some v0)
def fRd_mayEnd_J42    (s : wM) : Option (Int32) :=
  fRd_mayEnd_J47 (iI (1)) s
def fRd_mayEnd (s : wM)  : Option (Int32) :=
  if (s.1 3 6) = (iI (1)) then
  (fRd_mayEnd_J42 s)
  else (if (s.1 3 6) = (iI (2)) then
  (fRd_mayEnd_J42 s)
  else (if (s.1 3 6) = (iI (5)) then
  (fRd_mayEnd_J42 s)
  else (if (s.1 3 6) = (iI (10)) then
  (fRd_mayEnd_J42 s)
  else (if (s.1 3 6) = (iI (12)) then
  (fRd_mayEnd_J42 s)
  else (fRd_mayEnd_J47 (iI (0)) s)))))
def fRd_readUpTo_J83   (v0 : Int32) (s : wM) : Option (Int32 × wM) :=
  some (v0, s)
def fRd_readUpTo_J82  (x3 : Int32)  (s : wM) : Option (Int32 × wM) :=
  fRd_readUpTo_J83 x3 s
def fRd_readUpTo_L34  (x1 : Int32) (x3 : Int32) : Int32 → wM → (Int32 → wM → Option (Int32 × wM)) → Option (Int32 × wM) := fun x4 s k34 =>
  if x3 ≤ x4 then
  (if x1 < (s.1 1 1) then
  (fRd_readUpTo_J82 x3 s)
  else ((fRd_mayEnd s).bind fun q_4 =>
  if q_4 = iI 0 then
  (fRd_readUpTo_J82 x3 s)
  else (fRd_readUpTo_J83 (iI (-1)) s)))
  else (chk x4 80 ((fRd_takes s (s.1 2 x4.toNatClampNeg)).bind fun q_8 =>
  if q_8.1 = iI 0 then
  (some (x4, q_8.2))
  else (k34 (x4 + iI (1)) q_8.2)))
def fRd_readUpTo (s : wM) (x1 : Int32) : Option (Int32 × wM) :=
  nmM (wsI s 3 3 (iI (0))) fun s_1 =>
  nmM (wsI s_1 3 6 (s_1.1 3 5)) fun s_2 =>
  if (s_2.1 1 1) = iI 0 then
  (some ((iI (-1)), s_2))
  else (wh2 (fRd_readUpTo_L34 x1 (iMin x1 (s_2.1 1 1))) 100000 (iI (0)) s_2)
def fRd_readCounty (s : wM) (x2 : Int32) : Option (Int32 × wM) :=
  nmM (wsI s 3 4 x2) fun s_1 =>
  nmM (wsI s_1 3 5 (iI (0))) fun s_2 =>
  (fRd_readUpTo s_2 (iI (76))).bind fun q_4 =>
  some (q_4.1, q_4.2)
def fRd_readNight (s : wM)  : Option (Int32 × wM) :=
  nmM (wsI s 3 4 (iI (9))) fun s_1 =>
  nmM (wsI s_1 3 5 (iI (7))) fun s_2 =>
  (fRd_readUpTo s_2 (iI (40))).bind fun q_4 =>
  some (q_4.1, q_4.2)
def fSe_prepare_J75 (k17 : Int32 → wM → Option (wM)) (k27 : Int32 → wM → Option (wM)) (x2 : Int32) (x3 : Int32)  (s : wM) : Option (wM) :=
  k27 (x3 + iI (1)) s
def fSe_prepare_L27 (k17 : Int32 → wM → Option (wM)) (x2 : Int32) : Int32 → wM → (Int32 → wM → Option (wM)) → Option (wM) := fun x3 s k27 =>
  if (s.1 7 4) ≤ x3 then
  (k17 (x2 + iI (1)) s)
  else ((fLand_between s x2 x3).bind fun q_3 =>
  if q_3 = (iI (-1)) then
  (fSe_prepare_J75 k17 k27 x2 x3 s)
  else (chk (s.1 23 6) 72 (nmM (wsI s 26 (s.1 23 6).toNatClampNeg x2) fun s_6 =>
  chk (s_6.1 23 6) 72 (nmM (wsI s_6 27 (s_6.1 23 6).toNatClampNeg x3) fun s_8 =>
  nmM (wsI s_8 23 6 ((s_8.1 23 6) + (iI (1)))) fun s_9 =>
  fSe_prepare_J75 k17 k27 x2 x3 s_9))))
def fSe_prepare_L17   : Int32 → wM → (Int32 → wM → Option (wM)) → Option (wM) := fun x2 s k17 =>
  if (s.1 7 4) ≤ x2 then
  (some s)
  else (wh2 (fSe_prepare_L27 k17 x2) 100000 (iI (0)) s)
def fSe_prepare (s : wM)  : Option (wM) :=
  nmM (wsI s 23 7 (s.1 11 (iI (2)).toNatClampNeg)) fun s_1 =>
  nmM (wsI s_1 23 6 (iI (0))) fun s_2 =>
  wh2 (fSe_prepare_L17) 100000 (iI (0)) s_2
def fSe_indexOf_J82  (x6 : Int32)  (s : wM) : Option (Int32 × wM) :=
  some (x6, s)
def fSe_indexOf_J85 (k15 : Int32 → wM → Option (Int32 × wM)) (x1 : Int64) (x3 : Int32)  (s : wM) : Option (Int32 × wM) :=
  nmM (wsI s 23 3 (((s.1 23 3) + (iI (1))) &&& (iI (8191)))) fun s_1 =>
  k15 (x3 + iI (1)) s_1
def fSe_indexOf_L15  (x1 : Int64) : Int32 → wM → (Int32 → wM → Option (Int32 × wM)) → Option (Int32 × wM) := fun x3 s k15 =>
  if (iI (8192)) ≤ x3 then
  (some ((iI (-1)), s))
  else (chk ((s.1 23 3) / (iI (4))) 2048 (nmL (lUshr (s.2 25 ((s.1 23 3) / (iI (4))).toNatClampNeg) ((iRem (s.1 23 3) (iI (4))) * (iI (16)))) fun y_3 =>
  nmI ((y_3 &&& (65535 : Int64)).toInt32 - (iI (1))) fun y_4 =>
  if y_4 < iI 0 then
  (fSe_indexOf_J82 y_4 s)
  else (if (s.1 23 1) ≤ y_4 then
  (fSe_indexOf_J85 k15 x1 x3 s)
  else (chk y_4 3000 (if (lg_cmp (s.2 24 y_4.toNatClampNeg) x1) = iI 0 then
  (fSe_indexOf_J82 y_4 s)
  else (fSe_indexOf_J85 k15 x1 x3 s))))))
def fSe_indexOf (s : wM) (x1 : Int64) : Option (Int32 × wM) :=
  nmM (wsI s 23 3 ((lUshr (x1 * (-7046029254386353131 : Int64)) (iI (51))).toInt32)) fun s_1 =>
  wh2 (fSe_indexOf_L15 x1) 100000 (iI (0)) s_1
def fSe_add_J19    (s : wM) : Option (Int32 × wM) :=
  some ((iI (0)), s)
def fSe_add (s : wM) (x1 : Int64) : Option (Int32 × wM) :=
  if (iI (3000)) ≤ (s.1 23 1) then
  (fSe_add_J19 s)
  else ((fSe_indexOf s x1).bind fun q_3 =>
  if q_3.1 = (iI (-1)) then
  (chk ((q_3.2.1 23 3) / (iI (4))) 2048 (nmM (wsL q_3.2 25 ((q_3.2.1 23 3) / (iI (4))).toNatClampNeg ((q_3.2.2 25 ((q_3.2.1 23 3) / (iI (4))).toNatClampNeg) ||| (lShl ((q_3.2.1 23 1).toInt64 + (1 : Int64)) ((iRem (q_3.2.1 23 3) (iI (4))) * (iI (16)))))) fun s_6 =>
  chk (s_6.1 23 1) 3000 (nmM (wsL s_6 24 (s_6.1 23 1).toNatClampNeg x1) fun s_8 =>
  nmM (wsI s_8 23 1 ((s_8.1 23 1) + (iI (1)))) fun s_9 =>
  some ((iI (1)), s_9))))
  else (fSe_add_J19 q_3.2))
def fSe_start (s : wM) (x1 : Int64) : Option (wM) :=
  nmM (wFillL s 25 2048 (0 : Int64)) fun s_1 =>
  nmM (wsI s_1 23 1 (iI (0))) fun s_2 =>
  nmM (wsI s_2 23 8 (iI (0))) fun s_3 =>
  nmM (wsI s_3 23 9 (iI (0))) fun s_4 =>
  nmM (wsI s_4 23 10 (iI (0))) fun s_5 =>
  (fSe_add s_5 x1).bind fun q_7 =>
  some q_7.2
def fSe_carried_J63    (s : wM) : Option (Int64) :=
  some (-1 : Int64)
def fSe_carried (s : wM) (x1 : Int64) (x3 : Int32) : Option (Int64) :=
  chk x3 72 (nmI ((lUshr x1 ((iI (7)) * (s.1 26 x3.toNatClampNeg))).toInt32 &&& (iI (127))) fun y_2 =>
  nmI ((lUshr x1 ((iI (7)) * (s.1 27 x3.toNatClampNeg))).toInt32 &&& (iI (127))) fun y_3 =>
  if y_2 < (s.1 23 7) then
  (fSe_carried_J63 s)
  else (if y_3 ≤ ((iI (99)) - (s.1 23 7)) then
  (some ((x1 - (lShl ((s.1 23 7).toInt64) ((iI (7)) * (s.1 26 x3.toNatClampNeg)))) + (lShl ((s.1 23 7).toInt64) ((iI (7)) * (s.1 27 x3.toNatClampNeg)))))
  else (fSe_carried_J63 s)))
def fSe_findOne_J104   (v0 : Int32) (s : wM) : Option (Int32 × wM) :=
  chkZ v0 (some (v0, s))
def fSe_findOne_J103    (s : wM) : Option (Int32 × wM) :=
  fSe_findOne_J104 (iI (0)) s
def fSe_findOne_J81  (x2 : Int64) (v0 : Int32) (s : wM) : Option (Int32 × wM) :=
  chkZ v0 (nmM (wsI s 23 10 v0) fun s_2 =>
  if (s_2.1 23 10) = iI 0 then
  ((fSe_add s_2 x2).bind fun q_5 =>
  if q_5.1 = iI 0 then
  (fSe_findOne_J103 q_5.2)
  else (fSe_findOne_J104 (iI (1)) q_5.2))
  else (fSe_findOne_J103 s_2))
def fSe_findOne_J105 (k0 : wM → Option (Int32 × wM)) (k19 : wM → Option (Int32 × wM)) (x1 : Int32)  (s : wM) : Option (Int32 × wM) :=
  nmM (wsI s 23 9 ((s.1 23 9) + (iI (1)))) fun s_1 =>
  k19 s_1
def fSe_findOne_L19 (k0 : wM → Option (Int32 × wM)) (x1 : Int32) : wM → (wM → Option (Int32 × wM)) → Option (Int32 × wM) := fun  s k19 =>
  if (s.1 23 6) ≤ (s.1 23 9) then
  (nmM (wsI s 23 9 (iI (0))) fun s_2 =>
  nmM (wsI s_2 23 8 ((s_2.1 23 8) + (iI (1)))) fun s_3 =>
  k0 s_3)
  else (chk (s.1 23 8) 3000 ((fSe_carried s (s.2 24 (s.1 23 8).toNatClampNeg) (s.1 23 9)).bind fun q_6 =>
  if (lg_cmp q_6 (-1 : Int64)) = iI 0 then
  (fSe_findOne_J105 k0 k19 x1 s)
  else ((fSe_indexOf s q_6).bind fun q_9 =>
  if q_9.1 = (iI (-1)) then
  (if (q_9.2.1 23 1) = (iI (3000)) then
  (fSe_findOne_J81 q_6 (iI (1)) q_9.2)
  else (fSe_findOne_J81 q_6 (iI (0)) q_9.2))
  else (fSe_findOne_J105 k0 k19 x1 q_9.2))))
def fSe_findOne_J136    (s : wM) : Option (Int32 × wM) :=
  some ((iI (0)), s)
def fSe_findOne_L0  (x1 : Int32) : wM → (wM → Option (Int32 × wM)) → Option (Int32 × wM) := fun  s k0 =>
  if x1 ≤ (s.1 23 8) then
  (fSe_findOne_J136 s)
  else (if (s.1 23 1) ≤ (s.1 23 8) then
  (fSe_findOne_J136 s)
  else (wh1 (fSe_findOne_L19 k0 x1) 100000 s))
def fSe_findOne (s : wM) (x1 : Int32) : Option (Int32 × wM) :=
  wh1 (fSe_findOne_L0 x1) 100000 s
def fSe_firstSuch_J74  (x4 : Int32)  (s : wM) : Option (Int32 × wM) :=
  some (x4, s)
def fSe_firstSuch_J77 (k11 : Int32 → wM → Option (Int32 × wM)) (x2 : Int32) (x3 : Int32) (x4 : Int32)  (s : wM) : Option (Int32 × wM) :=
  k11 (x4 + iI (1)) s
def fSe_firstSuch_J38 (k11 : Int32 → wM → Option (Int32 × wM)) (x2 : Int32) (x3 : Int32) (x4 : Int32)  (s : wM) : Option (Int32 × wM) :=
  chk x4 3000 ((fAh_unpack s (s.2 24 x4.toNatClampNeg)).bind fun q_3 =>
  if x2 = (iI (-1)) then
  ((fAh_isLawful q_3).bind fun q_6 =>
  if q_6 = iI 0 then
  (fSe_firstSuch_J77 k11 x2 x3 x4 q_3)
  else (fSe_firstSuch_J74 x4 q_3))
  else (chk x2 9 (if (q_3.1 14 x2.toNatClampNeg) < x3 then
  (fSe_firstSuch_J77 k11 x2 x3 x4 q_3)
  else (fSe_firstSuch_J74 x4 q_3))))
def fSe_firstSuch_J105   (v0 : Int32) (s : wM) : Option (Int32 × wM) :=
  some (v0, s)
def fSe_firstSuch_J83    (s : wM) : Option (Int32 × wM) :=
  (fSe_findOne s (iI (3000))).bind fun q_2 =>
  if (q_2.2.1 23 10) = iI 0 then
  (fSe_firstSuch_J105 (iI (-2)) q_2.2)
  else (fSe_firstSuch_J105 (iI (-3)) q_2.2)
def fSe_firstSuch_L11  (x2 : Int32) (x3 : Int32) : Int32 → wM → (Int32 → wM → Option (Int32 × wM)) → Option (Int32 × wM) := fun x4 s k11 =>
  if (iI (3000)) ≤ x4 then
  (fSe_firstSuch_J83 s)
  else (if x4 < (s.1 23 1) then
  (fSe_firstSuch_J38 k11 x2 x3 x4 s)
  else ((fSe_findOne s (iI (3000))).bind fun q_4 =>
  if q_4.1 = iI 0 then
  (fSe_firstSuch_J83 q_4.2)
  else (fSe_firstSuch_J38 k11 x2 x3 x4 q_4.2)))
def fSe_firstSuch (s : wM) (x2 : Int32) (x3 : Int32) : Option (Int32 × wM) :=
  (fAh_pack s).bind fun q_2 =>
  (fSe_start s q_2).bind fun q_4 =>
  wh2 (fSe_firstSuch_L11 x2 x3) 100000 (iI (0)) q_4
def fSe_findWithin_J60 (k8 : Int32 → wM → Option (Int32 × wM)) (x3 : Int32) (x4 : Int32)  (s : wM) : Option (Int32 × wM) :=
  k8 (x4 + iI (1)) s
def fSe_findWithin_L33 (k8 : Int32 → wM → Option (Int32 × wM)) (x3 : Int32) (x4 : Int32) (x5 : Int32) : Int32 → Int32 → wM → (Int32 → Int32 → wM → Option (Int32 × wM)) → Option (Int32 × wM) := fun x6 x7 s k33 =>
  if (iI (3000)) < x7 then
  (fSe_findWithin_J60 k8 x3 x4 s)
  else (if x6 = iI 0 then
  (fSe_findWithin_J60 k8 x3 x4 s)
  else ((fSe_findOne s x5).bind fun q_4 =>
  k33 q_4.1 (x7 + iI (1)) q_4.2))
def fSe_findWithin_J78   (v0 : Int32) (s : wM) : Option (Int32 × wM) :=
  chkZ v0 (some (v0, s))
def fSe_findWithin_J66    (s : wM) : Option (Int32 × wM) :=
  if (s.1 23 10) = iI 0 then
  (fSe_findWithin_J78 (iI (1)) s)
  else (fSe_findWithin_J78 (iI (0)) s)
def fSe_findWithin_L8  (x3 : Int32) : Int32 → wM → (Int32 → wM → Option (Int32 × wM)) → Option (Int32 × wM) := fun x4 s k8 =>
  if x3 ≤ x4 then
  (fSe_findWithin_J66 s)
  else (if (s.1 23 10) = iI 0 then
  (wh3 (fSe_findWithin_L33 k8 x3 x4 (s.1 23 1)) 100000 (iI (1)) (iI (0)) s)
  else (fSe_findWithin_J66 s))
def fSe_findWithin (s : wM) (x1 : Int64) (x3 : Int32) : Option (Int32 × wM) :=
  (fSe_start s x1).bind fun q_2 =>
  wh2 (fSe_findWithin_L8 x3) 100000 (iI (0)) q_2
def fSe_firstLawfulOnSunday_L2   : Int32 → wM → (Int32 → wM → Option (Int32 × wM)) → Option (Int32 × wM) := fun x2 s k2 =>
  if (s.1 23 1) ≤ x2 then
  (some ((iI (-1)), s))
  else (chk x2 3000 ((fAh_unpack s (s.2 24 x2.toNatClampNeg)).bind fun q_4 =>
  (fAh_pass q_4 (iI (0)) (iI (0))).bind fun q_6 =>
  (fAh_isLawful q_6).bind fun q_8 =>
  if q_8 = iI 0 then
  (k2 (x2 + iI (1)) q_6)
  else (some (x2, q_6))))
def fSe_firstLawfulOnSunday (s : wM)  : Option (Int32 × wM) :=
  wh2 (fSe_firstLawfulOnSunday_L2) 100000 (iI (0)) s
def fSe_moveBack_J69 (k7 : Int32 → Int32 → Int32 → wM → Option (Int32 × wM)) (x1 : Int32) (x2 : Int32) (x3 : Int32) (x4 : Int32)  (s : wM) : Option (Int32 × wM) :=
  k7 x2 x3 (x4 + iI (1)) s
def fSe_moveBack_J49 (k7 : Int32 → Int32 → Int32 → wM → Option (Int32 × wM)) (x1 : Int32) (x2 : Int32) (x3 : Int32) (x4 : Int32) (v0 : Int32) (s : wM) : Option (Int32 × wM) :=
  if v0 = (iI (-1)) then
  (fSe_moveBack_J69 k7 x1 x2 x3 x4 s)
  else (if x3 ≤ v0 then
  (fSe_moveBack_J69 k7 x1 x2 x3 x4 s)
  else (fSe_moveBack_J69 k7 x1 x4 v0 x4 s))
def fSe_moveBack_L7  (x1 : Int32) : Int32 → Int32 → Int32 → wM → (Int32 → Int32 → Int32 → wM → Option (Int32 × wM)) → Option (Int32 × wM) := fun x2 x3 x4 s k7 =>
  if (s.1 23 6) ≤ x4 then
  (some (x2, s))
  else (chk x1 3000 ((fSe_carried s (s.2 24 x1.toNatClampNeg) x4).bind fun q_4 =>
  if (lg_cmp q_4 (-1 : Int64)) = iI 0 then
  (fSe_moveBack_J49 k7 x1 x2 x3 x4 (iI (-1)) s)
  else ((fSe_indexOf s q_4).bind fun q_7 =>
  fSe_moveBack_J49 k7 x1 x2 x3 x4 q_7.1 q_7.2)))
def fSe_moveBack (s : wM) (x1 : Int32) : Option (Int32 × wM) :=
  wh4 (fSe_moveBack_L7 x1) 100000 (iI (-1)) x1 (iI (0)) s
def fSe_cameFrom_J30   (v0 : Int32) (s : wM) : Option (Int32 × wM) :=
  some (v0, s)
def fSe_cameFrom (s : wM) (x1 : Int32) : Option (Int32 × wM) :=
  (fSe_moveBack s x1).bind fun q_2 =>
  if q_2.1 = (iI (-1)) then
  (fSe_cameFrom_J30 (iI (0)) q_2.2)
  else (chk x1 3000 ((fSe_carried q_2.2 (q_2.2.2 24 x1.toNatClampNeg) q_2.1).bind fun q_6 =>
  (fSe_indexOf q_2.2 q_6).bind fun q_8 =>
  fSe_cameFrom_J30 q_8.1 q_8.2))
def fSe_stepsTo_J27  (x2 : Int32)  (s : wM) : Option (Int32 × wM) :=
  some (x2, s)
def fSe_stepsTo_L4   : Int32 → Int32 → wM → (Int32 → Int32 → wM → Option (Int32 × wM)) → Option (Int32 × wM) := fun x2 x3 s k4 =>
  if x3 ≤ iI 0 then
  (fSe_stepsTo_J27 x2 s)
  else (if (iI (3000)) ≤ x2 then
  (fSe_stepsTo_J27 x2 s)
  else ((fSe_cameFrom s x3).bind fun q_4 =>
  k4 (x2 + iI (1)) q_4.1 q_4.2))
def fSe_stepsTo (s : wM) (x1 : Int32) : Option (Int32 × wM) :=
  wh3 (fSe_stepsTo_L4) 100000 (iI (0)) x1 s
def fSe_tellWay_J57 (k9 : Int32 → Int32 → wM → Option (Int32 × wM)) (x3 : Int32) (x4 : Int32)  (s : wM) : Option (Int32 × wM) :=
  (fSe_cameFrom s x4).bind fun q_2 =>
  k9 (x3 + iI (1)) q_2.1 q_2.2
def fSe_tellWay_J71  (x3 : Int32)  (s : wM) : Option (Int32 × wM) :=
  some (x3, s)
def fSe_tellWay_L9   : Int32 → Int32 → wM → (Int32 → Int32 → wM → Option (Int32 × wM)) → Option (Int32 × wM) := fun x3 x4 s k9 =>
  if x4 ≤ iI 0 then
  (fSe_tellWay_J71 x3 s)
  else (if (iI (3000)) ≤ x3 then
  (fSe_tellWay_J71 x3 s)
  else ((fSe_moveBack s x4).bind fun q_4 =>
  if q_4.1 = (iI (-1)) then
  (fSe_tellWay_J57 k9 x3 x4 q_4.2)
  else (chk q_4.1 72 ((fNum_addAhead q_4.2 (((iI (10)) * (q_4.2.1 27 q_4.1.toNatClampNeg)) + (q_4.2.1 26 q_4.1.toNatClampNeg))).bind fun q_8 =>
  fSe_tellWay_J57 k9 x3 x4 q_8))))
def fSe_tellWay (s : wM) (x1 : Int32) : Option (Int32 × wM) :=
  (fNum_clear s).bind fun q_2 =>
  wh3 (fSe_tellWay_L9) 100000 (iI (0)) x1 q_2
def fSi_add_J39    (s : wM) : Option (wM) :=
  some s
def fSi_add (s : wM) (x1 : Int32) (x2 : Int32) : Option (wM) :=
  if (iI (10)) ≤ (s.1 142 0) then
  (fSi_add_J39 s)
  else (chk (s.1 142 0) 10 (nmM (wsI s 143 (s.1 142 0).toNatClampNeg x1) fun s_3 =>
  chk (s_3.1 142 0) 10 (nmM (wsI s_3 144 (s_3.1 142 0).toNatClampNeg x2) fun s_5 =>
  nmM (wsI s_5 142 0 ((s_5.1 142 0) + (iI (1)))) fun s_6 =>
  fSi_add_J39 s_6)))
def fSi_holdFor_J81 (k31 : Int32 → wM → Option (Int32 × wM)) (k45 : Int32 → Option (Int32 × wM)) (x2 : Int32) (x3 : Int32) (x4 : Int32)  (s : wM) : Option (Int32 × wM) :=
  k45 (x4 + iI (1))
def fSi_holdFor_L45 (k31 : Int32 → wM → Option (Int32 × wM)) (x2 : Int32) (x3 : Int32) (s : wM) : Int32 → (Int32 → Option (Int32 × wM)) → Option (Int32 × wM) := fun x4 k45 =>
  if (s.1 142 0) ≤ x4 then
  (k31 (x3 + iI (1)) s)
  else (chk x4 10 (if (s.1 143 x4.toNatClampNeg) = x3 then
  ((fAh_evenPairs s).bind fun q_5 =>
  if (s.1 144 x4.toNatClampNeg) = q_5 then
  (fSi_holdFor_J81 k31 k45 x2 x3 x4 s)
  else (some ((iI (0)), s)))
  else (fSi_holdFor_J81 k31 k45 x2 x3 x4 s)))
def fSi_holdFor_L31  (x2 : Int32) : Int32 → wM → (Int32 → wM → Option (Int32 × wM)) → Option (Int32 × wM) := fun x3 s k31 =>
  if x2 < x3 then
  (some ((iI (1)), s))
  else ((fAh_pass s (iI (0)) (iI (0))).bind fun q_3 =>
  wh1 (fSi_holdFor_L45 k31 x2 x3 q_3) 100000 (iI (0)))
def fSi_holdFor_L4   (s : wM) : Int32 → Int32 → (Int32 → Int32 → Option (Int32 × wM)) → Option (Int32 × wM) := fun x2 x3 k4 =>
  if (s.1 142 0) ≤ x3 then
  (wh2 (fSi_holdFor_L31 x2) 100000 (iI (1)) s)
  else (chk x3 10 (k4 (iMax x2 (s.1 143 x3.toNatClampNeg)) (x3 + iI (1))))
def fSi_holdFor (s : wM)  : Option (Int32 × wM) :=
  wh2 (fSi_holdFor_L4 s) 100000 (iI (0)) (iI (0))
def fSn_giveSpringsAndLaw (s : wM) (x0 : Nat) : Option (wM) :=
  chkC (iI (0)) (iI (0)) (iI (9)) 9 9 (nmM (wCpy s (x0 + 2) 9 (iI (0)).toNatClampNeg (iI (0)).toNatClampNeg (iI (9)).toNatClampNeg) fun s_2 =>
  chkC (iI (0)) (iI (0)) (iI (3)) 3 3 (nmM (wCpy s_2 (x0 + 4) 11 (iI (0)).toNatClampNeg (iI (0)).toNatClampNeg (iI (3)).toNatClampNeg) fun s_4 =>
  some s_4))
def fTx_append_L16  (x1 : Int32) : Int32 → wM → (Int32 → wM → Option (Int32 × wM)) → Option (Int32 × wM) := fun x2 s k16 =>
  if x2 < iI 0 then
  (some ((iI (1)), s))
  else (chk (s.1 1 1) 80 (nmM (wsI s 2 (s.1 1 1).toNatClampNeg (iC ((iUshr x1 x2) &&& (iI (255))))) fun s_3 =>
  nmM (wsI s_3 1 1 ((s_3.1 1 1) + (iI (1)))) fun s_4 =>
  k16 (x2 + iI (-8)) s_4))
def fTx_append (s : wM) (x1 : Int32) : Option (Int32 × wM) :=
  if ((s.1 1 1) + (iI (4))) ≤ (iI (80)) then
  (wh2 (fTx_append_L16 x1) 100000 (iI (24)) s)
  else (some ((iI (0)), s))
def fTx_cut_J12    (s : wM) : Option (Int32 × wM) :=
  some ((iI (0)), s)
def fTx_cut (s : wM) (x1 : Int32) : Option (Int32 × wM) :=
  if x1 < iI 0 then
  (fTx_cut_J12 s)
  else (if x1 ≤ (s.1 1 1) then
  (nmM (wsI s 1 1 x1) fun s_3 =>
  some ((iI (1)), s_3))
  else (fTx_cut_J12 s))
def fW_sign_J22   (v0 : Int32) (s : wM) : Option (Int32 × wM) :=
  some (v0, s)
def fW_sign (s : wM) (x1 : Int32) : Option (Int32 × wM) :=
  (fTx_append s x1).bind fun q_2 =>
  if q_2.1 = iI 0 then
  (fW_sign_J22 (iI (-1)) q_2.2)
  else (fW_sign_J22 (q_2.2.1 1 1) q_2.2)
def fW_end (s : wM) (x1 : Int32) : Option (Int32 × wM) :=
  (fTx_cut s x1).bind fun q_2 =>
  chkZ q_2.1 (some (q_2.1, q_2.2))
def fW_county_J143 (k56 : Int32 → wM → Option (Int32 × wM)) (x2 : Int32)  (s : wM) : Option (Int32 × wM) :=
  k56 (x2 + iI (1)) s
def fW_county_L56   : Int32 → wM → (Int32 → wM → Option (Int32 × wM)) → Option (Int32 × wM) := fun x2 s k56 =>
  if (s.1 3 3) ≤ x2 then
  (some ((s.1 3 3), s))
  else (chk x2 40 (if (s.1 4 x2.toNatClampNeg) = (iI (-1)) then
  ((fLand_settle s (s.1 5 x2.toNatClampNeg) (s.1 6 x2.toNatClampNeg)).bind fun q_5 =>
  fW_county_J143 k56 x2 q_5.2)
  else ((fLand_join s (s.1 4 x2.toNatClampNeg) (s.1 5 x2.toNatClampNeg) (s.1 6 x2.toNatClampNeg)).bind fun q_7 =>
  fW_county_J143 k56 x2 q_7)))
def fW_county_J54    (s : wM) : Option (Int32 × wM) :=
  wh2 (fW_county_L56) 100000 (iI (0)) s
def fW_county (s : wM)  : Option (Int32 × wM) :=
  (fRd_readCounty s (s.1 7 4)).bind fun q_2 =>
  (fTx_cut q_2.2 (iI (0))).bind fun q_4 =>
  if q_2.1 = (iI (-1)) then
  (if (q_4.2.1 3 3) ≤ iI 0 then
  (fW_county_J54 q_4.2)
  else ((fPa_clear q_4.2).bind fun q_8 =>
  fW_county_J54 q_8))
  else (some (((iI (-1)) - q_2.1), q_4.2))
def fW_stone_J35   (v0 : Int32) (s : wM) : Option (Int32) :=
  some v0
def fW_stone (s : wM) (x1 : Int32) (x2 : Int32) : Option (Int32) :=
  (fLand_hasTwo s x1 x2).bind fun q_2 =>
  if q_2 = iI 0 then
  (some (iI (-1)))
  else ((fLand_between s x1 x2).bind fun q_5 =>
  if q_5 = (iI (-1)) then
  (fW_stone_J35 (iI (-2)) s)
  else (fW_stone_J35 q_5 s))
def fW_isWithin_J15   (v0 : Int32) (s : wM) : Option (Int32) :=
  chkZ v0 (some v0)
def fW_isWithin_J14    (s : wM) : Option (Int32) :=
  fW_isWithin_J15 (iI (0)) s
def fW_isWithin (s : wM) (x0 : Int32) (x1 : Int32) (x2 : Int32) : Option (Int32) :=
  if x0 < x1 then
  (fW_isWithin_J14 s)
  else (if x2 < x0 then
  (fW_isWithin_J14 s)
  else (fW_isWithin_J15 (iI (1)) s))
def fW_touch_J22    (s : wM) : Option (Int32 × wM) :=
  some ((iI (0)), s)
def fW_touch (s : wM) (x1 : Int32) (x2 : Int32) (x3 : Int32) : Option (Int32 × wM) :=
  (fLand_hasTwo s x1 x2).bind fun q_2 =>
  if q_2 = iI 0 then
  (fW_touch_J22 s)
  else ((fW_isWithin s x3 (iI (-1)) (iI (9))).bind fun q_5 =>
  if q_5 = iI 0 then
  (fW_touch_J22 s)
  else ((fLand_join s x1 x2 x3).bind fun q_8 =>
  some ((iI (1)), q_8)))
def fW_law_J28    (s : wM) : Option (Int32 × wM) :=
  some ((iI (-1)), s)
def fW_law_J20  (x1 : Int32) (x2 : Int32) (v0 : Int32) (v1 : Int32) (s : wM) : Option (Int32 × wM) :=
  (fW_isWithin s v1 v0 (iI (9))).bind fun q_2 =>
  if q_2 = iI 0 then
  (fW_law_J28 s)
  else (chk x1 3 (nmM (wsI s 11 x1.toNatClampNeg x2) fun s_5 =>
  some ((s.1 11 x1.toNatClampNeg), s_5)))
def fW_law (s : wM) (x1 : Int32) (x2 : Int32) : Option (Int32 × wM) :=
  (fW_isWithin s x1 (iI (0)) (iI (2))).bind fun q_2 =>
  if q_2 = iI 0 then
  (fW_law_J28 s)
  else (if x1 = (iI (1)) then
  (fW_law_J20 x1 x2 (iI (0)) x2 s)
  else (fW_law_J20 x1 x2 (iI (1)) x2 s))
def fW_set_J39    (s : wM) : Option (Int32 × wM) :=
  some ((iI (-1)), s)
def fW_set_J62  (x2 : Int32) (x3 : Int32) (v0 : Nat) (s : wM) : Option (Int32 × wM) :=
  chk x2 9 (nmM (wsI s v0 x2.toNatClampNeg x3) fun s_2 =>
  some ((s.1 v0 x2.toNatClampNeg), s_2))
def fW_set_J33  (x1 : Int32) (x2 : Int32) (x3 : Int32) (v0 : Int32) (v1 : Int32) (v2 : Int32) (s : wM) : Option (Int32 × wM) :=
  (fW_isWithin s v2 v1 v0).bind fun q_2 =>
  if q_2 = iI 0 then
  (fW_set_J39 s)
  else (if x1 = iI 0 then
  (fW_set_J62 x2 x3 8 s)
  else (fW_set_J62 x2 x3 9 s))
def fW_set (s : wM) (x1 : Int32) (x2 : Int32) (x3 : Int32) : Option (Int32 × wM) :=
  (fLand_has s x2).bind fun q_2 =>
  if q_2 = iI 0 then
  (fW_set_J39 s)
  else ((fW_isWithin s x1 (iI (0)) (iI (1))).bind fun q_5 =>
  if q_5 = iI 0 then
  (fW_set_J39 s)
  else (if x1 = iI 0 then
  (fW_set_J33 x1 x2 x3 (iI (99)) (iI (0)) x3 s)
  else (fW_set_J33 x1 x2 x3 (iI (9)) (iI (0)) x3 s)))
def fW_entryOf_J18   (v0 : Int32) (s : wM) : Option (Int32) :=
  some v0
def fW_entryOf (s : wM) (x0 : Int32) (x1 : Int32) : Option (Int32) :=
  if x0 = iI 0 then
  (some x1.toInt8.toInt32)
  else (if x0 = (iI (1)) then
  (fW_entryOf_J18 x1.toInt16.toInt32 s)
  else (fW_entryOf_J18 x1 s))
def fW_sheet_J15    (s : wM) : Option (Int32 × wM) :=
  some ((iI (-1)), s)
def fW_sheet_J90 (k44 : Int32 → wM → Option (Int32 × wM)) (x1 : Int32) (x3 : Int32) (x4 : Int32) (x5 : Int32) (x6 : Int32) (v0 : Int32) (v1 : Int32) (s : wM) : Option (Int32 × wM) :=
  chk v1 9 (nmM (wsI s 8 v1.toNatClampNeg v0) fun s_2 =>
  k44 (x6 + iI (1)) s_2)
def fW_sheet_J114   (v0 : Int32) (s : wM) : Option (Int32 × wM) :=
  some (v0, s)
def fW_sheet_L44  (x1 : Int32) (x3 : Int32) (x4 : Int32) (x5 : Int32) : Int32 → wM → (Int32 → wM → Option (Int32 × wM)) → Option (Int32 × wM) := fun x6 s k44 =>
  if (s.1 7 4) ≤ x6 then
  (if x1 = (iI (3)) then
  (fW_sheet_J114 (iI (-3)) s)
  else ((fLand_allDepths s).bind fun q_4 =>
  fW_sheet_J114 q_4 s))
  else (if x5 ≤ x6 then
  (fW_sheet_J90 k44 x1 x3 x4 x5 x6 (iI (0)) x6 s)
  else ((fW_entryOf s x1 (x3 + (x6 * x4))).bind fun q_7 =>
  (fW_putToDepth s q_7).bind fun q_9 =>
  fW_sheet_J90 k44 x1 x3 x4 x5 x6 q_9 x6 s))
def fW_sheet_J39  (x1 : Int32) (x3 : Int32) (x4 : Int32) (v0 : Int32) (s : wM) : Option (Int32 × wM) :=
  wh2 (fW_sheet_L44 x1 x3 x4 v0) 100000 (iI (0)) s
def fW_sheet_J29  (x1 : Int32) (x2 : Int32) (x3 : Int32) (x4 : Int32)  (s : wM) : Option (Int32 × wM) :=
  if x1 = (iI (3)) then
  (fW_sheet_J39 x1 x3 x4 (iI (0)) s)
  else (fW_sheet_J39 x1 x3 x4 x2 s)
def fW_sheet (s : wM) (x1 : Int32) (x2 : Int32) (x3 : Int32) (x4 : Int32) : Option (Int32 × wM) :=
  (fW_isWithin s x1 (iI (0)) (iI (3))).bind fun q_2 =>
  if q_2 = iI 0 then
  (fW_sheet_J15 s)
  else (if x2 ≤ (iI (9)) then
  (if x1 = (iI (3)) then
  (fW_sheet_J29 x1 x2 x3 x4 s)
  else (if iI 0 ≤ x2 then
  (fW_sheet_J29 x1 x2 x3 x4 s)
  else (some ((iI (-2)), s))))
  else (fW_sheet_J15 s))
def fW_carry (s : wM) (x1 : Int32) (x2 : Int32) : Option (Int32 × wM) :=
  (fLand_hasTwo s x1 x2).bind fun q_2 =>
  if q_2 = iI 0 then
  (some ((iI (-1)), s))
  else ((fLand_between s x1 x2).bind fun q_5 =>
  if q_5 = (iI (-1)) then
  (some ((iI (-2)), s))
  else ((fLand_canCarry s x1 x2).bind fun q_8 =>
  if q_8 = iI 0 then
  (some ((iI (-3)), s))
  else ((fPa_note s).bind fun q_11 =>
  (fPa_keepNoted q_11).bind fun q_13 =>
  (fLand_bring q_13 x1 x2).bind fun q_15 =>
  chk x1 9 (some ((q_15.1 8 x1.toNatClampNeg), q_15)))))
def fW_bringTimes_J36  (x4 : Int32)  (s : wM) : Option (Int32 × wM) :=
  some (x4, s)
def fW_bringTimes_L3  (x1 : Int32) (x2 : Int32) (x3 : Int32) : Int32 → wM → (Int32 → wM → Option (Int32 × wM)) → Option (Int32 × wM) := fun x4 s k3 =>
  if x3 ≤ x4 then
  (fW_bringTimes_J36 x4 s)
  else ((fLand_canCarry s x1 x2).bind fun q_3 =>
  if q_3 = iI 0 then
  (fW_bringTimes_J36 x4 s)
  else ((fLand_bring s x1 x2).bind fun q_6 =>
  k3 (x4 + iI (1)) q_6))
def fW_bringTimes (s : wM) (x1 : Int32) (x2 : Int32) (x3 : Int32) : Option (Int32 × wM) :=
  wh2 (fW_bringTimes_L3 x1 x2 x3) 100000 (iI (0)) s
def fW_night_J125 (k48 : Int32 → Int32 → Int32 → wM → Option (Int32 × wM)) (x3 : Int32) (x4 : Int32) (v0 : Int32) (s : wM) : Option (Int32 × wM) :=
  k48 v0 x3 (x4 + iI (1)) s
def fW_night_J156  (x3 : Int32) (v0 : Int32) (s : wM) : Option (Int32 × wM) :=
  (fNum_tell s v0).bind fun q_2 =>
  some (x3, q_2)
def fW_night_J143  (x2 : Int32) (x3 : Int32)  (s : wM) : Option (Int32 × wM) :=
  if x2 = iI 0 then
  (fW_night_J156 x3 (iI (0)) s)
  else (fW_night_J156 x3 (iI (1)) s)
def fW_night_J132  (x2 : Int32) (x3 : Int32)  (s : wM) : Option (Int32 × wM) :=
  if x3 ≤ iI 0 then
  (fW_night_J143 x2 x3 s)
  else ((fPa_keepNoted s).bind fun q_3 =>
  fW_night_J143 x2 x3 q_3)
def fW_night_L48   : Int32 → Int32 → Int32 → wM → (Int32 → Int32 → Int32 → wM → Option (Int32 × wM)) → Option (Int32 × wM) := fun x2 x3 x4 s k48 =>
  if (s.1 3 3) ≤ x4 then
  (fW_night_J132 x2 x3 s)
  else (if x2 = iI 0 then
  (chk x4 40 ((fW_bringTimes s (s.1 4 x4.toNatClampNeg) (s.1 5 x4.toNatClampNeg) (s.1 6 x4.toNatClampNeg)).bind fun q_5 =>
  if (q_5.2.1 6 x4.toNatClampNeg) ≤ q_5.1 then
  (fW_night_J125 k48 (x3 + q_5.1) x4 (iI (0)) q_5.2)
  else (fW_night_J125 k48 (x3 + q_5.1) x4 (iI (1)) q_5.2)))
  else (fW_night_J132 x2 x3 s))
def fW_night (s : wM)  : Option (Int32 × wM) :=
  (fRd_readNight s).bind fun q_2 =>
  (fTx_cut q_2.2 (iI (0))).bind fun q_4 =>
  if q_2.1 = (iI (-1)) then
  ((fPa_note q_4.2).bind fun q_7 =>
  wh4 (fW_night_L48) 100000 (iI (0)) (iI (0)) (iI (0)) q_7)
  else (some (((iI (-1)) - q_2.1), q_4.2))
def fW_letWeekPass (s : wM) (x1 : Int32) (x2 : Int32) : Option (Int32 × wM) :=
  (fAh_look s).bind fun q_2 =>
  (fAh_pass q_2 x1 x2).bind fun q_4 =>
  chkC (iI (0)) (iI (0)) (iI (9)) 9 9 (nmM (wCpy q_4 14 8 (iI (0)).toNatClampNeg (iI (0)).toNatClampNeg (iI (9)).toNatClampNeg) fun s_6 =>
  (fAh_payInto s_6 10 (s_6.1 11 (iI (1)).toNatClampNeg)).bind fun q_8 =>
  nmM (wsI q_8 7 5 ((q_8.1 7 5) + (iI (1)))) fun s_9 =>
  (fAh_evenPairs s_9).bind fun q_11 =>
  some (q_11, s_9))
def fW_week_J22    (s : wM) : Option (Int32 × wM) :=
  some ((iI (-1)), s)
def fW_week (s : wM) (x1 : Int32) (x2 : Int32) : Option (Int32 × wM) :=
  (fW_isWithin s x1 (iI (-9)) (iI (9))).bind fun q_2 =>
  if q_2 = iI 0 then
  (fW_week_J22 s)
  else ((fLand_hasAll s x2).bind fun q_5 =>
  if q_5 = iI 0 then
  (fW_week_J22 s)
  else ((fPa_note s).bind fun q_8 =>
  (fPa_keepNoted q_8).bind fun q_10 =>
  (fW_letWeekPass q_10 x1 x2).bind fun q_12 =>
  (fNum_tell q_12.2 (((iI (2)) * q_12.1) * (q_12.2.1 11 (iI (1)).toNatClampNeg))).bind fun q_14 =>
  (fNum_add q_14 (q_14.1 13 7)).bind fun q_16 =>
  some (q_12.1, q_16)))
def fW_weeks_J83 (k41 : Int32 → Int32 → Int32 → wM → Option (Int32 × wM)) (x1 : Int32) (x2 : Int32) (x4 : Int32) (v0 : Int32) (v1 : Int32) (s : wM) : Option (Int32 × wM) :=
  k41 x2 (v1 + v0) (x4 + iI (1)) s
def fW_weeks_L41  (x1 : Int32) : Int32 → Int32 → Int32 → wM → (Int32 → Int32 → Int32 → wM → Option (Int32 × wM)) → Option (Int32 × wM) := fun x2 x3 x4 s k41 =>
  if x1 ≤ x4 then
  ((fNum_tell s x3).bind fun q_3 =>
  some (x2, q_3))
  else ((fW_letWeekPass s (iI (0)) (iI (0))).bind fun q_5 =>
  nmI (x2 + (((iI (2)) * q_5.1) * (q_5.2.1 11 (iI (1)).toNatClampNeg))) fun y_6 =>
  if q_5.1 = iI 0 then
  (fW_weeks_J83 k41 x1 y_6 x4 (iI (1)) x3 q_5.2)
  else (fW_weeks_J83 k41 x1 y_6 x4 (iI (0)) x3 q_5.2))
def fW_weeks_J34  (x1 : Int32)  (s : wM) : Option (Int32 × wM) :=
  wh4 (fW_weeks_L41 x1) 100000 (iI (0)) (iI (0)) (iI (0)) s
def fW_weeks (s : wM) (x1 : Int32) : Option (Int32 × wM) :=
  (fW_isWithin s x1 (iI (0)) (iI (50))).bind fun q_2 =>
  if q_2 = iI 0 then
  (some ((iI (-1)), s))
  else ((fPa_note s).bind fun q_5 =>
  if x1 ≤ iI 0 then
  (fW_weeks_J34 x1 q_5)
  else ((fPa_keepNoted q_5).bind fun q_8 =>
  fW_weeks_J34 x1 q_8))
def fW_undo (s : wM)  : Option (Int32 × wM) :=
  if (s.1 34 0) = iI 0 then
  (some ((iI (-1)), s))
  else ((fPa_goBack s).bind fun q_3 =>
  some ((q_3.1 34 0), q_3))
def fW_even_J53 (k23 : Int32 → Int32 → Option (Int32 × wM)) (x1 : Int32) (x3 : Int32) (v0 : Int32) (v1 : Int32) (s : wM) : Option (Int32 × wM) :=
  k23 (v1 ||| v0) (x3 + iI (1))
def fW_even_J105  (x2 : Int32)  (s : wM) : Option (Int32 × wM) :=
  (fNum_add s x2).bind fun q_2 =>
  (fAh_evenPairs q_2).bind fun q_4 =>
  some (q_4, q_2)
def fW_even_L23  (x1 : Int32) (s : wM) : Int32 → Int32 → (Int32 → Int32 → Option (Int32 × wM)) → Option (Int32 × wM) := fun x2 x3 k23 =>
  if (s.1 7 4) ≤ x3 then
  ((fNum_clear s).bind fun q_3 =>
  if x1 = (iI (-1)) then
  (fW_even_J105 x2 q_3)
  else (chk x1 36 ((fNum_add q_3 (q_3.1 17 x1.toNatClampNeg)).bind fun q_7 =>
  (fNum_add q_7 (q_7.1 18 x1.toNatClampNeg)).bind fun q_9 =>
  fW_even_J105 x2 q_9)))
  else ((fLand_evenWith s x3).bind fun q_11 =>
  if q_11 = iI 0 then
  (fW_even_J53 k23 x1 x3 (iI (0)) x2 s)
  else (fW_even_J53 k23 x1 x3 (iShl (iI (1)) x3) x2 s))
def fW_even (s : wM)  : Option (Int32 × wM) :=
  (fAh_look s).bind fun q_2 =>
  (fAh_firstEven q_2).bind fun q_4 =>
  wh2 (fW_even_L23 q_4 q_2) 100000 (iI (0)) (iI (0))
def fW_prepareSearch (s : wM)  : Option (wM) :=
  (fAh_look s).bind fun q_2 =>
  (fSe_prepare q_2).bind fun q_4 =>
  some q_4
def fW_fewestSuch (s : wM) (x1 : Int32) (x2 : Int32) : Option (Int32 × wM) :=
  (fW_prepareSearch s).bind fun q_2 =>
  (fSe_firstSuch q_2 x1 x2).bind fun q_4 =>
  if iI 0 ≤ q_4.1 then
  ((fSe_tellWay q_4.2 q_4.1).bind fun q_7 =>
  some (q_7.1, q_7.2))
  else (some (q_4.1, q_4.2))
def fW_fewest (s : wM)  : Option (Int32 × wM) :=
  (fW_fewestSuch s (iI (-1)) (iI (0))).bind fun q_2 =>
  some (q_2.1, q_2.2)
def fW_reach_J93 (k44 : Int32 → Int32 → Int32 → wM → Option (Int32 × wM)) (x3 : Int32) (x4 : Int32) (x5 : Int32) (v0 : Int32) (v1 : Int32) (s : wM) : Option (Int32 × wM) :=
  k44 (v1 + v0) (iMin x3 x5) (x4 + iI (1)) s
def fW_reach_L44   : Int32 → Int32 → Int32 → wM → (Int32 → Int32 → Int32 → wM → Option (Int32 × wM)) → Option (Int32 × wM) := fun x2 x3 x4 s k44 =>
  if (s.1 23 1) ≤ x4 then
  ((fNum_tell s x2).bind fun q_3 =>
  (fNum_add q_3 x3).bind fun q_5 =>
  some ((q_5.1 23 1), q_5))
  else (chk x4 3000 ((fAh_unpack s (s.2 24 x4.toNatClampNeg)).bind fun q_8 =>
  (fAh_evenPairs q_8).bind fun q_10 =>
  if q_10 = iI 0 then
  (fW_reach_J93 k44 x3 x4 q_10 (iI (1)) x2 q_8)
  else (fW_reach_J93 k44 x3 x4 q_10 (iI (0)) x2 q_8)))
def fW_reach (s : wM) (x1 : Int32) : Option (Int32 × wM) :=
  (fW_isWithin s x1 (iI (0)) (iI (4))).bind fun q_2 =>
  if q_2 = iI 0 then
  (some ((iI (-1)), s))
  else ((fW_prepareSearch s).bind fun q_5 =>
  (fAh_pack q_5).bind fun q_7 =>
  (fSe_findWithin q_5 q_7 x1).bind fun q_9 =>
  if q_9.1 = iI 0 then
  (some ((iI (-3)), q_9.2))
  else (wh4 (fW_reach_L44) 100000 (iI (0)) (iI (36)) (iI (0)) q_9.2))
def fW_selfish (s : wM) (x1 : Int32) : Option (Int32 × wM) :=
  (fLand_has s x1).bind fun q_2 =>
  if q_2 = iI 0 then
  (some ((iI (-2)), s))
  else ((fLand_bestFor s x1).bind fun q_5 =>
  (fLand_evensAfter q_5.2 x1 q_5.1).bind fun q_7 =>
  (fNum_tell q_7.2 q_7.1).bind fun q_9 =>
  some (q_5.1, q_9))
def fW_carryRound_J40 (k4 : Int32 → Int32 → wM → Option (Int32 × wM)) (x1 : Int32) (x2 : Int32)  (s : wM) : Option (Int32 × wM) :=
  k4 x1 (x2 + iI (1)) s
def fW_carryRound_L4   : Int32 → Int32 → wM → (Int32 → Int32 → wM → Option (Int32 × wM)) → Option (Int32 × wM) := fun x1 x2 s k4 =>
  if (s.1 7 4) ≤ x2 then
  (chkZ x1 (some (x1, s)))
  else ((fLand_bestFor s x2).bind fun q_4 =>
  if q_4.1 = (iI (-1)) then
  (fW_carryRound_J40 k4 x1 x2 q_4.2)
  else ((fLand_bring q_4.2 x2 q_4.1).bind fun q_7 =>
  fW_carryRound_J40 k4 (iI (1)) x2 q_7))
def fW_carryRound (s : wM)  : Option (Int32 × wM) :=
  wh3 (fW_carryRound_L4) 100000 (iI (0)) (iI (0)) s
def fW_rests_J66 (k30 : Int32 → Int32 → Int32 → wM → Option (Int32 × wM)) (x1 : Int32) (x2 : Int32) (x4 : Int32) (v0 : Int32) (s : wM) : Option (Int32 × wM) :=
  k30 x2 v0 (x4 + iI (1)) s
def fW_rests_J61 (k30 : Int32 → Int32 → Int32 → wM → Option (Int32 × wM)) (x1 : Int32) (x2 : Int32) (x4 : Int32)  (s : wM) : Option (Int32 × wM) :=
  fW_rests_J66 k30 x1 x2 x4 (iI (1)) s
def fW_rests_J52 (k30 : Int32 → Int32 → Int32 → wM → Option (Int32 × wM)) (x1 : Int32) (x3 : Int32) (x4 : Int32) (v0 : Int32) (s : wM) : Option (Int32 × wM) :=
  if x3 = iI 0 then
  (if v0 = iI 0 then
  (fW_rests_J61 k30 x1 v0 x4 s)
  else (fW_rests_J66 k30 x1 v0 x4 (iI (0)) s))
  else (fW_rests_J61 k30 x1 v0 x4 s)
def fW_rests_J108  (x4 : Int32) (v0 : Int32) (s : wM) : Option (Int32 × wM) :=
  (fNum_tell s v0).bind fun q_2 =>
  (fAh_evenPairs q_2).bind fun q_4 =>
  (fNum_add q_2 q_4).bind fun q_6 =>
  some (x4, q_6)
def fW_rests_J84  (x2 : Int32) (x4 : Int32)  (s : wM) : Option (Int32 × wM) :=
  (fAh_look s).bind fun q_2 =>
  if x2 = iI 0 then
  (fW_rests_J108 x4 (iI (0)) q_2)
  else (fW_rests_J108 x4 (iI (1)) q_2)
def fW_rests_J73  (x2 : Int32) (x3 : Int32) (x4 : Int32)  (s : wM) : Option (Int32 × wM) :=
  if x3 = iI 0 then
  (fW_rests_J84 x2 x4 s)
  else ((fPa_keepNoted s).bind fun q_3 =>
  fW_rests_J84 x2 x4 q_3)
def fW_rests_L30  (x1 : Int32) : Int32 → Int32 → Int32 → wM → (Int32 → Int32 → Int32 → wM → Option (Int32 × wM)) → Option (Int32 × wM) := fun x2 x3 x4 s k30 =>
  if x1 ≤ x4 then
  (fW_rests_J73 x2 x3 x4 s)
  else (if x2 = iI 0 then
  ((fW_carryRound s).bind fun q_4 =>
  if q_4.1 = iI 0 then
  (fW_rests_J52 k30 x1 x3 x4 (iI (1)) q_4.2)
  else (fW_rests_J52 k30 x1 x3 x4 (iI (0)) q_4.2))
  else (fW_rests_J73 x2 x3 x4 s))
def fW_rests (s : wM) (x1 : Int32) : Option (Int32 × wM) :=
  (fW_isWithin s x1 (iI (0)) (iI (40))).bind fun q_2 =>
  if q_2 = iI 0 then
  (some ((iI (-1)), s))
  else ((fPa_note s).bind fun q_5 =>
  wh4 (fW_rests_L30 x1) 100000 (iI (0)) (iI (0)) (iI (0)) q_5)
def fW_alter_J116 (k24 : Int32 → Option (Int32 × wM)) (x1 : Int32) (x2 : Int32) (x3 : Int32)  (s : wM) : Option (Int32 × wM) :=
  k24 (x3 + iI (1))
def fW_alter_J85 (k24 : Int32 → Option (Int32 × wM)) (x1 : Int32) (x2 : Int32) (x3 : Int32) (x5 : Int32)  (s : wM) : Option (Int32 × wM) :=
  if (iI (99)) < x5 then
  (fW_alter_J116 k24 x1 x2 x3 s)
  else ((fLand_isFree s x5 x2).bind fun q_3 =>
  if q_3 = iI 0 then
  (fW_alter_J116 k24 x1 x2 x3 s)
  else ((fNum_tell s x5).bind fun q_6 =>
  some (x3, q_6)))
def fW_alter_L24  (x1 : Int32) (x2 : Int32) (s : wM) : Int32 → (Int32 → Option (Int32 × wM)) → Option (Int32 × wM) := fun x3 k24 =>
  if (iI (99)) < x3 then
  (some ((iI (-2)), s))
  else (chk x1 9 (if ((s.1 8 x1.toNatClampNeg) - x3) < iI 0 then
  (fW_alter_J85 k24 x1 x2 x3 ((s.1 8 x1.toNatClampNeg) + x3) s)
  else ((fLand_isFree s ((s.1 8 x1.toNatClampNeg) - x3) x2).bind fun q_5 =>
  if q_5 = iI 0 then
  (fW_alter_J85 k24 x1 x2 x3 ((s.1 8 x1.toNatClampNeg) + x3) s)
  else ((fNum_tell s ((s.1 8 x1.toNatClampNeg) - x3)).bind fun q_8 =>
  some (x3, q_8)))))
def fW_alter (s : wM) (x1 : Int32) : Option (Int32 × wM) :=
  (fLand_has s x1).bind fun q_2 =>
  if q_2 = iI 0 then
  (some ((iI (-1)), s))
  else ((fLand_touching s x1).bind fun q_5 =>
  wh1 (fW_alter_L24 x1 q_5 s) 100000 (iI (0)))
def fW_fill_J21    (s : wM) : Option (Int32 × wM) :=
  some ((iI (-1)), s)
def fW_fill (s : wM) (x1 : Int32) (x2 : Int32) : Option (Int32 × wM) :=
  (fLand_has s x1).bind fun q_2 =>
  if q_2 = iI 0 then
  (fW_fill_J21 s)
  else ((fW_isWithin s x2 (iI (0)) (iI (99))).bind fun q_5 =>
  if q_5 = iI 0 then
  (fW_fill_J21 s)
  else ((fW_fewestSuch s x1 x2).bind fun q_8 =>
  some (q_8.1, q_8.2)))
def fW_tellColours_L9  (x1 : Int32) : Int32 → wM → (Int32 → wM → Option (wM)) → Option (wM) := fun x2 s k9 =>
  if (s.1 28 2) ≤ x2 then
  (some s)
  else (chk x2 9 ((fNum_add s ((s.1 29 x2.toNatClampNeg) * x1)).bind fun q_4 =>
  k9 (x2 + iI (1)) q_4))
def fW_tellColours (s : wM) (x1 : Int32) : Option (wM) :=
  (fNum_clear s).bind fun q_2 =>
  wh2 (fW_tellColours_L9 x1) 100000 (iI (0)) q_2
def fW_colours (s : wM)  : Option (Int32 × wM) :=
  (fGr_look s).bind fun q_2 =>
  (fGr_paintAll q_2).bind fun q_4 =>
  (fW_tellColours q_4.2 (iI (1))).bind fun q_6 =>
  some (q_4.1, q_6)
def fW_clique (s : wM)  : Option (Int32 × wM) :=
  (fGr_look s).bind fun q_2 =>
  (fGr_largestKnot q_2).bind fun q_4 =>
  (fNum_tell q_2 q_4).bind fun q_6 =>
  (fJ_bitCount q_6 q_4).bind fun q_8 =>
  some (q_8, q_6)
def fW_lowest (s : wM)  : Option (Int32 × wM) :=
  (fGr_look s).bind fun q_2 =>
  (fGr_paintAll q_2).bind fun q_4 =>
  (fW_tellColours q_4.2 (q_4.2.1 11 (iI (0)).toNatClampNeg)).bind fun q_6 =>
  some (((iMax (iI (0)) (q_4.1 - (iI (1)))) * (q_6.1 11 (iI (0)).toNatClampNeg)), q_6)
def fW_place_J61 (k23 : Int32 → Int32 → Int32 → Int32 → Option (Int32 × wM)) (x1 : Int32) (x2 : Int32) (x3 : Int32) (x4 : Int32) (x5 : Int32)  (s : wM) : Option (Int32 × wM) :=
  k23 x2 x3 x4 (x5 + iI (1))
def fW_place_J53 (k23 : Int32 → Int32 → Int32 → Int32 → Option (Int32 × wM)) (x1 : Int32) (x2 : Int32) (x5 : Int32) (v0 : Int32) (s : wM) : Option (Int32 × wM) :=
  fW_place_J61 k23 x1 (x2 + iI (1)) v0 x5 x5 s
def fW_place_J95  (x2 : Int32)  (s : wM) : Option (Int32 × wM) :=
  some (x2, s)
def fW_place_L23  (x1 : Int32) (s : wM) : Int32 → Int32 → Int32 → Int32 → (Int32 → Int32 → Int32 → Int32 → Option (Int32 × wM)) → Option (Int32 × wM) := fun x2 x3 x4 x5 k23 =>
  if (iI (99)) < x5 then
  ((fNum_clear s).bind fun q_3 =>
  if x2 ≤ iI 0 then
  (fW_place_J95 x2 q_3)
  else ((fNum_add q_3 x3).bind fun q_6 =>
  (fNum_add q_6 x4).bind fun q_8 =>
  fW_place_J95 x2 q_8))
  else ((fLand_isFree s x5 x1).bind fun q_10 =>
  if q_10 = iI 0 then
  (fW_place_J61 k23 x1 x2 x3 x4 x5 s)
  else (if x2 = iI 0 then
  (fW_place_J53 k23 x1 x2 x5 x5 s)
  else (fW_place_J53 k23 x1 x2 x5 x3 s)))
def fW_place (s : wM) (x1 : Int32) : Option (Int32 × wM) :=
  (fLand_hasAll s x1).bind fun q_2 =>
  if q_2 = iI 0 then
  (some ((iI (-1)), s))
  else (wh4 (fW_place_L23 x1 s) 100000 (iI (0)) (iI (0)) (iI (0)) (iI (0)))
def fW_weeksTold_J12   (v0 : Int32) (s : wM) : Option (Int32) :=
  some v0
def fW_weeksTold (s : wM) (x0 : Int32) : Option (Int32) :=
  if x0 ≤ (iI (100)) then
  (fW_weeksTold_J12 x0 s)
  else (fW_weeksTold_J12 (iI (-2)) s)
def fW_lasts (s : wM)  : Option (Int32 × wM) :=
  (fAh_look s).bind fun q_2 =>
  (fAh_lasting q_2).bind fun q_4 =>
  (fW_weeksTold q_4.2 q_4.1).bind fun q_6 =>
  some (q_6, q_4.2)
def fW_later_J21    (s : wM) : Option (Int32 × wM) :=
  some ((iI (-1)), s)
def fW_later_L36  (x1 : Int32) (x2 : Int32) : Int32 → wM → (Int32 → wM → Option (Int32 × wM)) → Option (Int32 × wM) := fun x3 s k36 =>
  if x2 ≤ x3 then
  (chk x1 9 (some ((s.1 14 x1.toNatClampNeg), s)))
  else ((fAh_pass s (iI (0)) (iI (0))).bind fun q_4 =>
  k36 (x3 + iI (1)) q_4)
def fW_later (s : wM) (x1 : Int32) (x2 : Int32) : Option (Int32 × wM) :=
  (fLand_has s x1).bind fun q_2 =>
  if q_2 = iI 0 then
  (fW_later_J21 s)
  else ((fW_isWithin s x2 (iI (0)) (iI (100))).bind fun q_5 =>
  if q_5 = iI 0 then
  (fW_later_J21 s)
  else ((fAh_look s).bind fun q_8 =>
  wh2 (fW_later_L36 x1 x2) 100000 (iI (0)) q_8))
def fW_still_L13   : Int32 → wM → (Int32 → wM → Option (Int32 × wM)) → Option (Int32 × wM) := fun x1 s k13 =>
  if (iI (100)) < x1 then
  (some ((iI (-2)), s))
  else ((fAh_evenPairs s).bind fun q_3 =>
  (fAh_pass s (iI (0)) (iI (0))).bind fun q_5 =>
  if (q_5.1 13 8) = iI 0 then
  (k13 (x1 + iI (1)) q_5)
  else ((fNum_tell q_5 q_3).bind fun q_8 =>
  some (x1, q_8)))
def fW_still (s : wM)  : Option (Int32 × wM) :=
  (fAh_look s).bind fun q_2 =>
  wh2 (fW_still_L13) 100000 (iI (0)) q_2
def fW_keeps_J19    (s : wM) : Option (Int32 × wM) :=
  some ((iI (-1)), s)
def fW_keeps_J111 (k33 : Int32 → Int32 → Int32 → wM → Option (Int32 × wM)) (x1 : Int32) (x2 : Int32) (x3 : Int32) (x4 : Int32) (x5 : Int32)  (s : wM) : Option (Int32 × wM) :=
  k33 x3 x4 x5 s
def fW_keeps_J89 (k33 : Int32 → Int32 → Int32 → wM → Option (Int32 × wM)) (x1 : Int32) (x2 : Int32) (x3 : Int32) (x4 : Int32) (x6 : Int32) (v0 : Int32) (s : wM) : Option (Int32 × wM) :=
  if v0 = iI 0 then
  (fW_keeps_J111 k33 x1 x2 x3 x4 v0 s)
  else ((fSe_stepsTo s x6).bind fun q_3 =>
  fW_keeps_J111 k33 x1 x2 (x3 + q_3.1) (x4 + iI (1)) v0 q_3.2)
def fW_keeps_J114  (x3 : Int32) (x4 : Int32)  (s : wM) : Option (Int32 × wM) :=
  (fNum_tell s x3).bind fun q_2 =>
  some (x4, q_2)
def fW_keeps_L33  (x1 : Int32) (x2 : Int32) : Int32 → Int32 → Int32 → wM → (Int32 → Int32 → Int32 → wM → Option (Int32 × wM)) → Option (Int32 × wM) := fun x3 x4 x5 s k33 =>
  if x1 ≤ x4 then
  (fW_keeps_J114 x3 x4 s)
  else (if x5 = iI 0 then
  (fW_keeps_J114 x3 x4 s)
  else ((fAh_pack s).bind fun q_4 =>
  (fSe_findWithin s q_4 x2).bind fun q_6 =>
  if q_6.1 = iI 0 then
  (some ((iI (-3)), q_6.2))
  else ((fSe_firstLawfulOnSunday q_6.2).bind fun q_9 =>
  if q_9.1 = (iI (-1)) then
  (fW_keeps_J89 k33 x1 x2 x3 x4 q_9.1 (iI (0)) q_9.2)
  else (fW_keeps_J89 k33 x1 x2 x3 x4 q_9.1 (iI (1)) q_9.2))))
def fW_keeps (s : wM) (x1 : Int32) (x2 : Int32) : Option (Int32 × wM) :=
  (fW_isWithin s x1 (iI (0)) (iI (12))).bind fun q_2 =>
  if q_2 = iI 0 then
  (fW_keeps_J19 s)
  else ((fW_isWithin s x2 (iI (0)) (iI (2))).bind fun q_5 =>
  if q_5 = iI 0 then
  (fW_keeps_J19 s)
  else ((fW_prepareSearch s).bind fun q_8 =>
  wh4 (fW_keeps_L33 x1 x2) 100000 (iI (0)) (iI (0)) (iI (1)) q_8))
def fW_mercy_L39  (x1 : Int32) : Int32 → wM → (Int32 → wM → Option (Int32 × wM)) → Option (Int32 × wM) := fun x2 s k39 =>
  if x1 ≤ x2 then
  ((fGr_smallestCover s).bind fun q_3 =>
  (fNum_tell s q_3).bind fun q_5 =>
  (fGr_pairs q_5).bind fun q_7 =>
  some (q_7, q_5))
  else ((fAh_pass s (iI (0)) (iI (0))).bind fun q_9 =>
  (fAh_markEven q_9).bind fun q_11 =>
  k39 (x2 + iI (1)) q_11)
def fW_mercy (s : wM) (x1 : Int32) : Option (Int32 × wM) :=
  (fW_isWithin s x1 (iI (0)) (iI (100))).bind fun q_2 =>
  if q_2 = iI 0 then
  (some ((iI (-1)), s))
  else ((fAh_look s).bind fun q_5 =>
  (fGr_clear q_5 (q_5.1 7 4)).bind fun q_7 =>
  wh2 (fW_mercy_L39 x1) 100000 (iI (0)) q_7)
def fW_drought_L40  (x1 : Int32) : Int32 → wM → (Int32 → wM → Option (Int32 × wM)) → Option (Int32 × wM) := fun x2 s k40 =>
  if (iI (100)) < x2 then
  (some ((iI (-2)), s))
  else ((fLand_everyone s).bind fun q_3 =>
  (fAh_pass s x1 q_3).bind fun q_5 =>
  (fAh_allAlike q_5).bind fun q_7 =>
  if q_7 = iI 0 then
  (k40 (x2 + iI (1)) q_5)
  else (some (x2, q_5)))
def fW_drought (s : wM) (x1 : Int32) : Option (Int32 × wM) :=
  (fW_isWithin s x1 (iI (-9)) (iI (9))).bind fun q_2 =>
  if q_2 = iI 0 then
  (some ((iI (-1)), s))
  else (if (iI (2)) ≤ (s.1 7 4) then
  ((fAh_look s).bind fun q_6 =>
  wh2 (fW_drought_L40 x1) 100000 (iI (1)) q_6)
  else (some ((iI (-2)), s)))
def fW_clash_L46  (x3 : Int32) : Int32 → wM → (Int32 → wM → Option (Int32 × wM)) → Option (Int32 × wM) := fun x4 s k46 =>
  if (iI (100)) < x4 then
  (some ((iI (-2)), s))
  else ((fAh_pass s (iI (0)) (iI (0))).bind fun q_3 =>
  (fAh_isEven q_3 x3).bind fun q_5 =>
  if q_5 = iI 0 then
  (k46 (x4 + iI (1)) q_3)
  else (some (x4, q_3)))
def fW_clash (s : wM) (x1 : Int32) (x2 : Int32) : Option (Int32 × wM) :=
  (fLand_hasTwo s x1 x2).bind fun q_2 =>
  if q_2 = iI 0 then
  (some ((iI (-1)), s))
  else ((fAh_look s).bind fun q_5 =>
  (fAh_pairOf q_5 x1 x2).bind fun q_7 =>
  if q_7 = (iI (-1)) then
  (some ((iI (-2)), q_5))
  else (wh2 (fW_clash_L46 q_7) 100000 (iI (1)) q_5))
def fW_payer_J148 (k95 : Int32 → Int32 → Int32 → Option (Int32 × wM)) (x3 : Int32) (x4 : Int32) (v0 : Int32) (s : wM) : Option (Int32 × wM) :=
  k95 v0 x3 (x4 + iI (1))
def fW_payer_L95   (s : wM) : Int32 → Int32 → Int32 → (Int32 → Int32 → Int32 → Option (Int32 × wM)) → Option (Int32 × wM) := fun x2 x3 x4 k95 =>
  if (s.1 7 4) ≤ x4 then
  (chk x2 9 ((fNum_tell s (s.1 16 x2.toNatClampNeg)).bind fun q_4 =>
  (fNum_add q_4 x3).bind fun q_6 =>
  some (x2, q_6)))
  else (chk x4 9 (chk x2 9 (if (s.1 16 x4.toNatClampNeg) ≤ (s.1 16 x2.toNatClampNeg) then
  (fW_payer_J148 k95 (x3 + (s.1 16 x4.toNatClampNeg)) x4 x2 s)
  else (fW_payer_J148 k95 (x3 + (s.1 16 x4.toNatClampNeg)) x4 x4 s))))
def fW_payer_L45  (x1 : Int32) : Int32 → wM → (Int32 → wM → Option (Int32 × wM)) → Option (Int32 × wM) := fun x2 s k45 =>
  if x1 ≤ x2 then
  (wh3 (fW_payer_L95 s) 100000 (iI (0)) (iI (0)) (iI (0)))
  else ((fAh_pass s (iI (0)) (iI (0))).bind fun q_3 =>
  (fAh_payInto q_3 16 (q_3.1 11 (iI (1)).toNatClampNeg)).bind fun q_5 =>
  k45 (x2 + iI (1)) q_5)
def fW_payer (s : wM) (x1 : Int32) : Option (Int32 × wM) :=
  (fW_isWithin s x1 (iI (0)) (iI (100))).bind fun q_2 =>
  if q_2 = iI 0 then
  (some ((iI (-1)), s))
  else (if (s.1 7 4) = iI 0 then
  (some ((iI (-2)), s))
  else ((fAh_look s).bind fun q_6 =>
  (fAh_clearPaid q_6).bind fun q_8 =>
  wh2 (fW_payer_L45 x1) 100000 (iI (0)) q_8))
def fW_evenAfterRain (s : wM) (x1 : Int32) (x2 : Int32) : Option (Int32 × wM) :=
  (fAh_look s).bind fun q_2 =>
  (fAh_pass q_2 x1 x2).bind fun q_4 =>
  (fAh_evenPairs q_4).bind fun q_6 =>
  some (q_6, q_4)
def fW_pray_J66 (k26 : Int32 → Int32 → Int32 → wM → Option (Int32 × wM)) (k38 : Int32 → Int32 → Int32 → wM → Option (Int32 × wM)) (x1 : Int32) (x2 : Int32) (x3 : Int32) (x4 : Int32) (x5 : Int32)  (s : wM) : Option (Int32 × wM) :=
  k38 x2 x3 (x5 + ((iI (2)) * x4)) s
def fW_pray_L38 (k26 : Int32 → Int32 → Int32 → wM → Option (Int32 × wM)) (x1 : Int32) (x4 : Int32) : Int32 → Int32 → Int32 → wM → (Int32 → Int32 → Int32 → wM → Option (Int32 × wM)) → Option (Int32 × wM) := fun x2 x3 x5 s k38 =>
  if x4 < x5 then
  (k26 x2 x3 (x4 + iI (1)) s)
  else ((fW_evenAfterRain s x5 x1).bind fun q_3 =>
  if x3 ≤ q_3.1 then
  (fW_pray_J66 k26 k38 x1 x2 x3 x4 x5 q_3.2)
  else (fW_pray_J66 k26 k38 x1 x5 q_3.1 x4 x5 q_3.2))
def fW_pray_L26  (x1 : Int32) : Int32 → Int32 → Int32 → wM → (Int32 → Int32 → Int32 → wM → Option (Int32 × wM)) → Option (Int32 × wM) := fun x2 x3 x4 s k26 =>
  if (iI (9)) < x4 then
  ((fNum_tell s x3).bind fun q_3 =>
  some (x2, q_3))
  else (wh4 (fW_pray_L38 k26 x1 x4) 100000 x2 x3 (-x4) s)
def fW_pray (s : wM) (x1 : Int32) : Option (Int32 × wM) :=
  (fLand_hasAll s x1).bind fun q_2 =>
  if q_2 = iI 0 then
  (some ((iI (-10)), s))
  else ((fW_evenAfterRain s (iI (0)) x1).bind fun q_5 =>
  wh4 (fW_pray_L26 x1) 100000 (iI (0)) q_5.1 (iI (1)) q_5.2)
def fW_seal_J101 (k17 : Int32 → Int32 → Int32 → wM → Option (Int32 × wM)) (x1 : Int32) (x2 : Int32) (x3 : Int32)  (s : wM) : Option (Int32 × wM) :=
  k17 x1 x2 (x3 + iI (1)) s
def fW_seal_J96 (k17 : Int32 → Int32 → Int32 → wM → Option (Int32 × wM)) (x3 : Int32) (x5 : Int32)  (s : wM) : Option (Int32 × wM) :=
  fW_seal_J101 k17 x3 x5 x3 s
def fW_seal_L17   : Int32 → Int32 → Int32 → wM → (Int32 → Int32 → Int32 → wM → Option (Int32 × wM)) → Option (Int32 × wM) := fun x1 x2 x3 s k17 =>
  if (s.1 13 6) ≤ x3 then
  (if x1 = (iI (-1)) then
  (some ((iI (-2)), s))
  else (chk x1 36 ((fNum_tell s (s.1 18 x1.toNatClampNeg)).bind fun q_5 =>
  (fW_weeksTold q_5 x2).bind fun q_7 =>
  (fNum_add q_5 q_7).bind fun q_9 =>
  some ((q_9.1 17 x1.toNatClampNeg), q_9))))
  else (chk x3 36 (if (s.1 19 x3.toNatClampNeg) ≤ iI 0 then
  (fW_seal_J101 k17 x1 x2 x3 s)
  else ((fAh_rewind s).bind fun q_13 =>
  nmM (wsI q_13 19 x3.toNatClampNeg (iI (0))) fun s_14 =>
  (fAh_lasting s_14).bind fun q_16 =>
  nmM (wsI q_16.2 19 x3.toNatClampNeg (s.1 19 x3.toNatClampNeg)) fun s_17 =>
  if x1 = (iI (-1)) then
  (fW_seal_J96 k17 x3 q_16.1 s_17)
  else (if q_16.1 ≤ x2 then
  (fW_seal_J101 k17 x1 x2 x3 s_17)
  else (fW_seal_J96 k17 x3 q_16.1 s_17)))))
def fW_seal (s : wM)  : Option (Int32 × wM) :=
  (fAh_look s).bind fun q_2 =>
  wh4 (fW_seal_L17) 100000 (iI (-1)) (iI (0)) (iI (0)) q_2
def fW_road_J22    (s : wM) : Option (Int32 × wM) :=
  some ((iI (-1)), s)
def fW_road_L76  (x3 : Int32) : Int32 → Int32 → wM → (Int32 → Int32 → wM → Option (Int32 × wM)) → Option (Int32 × wM) := fun x4 x5 s k76 =>
  if x5 ≤ iI 0 then
  (some (x3, s))
  else ((fGr_nearer s x4 x5).bind fun q_3 =>
  (fNum_add s q_3).bind fun q_5 =>
  k76 q_3 (x5 + iI (-1)) q_5)
def fW_road (s : wM) (x1 : Int32) (x2 : Int32) : Option (Int32 × wM) :=
  (fLand_has s x1).bind fun q_2 =>
  if q_2 = iI 0 then
  (fW_road_J22 s)
  else ((fLand_has s x2).bind fun q_5 =>
  if q_5 = iI 0 then
  (fW_road_J22 s)
  else ((fGr_look s).bind fun q_8 =>
  (fGr_measureTo q_8 x2).bind fun q_10 =>
  chk x1 9 (if (q_10.1 30 x1.toNatClampNeg) = (iI (-1)) then
  (some ((iI (-2)), q_10))
  else ((fNum_clear q_10).bind fun q_14 =>
  nmI ((q_10.1 30 x1.toNatClampNeg) - (iI (1))) fun y_15 =>
  wh3 (fW_road_L76 (q_10.1 30 x1.toNatClampNeg)) 100000 x1 y_15 q_14))))
def fW_boon_J135 (k39 : Int32 → Int32 → Int32 → wM → Option (Int32 × wM)) (x1 : Int32) (x2 : Int32) (x3 : Int32) (x4 : Int32)  (s : wM) : Option (Int32 × wM) :=
  k39 x2 x3 (x4 + iI (1)) s
def fW_boon_J129 (k39 : Int32 → Int32 → Int32 → wM → Option (Int32 × wM)) (x1 : Int32) (x4 : Int32) (x5 : Int32)  (s : wM) : Option (Int32 × wM) :=
  fW_boon_J135 k39 x1 x4 x5 x4 s
def fW_boon_L39  (x1 : Int32) : Int32 → Int32 → Int32 → wM → (Int32 → Int32 → Int32 → wM → Option (Int32 × wM)) → Option (Int32 × wM) := fun x2 x3 x4 s k39 =>
  if (s.1 7 4) ≤ x4 then
  ((fW_weeksTold s x3).bind fun q_3 =>
  (fNum_tell s q_3).bind fun q_5 =>
  (fW_weeksTold q_5 x1).bind fun q_7 =>
  (fNum_add q_5 q_7).bind fun q_9 =>
  some (x2, q_9))
  else ((fAh_rewind s).bind fun q_11 =>
  chk x4 9 (nmM (wsI q_11 15 x4.toNatClampNeg (iMin (iI (9)) ((q_11.1 9 x4.toNatClampNeg) + (iI (1))))) fun s_13 =>
  (fAh_lasting s_13).bind fun q_15 =>
  nmM (wsI q_15.2 15 x4.toNatClampNeg (q_15.2.1 9 x4.toNatClampNeg)) fun s_16 =>
  if x2 = (iI (-1)) then
  (fW_boon_J129 k39 x1 x4 q_15.1 s_16)
  else (if q_15.1 ≤ x3 then
  (fW_boon_J135 k39 x1 x2 x3 x4 s_16)
  else (fW_boon_J129 k39 x1 x4 q_15.1 s_16))))
def fW_boon (s : wM)  : Option (Int32 × wM) :=
  if (s.1 7 4) = iI 0 then
  (some ((iI (-2)), s))
  else ((fAh_look s).bind fun q_3 =>
  (fAh_lasting q_3).bind fun q_5 =>
  wh4 (fW_boon_L39 q_5.1) 100000 (iI (-1)) (iI (0)) (iI (0)) q_5.2)
def fW_seen_J32    (s : wM) : Option (Int32 × wM) :=
  some ((iI (-1)), s)
def fW_seen (s : wM) (x1 : Int32) (x2 : Int32) : Option (Int32 × wM) :=
  (fW_isWithin s x1 (iI (1)) (iI (100))).bind fun q_2 =>
  if q_2 = iI 0 then
  (fW_seen_J32 s)
  else ((fW_isWithin s x2 (iI (0)) (iI (36))).bind fun q_5 =>
  if q_5 = iI 0 then
  (fW_seen_J32 s)
  else (if (s.1 142 0) = (iI (10)) then
  (fW_seen_J32 s)
  else ((fSi_add s x1 x2).bind fun q_9 =>
  some ((q_9.1 142 0), q_9))))
def fW_forget (s : wM)  : Option (Int32 × wM) :=
  if (s.1 142 0) = iI 0 then
  (some ((iI (-1)), s))
  else (nmM (wsI s 142 0 ((s.1 142 0) - (iI (1)))) fun s_2 =>
  some ((s_2.1 142 0), s_2))
def fW_springs_J77 (k28 : Int32 → Int32 → wM → Option (Int32 × wM)) (x1 : Int32) (x3 : Int32) (v0 : Int32) (v1 : Int32) (s : wM) : Option (Int32 × wM) :=
  k28 (v1 ||| v0) (x3 + iI (1)) s
def fW_springs_L28  (x1 : Int32) : Int32 → Int32 → wM → (Int32 → Int32 → wM → Option (Int32 × wM)) → Option (Int32 × wM) := fun x2 x3 s k28 =>
  if (iI (9)) < x3 then
  (some (x2, s))
  else ((fAh_rewind s).bind fun q_3 =>
  chk x1 9 (nmM (wsI q_3 15 x1.toNatClampNeg x3) fun s_5 =>
  (fSi_holdFor s_5).bind fun q_7 =>
  if q_7.1 = iI 0 then
  (fW_springs_J77 k28 x1 x3 (iI (0)) x2 q_7.2)
  else (fW_springs_J77 k28 x1 x3 (iShl (iI (1)) x3) x2 q_7.2)))
def fW_springs (s : wM) (x1 : Int32) : Option (Int32 × wM) :=
  (fLand_has s x1).bind fun q_2 =>
  if q_2 = iI 0 then
  (some ((iI (-1)), s))
  else ((fAh_look s).bind fun q_5 =>
  wh3 (fW_springs_L28 x1) 100000 (iI (0)) (iI (0)) q_5)
def fW_stones_J102 (k49 : Int32 → Int32 → wM → Option (Int32 × wM)) (x3 : Int32) (x5 : Int32) (v0 : Int32) (v1 : Int32) (s : wM) : Option (Int32 × wM) :=
  k49 (v1 ||| v0) (x5 + iI (1)) s
def fW_stones_L49  (x3 : Int32) : Int32 → Int32 → wM → (Int32 → Int32 → wM → Option (Int32 × wM)) → Option (Int32 × wM) := fun x4 x5 s k49 =>
  if (iI (9)) < x5 then
  (some (x4, s))
  else ((fAh_rewind s).bind fun q_3 =>
  chk x3 36 (nmM (wsI q_3 19 x3.toNatClampNeg x5) fun s_5 =>
  (fSi_holdFor s_5).bind fun q_7 =>
  if q_7.1 = iI 0 then
  (fW_stones_J102 k49 x3 x5 (iI (0)) x4 q_7.2)
  else (fW_stones_J102 k49 x3 x5 (iShl (iI (1)) x5) x4 q_7.2)))
def fW_stones (s : wM) (x1 : Int32) (x2 : Int32) : Option (Int32 × wM) :=
  (fLand_hasTwo s x1 x2).bind fun q_2 =>
  if q_2 = iI 0 then
  (some ((iI (-1)), s))
  else ((fAh_look s).bind fun q_5 =>
  (fAh_pairOf q_5 x1 x2).bind fun q_7 =>
  if q_7 = (iI (-1)) then
  (some ((iI (-2)), q_5))
  else (wh3 (fW_stones_L49 q_7) 100000 (iI (0)) (iI (0)) q_5))
def fW_wouldExplain (s : wM) (x1 : Int32) (x2 : Int32) : Option (Int32 × wM) :=
  (fAh_rewind s).bind fun q_2 =>
  chk x1 9 (nmM (wsI q_2 14 x1.toNatClampNeg ((q_2.1 14 x1.toNatClampNeg) - (q_2.1 11 (iI (2)).toNatClampNeg))) fun s_4 =>
  chk x2 9 (nmM (wsI s_4 14 x2.toNatClampNeg ((s_4.1 14 x2.toNatClampNeg) + (s_4.1 11 (iI (2)).toNatClampNeg))) fun s_6 =>
  (fSi_holdFor s_6).bind fun q_8 =>
  chkZ q_8.1 (some (q_8.1, q_8.2))))
def fW_nights_J104 (k34 : Int32 → Int32 → wM → Option (Int32 × wM)) (k48 : Int32 → Int32 → wM → Option (Int32 × wM)) (x1 : Int32) (x2 : Int32) (x3 : Int32) (x4 : Int32)  (s : wM) : Option (Int32 × wM) :=
  k48 x2 (x4 + iI (1)) s
def fW_nights_J101 (k34 : Int32 → Int32 → wM → Option (Int32 × wM)) (k48 : Int32 → Int32 → wM → Option (Int32 × wM)) (x1 : Int32) (x2 : Int32) (x3 : Int32) (x4 : Int32)  (s : wM) : Option (Int32 × wM) :=
  fW_nights_J104 k34 k48 x1 (x2 + iI (1)) x3 x4 s
def fW_nights_L48 (k34 : Int32 → Int32 → wM → Option (Int32 × wM)) (x1 : Int32) (x3 : Int32) : Int32 → Int32 → wM → (Int32 → Int32 → wM → Option (Int32 × wM)) → Option (Int32 × wM) := fun x2 x4 s k48 =>
  if (s.1 7 4) ≤ x4 then
  (k34 x2 (x3 + iI (1)) s)
  else ((fLand_canCarry s x3 x4).bind fun q_3 =>
  if q_3 = iI 0 then
  (fW_nights_J104 k34 k48 x1 x2 x3 x4 s)
  else ((fW_wouldExplain s x3 x4).bind fun q_6 =>
  if q_6.1 = iI 0 then
  (fW_nights_J104 k34 k48 x1 x2 x3 x4 q_6.2)
  else (if x2 = iI 0 then
  ((fNum_add q_6.2 (((iI (10)) * x3) + x4)).bind fun q_10 =>
  fW_nights_J101 k34 k48 x1 x2 x3 x4 q_10)
  else (fW_nights_J101 k34 k48 x1 x2 x3 x4 q_6.2))))
def fW_nights_J129  (x2 : Int32) (v0 : Int32) (s : wM) : Option (Int32 × wM) :=
  (fNum_add s v0).bind fun q_2 =>
  some (x2, q_2)
def fW_nights_L34  (x1 : Int32) : Int32 → Int32 → wM → (Int32 → Int32 → wM → Option (Int32 × wM)) → Option (Int32 × wM) := fun x2 x3 s k34 =>
  if (s.1 7 4) ≤ x3 then
  (if x1 = iI 0 then
  (fW_nights_J129 x2 (iI (0)) s)
  else (fW_nights_J129 x2 (iI (1)) s))
  else (wh3 (fW_nights_L48 k34 x1 x3) 100000 x2 (iI (0)) s)
def fW_nights (s : wM)  : Option (Int32 × wM) :=
  (fAh_look s).bind fun q_2 =>
  (fSi_holdFor q_2).bind fun q_4 =>
  (fNum_clear q_4.2).bind fun q_6 =>
  wh3 (fW_nights_L34 q_4.1) 100000 (iI (0)) (iI (0)) q_6
def fW_showWay_L2  (x1 : Int32) : Int32 → wM → (Int32 → wM → Option (wM)) → Option (wM) := fun x2 s k2 =>
  if (iI (20)) ≤ x2 then
  (some s)
  else ((fAh_pass s (iI (0)) (iI (0))).bind fun q_3 =>
  (fAh_evenPairs q_3).bind fun q_5 =>
  chk ((x1 * (iI (20))) + x2) 200 (nmM (wsI q_3 145 ((x1 * (iI (20))) + x2).toNatClampNeg q_5) fun s_7 =>
  k2 (x2 + iI (1)) s_7))
def fW_showWay (s : wM) (x1 : Int32) : Option (wM) :=
  wh2 (fW_showWay_L2 x1) 100000 (iI (0)) s
def fW_showAllWays_J102 (k20 : Int32 → Int32 → wM → Option (Int32 × wM)) (x1 : Int32) (x2 : Int32)  (s : wM) : Option (Int32 × wM) :=
  k20 x1 (x2 + iI (1)) s
def fW_showAllWays_L20   : Int32 → Int32 → wM → (Int32 → Int32 → wM → Option (Int32 × wM)) → Option (Int32 × wM) := fun x1 x2 s k20 =>
  if (s.1 7 4) ≤ x2 then
  (some (x1, s))
  else (chk x2 9 (if (iI (9)) ≤ (s.1 9 x2.toNatClampNeg) then
  (fW_showAllWays_J102 k20 x1 x2 s)
  else ((fAh_rewind s).bind fun q_5 =>
  nmM (wsI q_5 15 x2.toNatClampNeg ((q_5.1 9 x2.toNatClampNeg) + (iI (1)))) fun s_6 =>
  (fW_showWay s_6 x1).bind fun q_8 =>
  nmM (wsI q_8 15 x2.toNatClampNeg (q_8.1 9 x2.toNatClampNeg)) fun s_9 =>
  fW_showAllWays_J102 k20 (x1 + iI (1)) x2 s_9)))
def fW_showAllWays (s : wM)  : Option (Int32 × wM) :=
  (fAh_look s).bind fun q_2 =>
  (fW_showWay q_2 (iI (0))).bind fun q_4 =>
  wh3 (fW_showAllWays_L20) 100000 (iI (1)) (iI (0)) q_4
def fW_mostAlike_J57 (k5 : Int32 → Int32 → Option (Int32)) (k17 : Int32 → Int32 → Option (Int32)) (x1 : Int32) (x2 : Int32) (x3 : Int32) (x4 : Int32) (x6 : Int32) (v0 : Int32) (v1 : Int32) (s : wM) : Option (Int32) :=
  k17 (v1 + v0) (x6 + iI (1))
def fW_mostAlike_L17 (k5 : Int32 → Int32 → Option (Int32)) (x1 : Int32) (x2 : Int32) (x3 : Int32) (x4 : Int32) (s : wM) : Int32 → Int32 → (Int32 → Int32 → Option (Int32)) → Option (Int32) := fun x5 x6 k17 =>
  if x2 ≤ x6 then
  (k5 (iMax x3 x5) (x4 + iI (1)))
  else (chk ((x4 * (iI (20))) + x1) 200 (chk ((x6 * (iI (20))) + x1) 200 (if (s.1 145 ((x4 * (iI (20))) + x1).toNatClampNeg) = (s.1 145 ((x6 * (iI (20))) + x1).toNatClampNeg) then
  (fW_mostAlike_J57 k5 k17 x1 x2 x3 x4 x6 (iI (1)) x5 s)
  else (fW_mostAlike_J57 k5 k17 x1 x2 x3 x4 x6 (iI (0)) x5 s))))
def fW_mostAlike_L5  (x1 : Int32) (x2 : Int32) (s : wM) : Int32 → Int32 → (Int32 → Int32 → Option (Int32)) → Option (Int32) := fun x3 x4 k5 =>
  if x2 ≤ x4 then
  (some x3)
  else (wh2 (fW_mostAlike_L17 k5 x1 x2 x3 x4 s) 100000 (iI (0)) (iI (0)))
def fW_mostAlike (s : wM) (x1 : Int32) (x2 : Int32) : Option (Int32) :=
  wh2 (fW_mostAlike_L5 x1 x2 s) 100000 (iI (0)) (iI (0))
def fW_sunday_J55 (k27 : Int32 → Int32 → Int32 → Option (Int32 × wM)) (x1 : Int32) (x2 : Int32) (x3 : Int32) (x4 : Int32)  (s : wM) : Option (Int32 × wM) :=
  k27 x2 x3 (x4 + iI (1))
def fW_sunday_L27  (x1 : Int32) (s : wM) : Int32 → Int32 → Int32 → (Int32 → Int32 → Int32 → Option (Int32 × wM)) → Option (Int32 × wM) := fun x2 x3 x4 k27 =>
  if (iI (20)) ≤ x4 then
  ((fNum_tell s x3).bind fun q_3 =>
  some ((x2 + (iI (1))), q_3))
  else ((fW_mostAlike s x4 x1).bind fun q_5 =>
  if x3 ≤ q_5 then
  (fW_sunday_J55 k27 x1 x2 x3 x4 s)
  else (fW_sunday_J55 k27 x1 x4 q_5 x4 s))
def fW_sunday (s : wM)  : Option (Int32 × wM) :=
  if (s.1 7 4) = iI 0 then
  (some ((iI (-2)), s))
  else ((fW_showAllWays s).bind fun q_3 =>
  wh3 (fW_sunday_L27 q_3.1 q_3.2) 100000 (iI (0)) (q_3.1 + (iI (1))) (iI (0)))
def fW_divide_J38    (s : wM) : Option (Int32 × wM) :=
  some ((iI (-1)), s)
def fW_divide_J128 (k79 : Int32 → wM → Option (Int32 × wM)) (x1 : Int32) (x2 : Int32) (x4 : Int32) (x5 : Int32)  (s : wM) : Option (Int32 × wM) :=
  k79 (x5 + iI (1)) s
def fW_divide_L79  (x1 : Int32) (x2 : Int32) (x4 : Int32) : Int32 → wM → (Int32 → wM → Option (Int32 × wM)) → Option (Int32 × wM) := fun x5 s k79 =>
  if x4 ≤ x5 then
  ((fLand_join s x1 x4 (iI (0))).bind fun q_3 =>
  (fPa_clear q_3).bind fun q_5 =>
  some (x4, q_5))
  else (if ((iShr x2 x5) &&& (iI (1))) = (iI (1)) then
  ((fLand_between s x1 x5).bind fun q_8 =>
  (fLand_join s x4 x5 q_8).bind fun q_10 =>
  (fLand_join q_10 x1 x5 (iI (-1))).bind fun q_12 =>
  fW_divide_J128 k79 x1 x2 x4 x5 q_12)
  else (fW_divide_J128 k79 x1 x2 x4 x5 s))
def fW_divide (s : wM) (x1 : Int32) (x2 : Int32) : Option (Int32 × wM) :=
  (fLand_has s x1).bind fun q_2 =>
  if q_2 = iI 0 then
  (fW_divide_J38 s)
  else ((fLand_touching s x1).bind fun q_5 =>
  if (x2 &&& (q_5 ^^^ (iI (-1)))) = iI 0 then
  (if (s.1 7 4) = (iI (9)) then
  (fW_divide_J38 s)
  else (chk x1 9 ((fLand_settle s ((s.1 8 x1.toNatClampNeg) / (iI (2))) (iI (0))).bind fun q_10 =>
  nmM (wsI q_10.2 8 x1.toNatClampNeg ((q_10.2.1 8 x1.toNatClampNeg) - ((s.1 8 x1.toNatClampNeg) / (iI (2))))) fun s_11 =>
  wh2 (fW_divide_L79 x1 x2 q_10.1) 100000 (iI (0)) s_11)))
  else (fW_divide_J38 s))
def fW_keep (s : wM) (x1 : Int32) : Option (Int32 × wM) :=
  (fW_isWithin s x1 (iI (0)) (iI (2))).bind fun q_2 =>
  if q_2 = iI 0 then
  (some ((iI (0)), s))
  else (chk x1 3 ((fSn_take s (146 + 5 * x1.toNatClampNeg)).bind fun q_6 =>
  some ((iI (1)), q_6)))
def fW_again_J28    (s : wM) : Option (Int32 × wM) :=
  some ((iI (0)), s)
def fW_again (s : wM) (x1 : Int32) : Option (Int32 × wM) :=
  (fW_isWithin s x1 (iI (0)) (iI (2))).bind fun q_2 =>
  if q_2 = iI 0 then
  (fW_again_J28 s)
  else (chk x1 3 (if (s.1 (146 + 5 * x1.toNatClampNeg) 5) = (s.1 7 4) then
  ((fSn_giveWeeks s (146 + 5 * x1.toNatClampNeg)).bind fun q_7 =>
  (fSn_giveSpringsAndLaw q_7 (146 + 5 * x1.toNatClampNeg)).bind fun q_9 =>
  (fPa_clear q_9).bind fun q_11 =>
  some ((iI (1)), q_11))
  else (fW_again_J28 s)))
def fW_count (s : wM) (x1 : Int32) : Option (Int32) :=
  if x1 = iI (0) then
  (some (s.1 7 4))
  else (if x1 = iI (1) then
  (some (s.1 7 5))
  else (if x1 = iI (2) then
  ((fLand_allDepths s).bind fun q_5 =>
  some q_5)
  else (if x1 = iI (3) then
  ((fLand_allPaid s).bind fun q_8 =>
  some q_8)
  else (if x1 = iI (4) then
  ((fLand_touchingPairs s).bind fun q_11 =>
  some q_11)
  else (if x1 = iI (5) then
  (some (s.1 34 0))
  else (if x1 = iI (6) then
  (some (s.1 142 0))
  else (if x1 = iI (7) then
  (some (s.1 32 1))
  else (if x1 = iI (8) then
  (some (s.1 1 1))
  else (some (iI (-1)))))))))))
def fM_thrown (s : wM)  : Option (Int32) :=
  some (s.1 161 0)
def fM_refuse (s : wM)  : Option (Int32 × wM) :=
  nmM (wsI s 161 0 (iI (1))) fun s_1 =>
  some ((iI (0)), s_1)
def fM_in_J18   (v0 : Int32) (s : wM) : Option (Int32) :=
  chkZ v0 (some v0)
def fM_in_J17    (s : wM) : Option (Int32) :=
  fM_in_J18 (iI (0)) s
def fM_in (s : wM) (x0 : Int64) (x2 : Int64) (x4 : Int64) : Option (Int32) :=
  if (lg_cmp x0 x2) < iI 0 then
  (fM_in_J17 s)
  else (if iI 0 < (lg_cmp x0 x4) then
  (fM_in_J17 s)
  else (fM_in_J18 (iI (1)) s))
def fM_has_J14   (v0 : Int32) (s : wM) : Option (Int32) :=
  chkZ v0 (some v0)
def fM_has (s : wM) (x0 : Int32) (x1 : Int32) : Option (Int32) :=
  if ((iShr x0 x1) &&& (iI (1))) = (iI (1)) then
  (fM_has_J14 (iI (1)) s)
  else (fM_has_J14 (iI (0)) s)
def fM_flag_J9   (v0 : Int32) (s : wM) : Option (Int32) :=
  some v0
def fM_flag (s : wM) (x0 : Int32) : Option (Int32) :=
  if x0 = iI 0 then
  (fM_flag_J9 (iI (0)) s)
  else (fM_flag_J9 (iI (1)) s)
def fM_enters (s : wM) (x1 : Int32) : Option (wM) :=
  chk (s.1 161 1) 24 (nmM (wsI s 162 (s.1 161 1).toNatClampNeg x1) fun s_2 =>
  nmM (wsI s_2 161 1 ((s_2.1 161 1) + (iI (1)))) fun s_3 =>
  some s_3)
def fM_isFarm (s : wM) (x1 : Int32) : Option (Int32) :=
  (fM_in s x1.toInt64 (0 : Int64) (((s.1 161 3) - (iI (1))).toInt64)).bind fun q_2 =>
  chkZ q_2 (some q_2)
def fM_areTwo_J26   (v0 : Int32) (s : wM) : Option (Int32) :=
  chkZ v0 (some v0)
def fM_areTwo_J25    (s : wM) : Option (Int32) :=
  fM_areTwo_J26 (iI (0)) s
def fM_areTwo (s : wM) (x1 : Int32) (x2 : Int32) : Option (Int32) :=
  (fM_isFarm s x1).bind fun q_2 =>
  if q_2 = iI 0 then
  (fM_areTwo_J25 s)
  else ((fM_isFarm s x2).bind fun q_5 =>
  if q_5 = iI 0 then
  (fM_areTwo_J25 s)
  else (if x1 = x2 then
  (fM_areTwo_J25 s)
  else (fM_areTwo_J26 (iI (1)) s)))
def fM_areBits (s : wM) (x1 : Int32) : Option (Int32) :=
  (fM_in s x1.toInt64 (0 : Int64) (((iShl (iI (1)) (s.1 161 3)) - (iI (1))).toInt64)).bind fun q_2 =>
  chkZ q_2 (some q_2)
def fM_sign_L18  (x1 : Int32) : Int32 → wM → (Int32 → wM → Option (Int32 × wM)) → Option (Int32 × wM) := fun x2 s k18 =>
  if (iI (4)) ≤ x2 then
  (nmM (wsI s 161 12 ((s.1 161 12) + (iI (4)))) fun s_2 =>
  some ((s_2.1 161 12), s_2))
  else (chk ((s.1 161 12) + x2) 80 (nmM (wsI s 169 ((s.1 161 12) + x2).toNatClampNeg ((iShr x1 ((iI (24)) - ((iI (8)) * x2))) &&& (iI (255)))) fun s_4 =>
  k18 (x2 + iI (1)) s_4))
def fM_sign (s : wM) (x1 : Int32) : Option (Int32 × wM) :=
  nmM (wsI s 161 0 (iI (0))) fun s_1 =>
  if (s_1.1 161 12) ≤ (iI (76)) then
  (wh2 (fM_sign_L18 x1) 100000 (iI (0)) s_1)
  else (some ((iI (-1)), s_1))
def fM_end (s : wM) (x1 : Int32) : Option (Int32 × wM) :=
  nmM (wsI s 161 0 (iI (0))) fun s_1 =>
  (fM_in s_1 x1.toInt64 (0 : Int64) ((s_1.1 161 12).toInt64)).bind fun q_3 =>
  if q_3 = iI 0 then
  (some ((iI (0)), s_1))
  else (nmM (wsI s_1 161 12 x1) fun s_5 =>
  some ((iI (1)), s_5))
def fM_begins (s : wM) (x1 : Int32) : Option (Int32 × wM) :=
  nmM (wsI s 161 12 (iI (0))) fun s_1 =>
  nmM (wsI s_1 161 13 (iI (0))) fun s_2 =>
  nmM (wsI s_2 161 14 (iMin (s.1 161 12) x1)) fun s_3 =>
  some ((s.1 161 12), s_3)
def fM_takes_J29   (v0 : Int32) (s : wM) : Option (Int32 × wM) :=
  (fM_flag s v0).bind fun q_2 =>
  nmM (wsI s 161 13 ((s.1 161 13) + q_2)) fun s_3 =>
  chkZ v0 (some (v0, s_3))
def fM_takes_J28    (s : wM) : Option (Int32 × wM) :=
  fM_takes_J29 (iI (0)) s
def fM_takes (s : wM) (x1 : Int32) : Option (Int32 × wM) :=
  if (s.1 161 14) ≤ (s.1 161 13) then
  (fM_takes_J28 s)
  else (chk (s.1 161 13) 80 (if (s.1 169 (s.1 161 13).toNatClampNeg) = x1 then
  (fM_takes_J29 (iI (1)) s)
  else (fM_takes_J28 s)))
def fM_digit_J35    (s : wM) : Option (Int32 × wM) :=
  some ((iI (-1)), s)
def fM_digit (s : wM) (x1 : Int32) : Option (Int32 × wM) :=
  if (s.1 161 14) ≤ (s.1 161 13) then
  (fM_digit_J35 s)
  else (chk (s.1 161 13) 80 ((fM_in s ((s.1 169 (s.1 161 13).toNatClampNeg).toInt64) (((iI (48)) + x1).toInt64) (57 : Int64)).bind fun q_4 =>
  if q_4 = iI 0 then
  (fM_digit_J35 s)
  else (nmM (wsI s 161 13 ((s.1 161 13) + (iI (1)))) fun s_6 =>
  chk ((s_6.1 161 13) - (iI (1))) 80 (some (((s_6.1 169 ((s_6.1 161 13) - (iI (1))).toNatClampNeg) - (iI (48))), s_6)))))
def fM_faultOf_J40  (x2 : Int32)  (s : wM) : Option (Int32) :=
  some ((iI (-1)) - x2)
def fM_faultOf_J59   (v0 : Int32) (s : wM) : Option (Int32) :=
  some v0
def fM_faultOf_J44  (x4 : Int32)  (s : wM) : Option (Int32) :=
  if x4 = iI 0 then
  (fM_faultOf_J59 ((iI (-1)) - (s.1 161 13)) s)
  else (fM_faultOf_J59 (iI (0)) s)
def fM_faultOf_J20  (x1 : Int32) (x2 : Int32) (v0 : Int32) (s : wM) : Option (Int32) :=
  if x1 ≤ x2 then
  (fM_faultOf_J44 v0 s)
  else (if v0 = iI 0 then
  (if (s.1 161 13) < x2 then
  (fM_faultOf_J44 v0 s)
  else (fM_faultOf_J40 x2 s))
  else (fM_faultOf_J40 x2 s))
def fM_faultOf_J19  (x1 : Int32) (x2 : Int32)  (s : wM) : Option (Int32) :=
  fM_faultOf_J20 x1 x2 (iI (0)) s
def fM_faultOf (s : wM) (x1 : Int32) (x2 : Int32) (x3 : Int32) : Option (Int32) :=
  if x3 = iI 0 then
  (fM_faultOf_J19 x1 x2 s)
  else (if (s.1 161 13) = (s.1 161 14) then
  (fM_faultOf_J20 x1 x2 (iI (1)) s)
  else (fM_faultOf_J19 x1 x2 s))
def fM_readsFarm_J56  (x1 : Int32) (v0 : Int32) (s : wM) : Option (Int32 × wM) :=
  if iI 0 ≤ v0 then
  (chk (s.1 161 15) 9 (nmM (wsI s 170 (s.1 161 15).toNatClampNeg x1) fun s_3 =>
  chk (s_3.1 161 15) 9 (nmM (wsI s_3 171 (s_3.1 161 15).toNatClampNeg v0) fun s_5 =>
  chk (s_5.1 161 15) 9 (nmM (wsI s_5 172 (s_5.1 161 15).toNatClampNeg (iI (0))) fun s_7 =>
  nmM (wsI s_7 161 15 ((s_7.1 161 15) + (iI (1)))) fun s_8 =>
  some ((iI (1)), s_8)))))
  else (some ((iI (0)), s))
def fM_readsFarm_J37   (v0 : Int32) (s : wM) : Option (Int32 × wM) :=
  (fM_takes s (iI (43))).bind fun q_2 =>
  if q_2.1 = iI 0 then
  (fM_readsFarm_J56 v0 (iI (0)) q_2.2)
  else ((fM_digit q_2.2 (iI (0))).bind fun q_5 =>
  fM_readsFarm_J56 v0 q_5.1 q_5.2)
def fM_readsFarm (s : wM)  : Option (Int32 × wM) :=
  if (s.1 161 15) = (iI (9)) then
  (some ((iI (0)), s))
  else ((fM_digit s (iI (0))).bind fun q_3 =>
  (fM_digit q_3.2 (iI (0))).bind fun q_5 =>
  if iI 0 ≤ q_5.1 then
  (fM_readsFarm_J37 (((iI (10)) * q_3.1) + q_5.1) q_5.2)
  else (fM_readsFarm_J37 q_3.1 q_5.2))
def fM_farmBut_J54    (s : wM) : Option (Int32 × wM) :=
  some ((iI (-1)), s)
def fM_farmBut (s : wM) (x1 : Int32) : Option (Int32 × wM) :=
  if (s.1 161 14) ≤ (s.1 161 13) then
  (fM_farmBut_J54 s)
  else (chk (s.1 161 13) 80 ((fM_in s (((s.1 169 (s.1 161 13).toNatClampNeg) - (iI (97))).toInt64) (0 : Int64) (((s.1 161 15) - (iI (1))).toInt64)).bind fun q_4 =>
  if q_4 = iI 0 then
  (fM_farmBut_J54 s)
  else (if ((s.1 169 (s.1 161 13).toNatClampNeg) - (iI (97))) = x1 then
  (fM_farmBut_J54 s)
  else (nmM (wsI s 161 13 ((s.1 161 13) + (iI (1)))) fun s_7 =>
  chk ((s_7.1 161 13) - (iI (1))) 80 (some (((s_7.1 169 ((s_7.1 161 13) - (iI (1))).toNatClampNeg) - (iI (97))), s_7))))))
def fM_readsTouch_J44  (x1 : Int32) (x2 : Int32) (v0 : Int32) (s : wM) : Option (Int32 × wM) :=
  if iI 0 ≤ v0 then
  (chk x1 9 (nmM (wsI s 172 x1.toNatClampNeg ((s.1 172 x1.toNatClampNeg) ||| (iShl (iI (1)) x2))) fun s_3 =>
  chk x2 9 (nmM (wsI s_3 172 x2.toNatClampNeg ((s_3.1 172 x2.toNatClampNeg) ||| (iShl (iI (1)) x1))) fun s_5 =>
  chk (((iI (9)) * x1) + x2) 81 (nmM (wsI s_5 173 (((iI (9)) * x1) + x2).toNatClampNeg v0) fun s_7 =>
  chk (((iI (9)) * x2) + x1) 81 (nmM (wsI s_7 173 (((iI (9)) * x2) + x1).toNatClampNeg v0) fun s_9 =>
  some ((iI (1)), s_9))))))
  else (some ((iI (0)), s))
def fM_readsTouch_J19  (x1 : Int32) (v0 : Int32) (s : wM) : Option (Int32 × wM) :=
  if iI 0 ≤ v0 then
  ((fM_takes s (iI (47))).bind fun q_3 =>
  if q_3.1 = iI 0 then
  (fM_readsTouch_J44 x1 v0 (iI (0)) q_3.2)
  else ((fM_digit q_3.2 (iI (0))).bind fun q_6 =>
  fM_readsTouch_J44 x1 v0 q_6.1 q_6.2))
  else (some ((iI (0)), s))
def fM_readsTouch (s : wM)  : Option (Int32 × wM) :=
  (fM_farmBut s (iI (-1))).bind fun q_2 =>
  if iI 0 ≤ q_2.1 then
  ((fM_farmBut q_2.2 q_2.1).bind fun q_5 =>
  fM_readsTouch_J19 q_2.1 q_5.1 q_5.2)
  else (fM_readsTouch_J19 q_2.1 (iI (-1)) q_2.2)
def fM_county_J160 (k89 : Int32 → Int32 → Int32 → wM → Option (Int32 × wM)) (x1 : Int32) (x2 : Int32) (x3 : Int32) (v0 : Int32) (s : wM) : Option (Int32 × wM) :=
  k89 x2 x3 v0 s
def fM_county_J159 (k89 : Int32 → Int32 → Int32 → wM → Option (Int32 × wM)) (x1 : Int32) (x2 : Int32) (x3 : Int32)  (s : wM) : Option (Int32 × wM) :=
  fM_county_J160 k89 x1 x2 x3 (iI (0)) s
def fM_county_J138 (k89 : Int32 → Int32 → Int32 → wM → Option (Int32 × wM)) (x1 : Int32) (x2 : Int32) (v0 : Int32) (s : wM) : Option (Int32 × wM) :=
  if v0 = iI 0 then
  (fM_county_J159 k89 x1 (x2 + iI (1)) v0 s)
  else ((fM_takes s (iI (59))).bind fun q_3 =>
  if q_3.1 = iI 0 then
  (fM_county_J159 k89 x1 (x2 + iI (1)) v0 q_3.2)
  else (fM_county_J160 k89 x1 (x2 + iI (1)) v0 (iI (1)) q_3.2))
def fM_county_J134 (k89 : Int32 → Int32 → Int32 → wM → Option (Int32 × wM)) (x1 : Int32) (x2 : Int32)  (s : wM) : Option (Int32 × wM) :=
  (fM_readsTouch s).bind fun q_2 =>
  fM_county_J138 k89 x1 x2 q_2.1 q_2.2
def fM_county_J287 (k186 : Int32 → wM → Option (Int32 × wM)) (x1 : Int32) (x2 : Int32) (x6 : Int32) (v0 : Int32) (v1 : Int32) (s : wM) : Option (Int32 × wM) :=
  chk v1 9 (nmM (wsI s 167 v1.toNatClampNeg v0) fun s_2 =>
  chk x6 9 (nmM (wsI s_2 165 x6.toNatClampNeg (s_2.1 172 x6.toNatClampNeg)) fun s_4 =>
  k186 (x6 + iI (1)) s_4))
def fM_county_J260 (k186 : Int32 → wM → Option (Int32 × wM)) (x1 : Int32) (x2 : Int32) (x6 : Int32) (v0 : Int32) (v1 : Int32) (s : wM) : Option (Int32 × wM) :=
  chk v1 9 (nmM (wsI s 164 v1.toNatClampNeg v0) fun s_2 =>
  if (s_2.1 161 3) ≤ x6 then
  (fM_county_J287 k186 x1 x2 x6 (iI (0)) x6 s_2)
  else (chk x6 9 (fM_county_J287 k186 x1 x2 x6 (s_2.1 167 x6.toNatClampNeg) x6 s_2)))
def fM_county_J227 (k186 : Int32 → wM → Option (Int32 × wM)) (x1 : Int32) (x2 : Int32) (x6 : Int32) (v0 : Int32) (v1 : Int32) (s : wM) : Option (Int32 × wM) :=
  chk v1 9 (nmM (wsI s 163 v1.toNatClampNeg v0) fun s_2 =>
  if (s_2.1 161 3) ≤ x6 then
  (chk x6 9 (fM_county_J260 k186 x1 x2 x6 (s_2.1 171 x6.toNatClampNeg) x6 s_2))
  else (chk x6 9 (fM_county_J260 k186 x1 x2 x6 (s_2.1 164 x6.toNatClampNeg) x6 s_2)))
def fM_county_J359  (x2 : Int32) (v0 : Int32) (s : wM) : Option (Int32 × wM) :=
  nmM (wsI s 161 20 v0) fun s_1 =>
  some (x2, s_1)
def fM_county_L311  (x1 : Int32) (x2 : Int32) : Int32 → wM → (Int32 → wM → Option (Int32 × wM)) → Option (Int32 × wM) := fun x6 s k311 =>
  if (iI (81)) ≤ x6 then
  (nmM (wsI s 161 3 (s.1 161 15)) fun s_2 =>
  if x1 ≤ iI 0 then
  (fM_county_J359 x2 (s_2.1 161 20) s_2)
  else (fM_county_J359 x2 (iI (0)) s_2))
  else (chk x6 81 (nmM (wsI s 166 x6.toNatClampNeg (s.1 173 x6.toNatClampNeg)) fun s_5 =>
  k311 (x6 + iI (1)) s_5))
def fM_county_L186  (x1 : Int32) (x2 : Int32) : Int32 → wM → (Int32 → wM → Option (Int32 × wM)) → Option (Int32 × wM) := fun x6 s k186 =>
  if (s.1 161 15) ≤ x6 then
  (wh2 (fM_county_L311 x1 x2) 100000 (iI (0)) s)
  else (if (s.1 161 3) ≤ x6 then
  (chk x6 9 (fM_county_J227 k186 x1 x2 x6 (s.1 170 x6.toNatClampNeg) x6 s))
  else (chk x6 9 (fM_county_J227 k186 x1 x2 x6 (s.1 163 x6.toNatClampNeg) x6 s)))
def fM_county_L89  (x1 : Int32) : Int32 → Int32 → Int32 → wM → (Int32 → Int32 → Int32 → wM → Option (Int32 × wM)) → Option (Int32 × wM) := fun x2 x3 x4 s k89 =>
  if x4 = iI 0 then
  ((fM_faultOf s x1 (iI (76)) x3).bind fun q_3 =>
  if iI 0 ≤ q_3 then
  (wh2 (fM_county_L186 x1 x2) 100000 (iI (0)) s)
  else (some (q_3, s)))
  else (if (s.1 161 14) ≤ (s.1 161 13) then
  (fM_county_J134 k89 x1 x2 s)
  else (chk (s.1 161 13) 80 ((fM_in s ((s.1 169 (s.1 161 13).toNatClampNeg).toInt64) (48 : Int64) (57 : Int64)).bind fun q_8 =>
  if q_8 = iI 0 then
  (fM_county_J134 k89 x1 x2 s)
  else ((fM_readsFarm s).bind fun q_11 =>
  fM_county_J138 k89 x1 x2 q_11.1 q_11.2))))
def fM_county_J87  (x1 : Int32) (x2 : Int32) (x3 : Int32) (v0 : Int32) (s : wM) : Option (Int32 × wM) :=
  wh4 (fM_county_L89 x1) 100000 x2 x3 v0 s
def fM_county_L48  (x1 : Int32) : Int32 → wM → (Int32 → wM → Option (Int32 × wM)) → Option (Int32 × wM) := fun x2 s k48 =>
  if (s.1 161 3) ≤ x2 then
  (if x1 ≤ iI 0 then
  (fM_county_J87 x1 (iI (0)) (iI (1)) (iI (0)) s)
  else (fM_county_J87 x1 (iI (0)) (iI (1)) (iI (1)) s))
  else (chk x2 9 (nmM (wsI s 172 x2.toNatClampNeg (s.1 165 x2.toNatClampNeg)) fun s_4 =>
  k48 (x2 + iI (1)) s_4))
def fM_county_L22  (x1 : Int32) : Int32 → wM → (Int32 → wM → Option (Int32 × wM)) → Option (Int32 × wM) := fun x2 s k22 =>
  if (iI (81)) ≤ x2 then
  (wh2 (fM_county_L48 x1) 100000 (iI (0)) s)
  else (chk x2 81 (nmM (wsI s 173 x2.toNatClampNeg (s.1 166 x2.toNatClampNeg)) fun s_3 =>
  k22 (x2 + iI (1)) s_3))
def fM_county (s : wM)  : Option (Int32 × wM) :=
  nmM (wsI s 161 0 (iI (0))) fun s_1 =>
  (fM_begins s_1 (iI (76))).bind fun q_3 =>
  nmM (wsI q_3.2 161 15 (q_3.2.1 161 3)) fun s_4 =>
  wh2 (fM_county_L22 q_3.1) 100000 (iI (0)) s_4
def fM_isEven_J37   (v0 : Int32) (s : wM) : Option (Int32) :=
  chkZ v0 (some v0)
def fM_isEven_J36    (s : wM) : Option (Int32) :=
  fM_isEven_J37 (iI (0)) s
def fM_isEven (s : wM) (x1 : Nat) (x2 : Int32) (x3 : Int32) : Option (Int32) :=
  chk x2 9 ((fM_has s (s.1 165 x2.toNatClampNeg) x3).bind fun q_3 =>
  if q_3 = iI 0 then
  (fM_isEven_J36 s)
  else (chk x3 9 (if (s.1 168 (iI (0)).toNatClampNeg) ≤ (iAbs ((s.1 x1 x2.toNatClampNeg) - (s.1 x1 x3.toNatClampNeg))) then
  (fM_isEven_J36 s)
  else (fM_isEven_J37 (iI (1)) s))))
def fM_evenWith_J40 (k5 : Int32 → Int32 → Option (Int32)) (x1 : Nat) (x2 : Int32) (x4 : Int32) (v0 : Int32) (v1 : Int32) (s : wM) : Option (Int32) :=
  k5 (v1 ||| v0) (x4 + iI (1))
def fM_evenWith_J39 (k5 : Int32 → Int32 → Option (Int32)) (x1 : Nat) (x2 : Int32) (x4 : Int32) (v0 : Int32) (s : wM) : Option (Int32) :=
  fM_evenWith_J40 k5 x1 x2 x4 (iI (0)) v0 s
def fM_evenWith_L5  (x1 : Nat) (x2 : Int32) (s : wM) : Int32 → Int32 → (Int32 → Int32 → Option (Int32)) → Option (Int32) := fun x3 x4 k5 =>
  if (s.1 161 3) ≤ x4 then
  (some x3)
  else (if x4 = x2 then
  (fM_evenWith_J39 k5 x1 x2 x4 x3 s)
  else ((fM_isEven s x1 x2 x4).bind fun q_4 =>
  if q_4 = iI 0 then
  (fM_evenWith_J39 k5 x1 x2 x4 x3 s)
  else (fM_evenWith_J40 k5 x1 x2 x4 (iShl (iI (1)) x4) x3 s)))
def fM_evenWith (s : wM) (x1 : Nat) (x2 : Int32) : Option (Int32) :=
  wh2 (fM_evenWith_L5 x1 x2 s) 100000 (iI (0)) (iI (0))
def fM_evenPairs_L4  (x1 : Nat) (s : wM) : Int32 → Int32 → (Int32 → Int32 → Option (Int32)) → Option (Int32) := fun x2 x3 k4 =>
  if (s.1 161 3) ≤ x3 then
  (some (x2 / (iI (2))))
  else ((fM_evenWith s x1 x3).bind fun q_3 =>
  (fJ_bitCount s q_3).bind fun q_5 =>
  k4 (x2 + q_5) (x3 + iI (1)))
def fM_evenPairs (s : wM) (x1 : Nat) : Option (Int32) :=
  wh2 (fM_evenPairs_L4 x1 s) 100000 (iI (0)) (iI (0))
def fM_farm_J25    (s : wM) : Option (Int32 × wM) :=
  (fM_refuse s).bind fun q_2 =>
  some (q_2.1, q_2.2)
def fM_farm (s : wM) (x1 : Int32) (x2 : Int32) : Option (Int32 × wM) :=
  nmM (wsI s 161 0 (iI (0))) fun s_1 =>
  (fM_isFarm s_1 x1).bind fun q_3 =>
  if q_3 = iI 0 then
  (fM_farm_J25 s_1)
  else ((fM_in s_1 x2.toInt64 (0 : Int64) (4 : Int64)).bind fun q_6 =>
  if q_6 = iI 0 then
  (fM_farm_J25 s_1)
  else (if x2 = iI (0) then
  (chk x1 9 (some ((s_1.1 163 x1.toNatClampNeg), s_1)))
  else (if x2 = iI (1) then
  (chk x1 9 (some ((s_1.1 164 x1.toNatClampNeg), s_1)))
  else (if x2 = iI (2) then
  (chk x1 9 (some ((s_1.1 165 x1.toNatClampNeg), s_1)))
  else (if x2 = iI (3) then
  ((fM_evenWith s_1 163 x1).bind fun q_16 =>
  some (q_16, s_1))
  else (chk x1 9 (some ((s_1.1 167 x1.toNatClampNeg), s_1))))))))
def fM_stone_J45   (v0 : Int32) (s : wM) : Option (Int32 × wM) :=
  some (v0, s)
def fM_stone (s : wM) (x1 : Int32) (x2 : Int32) : Option (Int32 × wM) :=
  nmM (wsI s 161 0 (iI (0))) fun s_1 =>
  (fM_areTwo s_1 x1 x2).bind fun q_3 =>
  if q_3 = iI 0 then
  (some ((iI (-1)), s_1))
  else (chk x1 9 ((fM_has s_1 (s_1.1 165 x1.toNatClampNeg) x2).bind fun q_7 =>
  if q_7 = iI 0 then
  (fM_stone_J45 (iI (-2)) s_1)
  else (chk (((iI (9)) * x1) + x2) 81 (fM_stone_J45 (s_1.1 166 (((iI (9)) * x1) + x2).toNatClampNeg) s_1))))
def fM_touchBy_J69  (x1 : Int32) (x2 : Int32) (x3 : Int32) (v0 : Int32) (v1 : Int32) (s : wM) : Option (wM) :=
  chk v1 9 (nmM (wsI s 165 v1.toNatClampNeg v0) fun s_2 =>
  chk (((iI (9)) * x1) + x2) 81 (nmM (wsI s_2 166 (((iI (9)) * x1) + x2).toNatClampNeg (iMax (iI (0)) x3)) fun s_4 =>
  chk (((iI (9)) * x2) + x1) 81 (nmM (wsI s_4 166 (((iI (9)) * x2) + x1).toNatClampNeg (iMax (iI (0)) x3)) fun s_6 =>
  some s_6)))
def fM_touchBy_J34  (x1 : Int32) (x2 : Int32) (x3 : Int32) (v0 : Int32) (v1 : Int32) (s : wM) : Option (wM) :=
  chk v1 9 (nmM (wsI s 165 v1.toNatClampNeg v0) fun s_2 =>
  if iI 0 ≤ x3 then
  (chk x2 9 (fM_touchBy_J69 x1 x2 x3 ((s_2.1 165 x2.toNatClampNeg) ||| (iShl (iI (1)) x1)) x2 s_2))
  else (chk x2 9 (fM_touchBy_J69 x1 x2 x3 ((s_2.1 165 x2.toNatClampNeg) &&& ((iShl (iI (1)) x1) ^^^ (iI (-1)))) x2 s_2)))
def fM_touchBy (s : wM) (x1 : Int32) (x2 : Int32) (x3 : Int32) : Option (wM) :=
  if iI 0 ≤ x3 then
  (chk x1 9 (fM_touchBy_J34 x1 x2 x3 ((s.1 165 x1.toNatClampNeg) ||| (iShl (iI (1)) x2)) x1 s))
  else (chk x1 9 (fM_touchBy_J34 x1 x2 x3 ((s.1 165 x1.toNatClampNeg) &&& ((iShl (iI (1)) x2) ^^^ (iI (-1)))) x1 s))
def fM_touch_J28    (s : wM) : Option (Int32 × wM) :=
  some ((iI (0)), s)
def fM_touch (s : wM) (x1 : Int32) (x2 : Int32) (x3 : Int32) : Option (Int32 × wM) :=
  nmM (wsI s 161 0 (iI (0))) fun s_1 =>
  (fM_areTwo s_1 x1 x2).bind fun q_3 =>
  if q_3 = iI 0 then
  (fM_touch_J28 s_1)
  else ((fM_in s_1 x3.toInt64 (-1 : Int64) (9 : Int64)).bind fun q_6 =>
  if q_6 = iI 0 then
  (fM_touch_J28 s_1)
  else ((fM_touchBy s_1 x1 x2 x3).bind fun q_9 =>
  some ((iI (1)), q_9)))
def fM_law_J38    (s : wM) : Option (Int32 × wM) :=
  some ((iI (-1)), s)
def fM_law_J29  (x1 : Int32) (x2 : Int32) (v0 : Int64) (v1 : Int64) (s : wM) : Option (Int32 × wM) :=
  (fM_in s v1 v0 (9 : Int64)).bind fun q_2 =>
  if q_2 = iI 0 then
  (fM_law_J38 s)
  else (chk x1 3 (nmM (wsI s 168 x1.toNatClampNeg x2) fun s_5 =>
  some ((s.1 168 x1.toNatClampNeg), s_5)))
def fM_law (s : wM) (x1 : Int32) (x2 : Int32) : Option (Int32 × wM) :=
  nmM (wsI s 161 0 (iI (0))) fun s_1 =>
  (fM_in s_1 x1.toInt64 (0 : Int64) (2 : Int64)).bind fun q_3 =>
  if q_3 = iI 0 then
  (fM_law_J38 s_1)
  else (if x1 = (iI (1)) then
  (fM_law_J29 x1 x2 (0 : Int64) x2.toInt64 s_1)
  else (fM_law_J29 x1 x2 (1 : Int64) x2.toInt64 s_1))
def fM_set_J45    (s : wM) : Option (Int32 × wM) :=
  some ((iI (-1)), s)
def fM_set_J62  (x2 : Int32) (x3 : Int32) (v0 : Nat) (s : wM) : Option (Int32 × wM) :=
  chk x2 9 (nmM (wsI s v0 x2.toNatClampNeg x3) fun s_2 =>
  some ((s.1 v0 x2.toNatClampNeg), s_2))
def fM_set_J39  (x1 : Int32) (x2 : Int32) (x3 : Int32) (v0 : Int64) (v1 : Int64) (v2 : Int64) (s : wM) : Option (Int32 × wM) :=
  (fM_in s v2 v1 v0).bind fun q_2 =>
  if q_2 = iI 0 then
  (fM_set_J45 s)
  else (if x1 = iI 0 then
  (fM_set_J62 x2 x3 163 s)
  else (fM_set_J62 x2 x3 164 s))
def fM_set (s : wM) (x1 : Int32) (x2 : Int32) (x3 : Int32) : Option (Int32 × wM) :=
  nmM (wsI s 161 0 (iI (0))) fun s_1 =>
  (fM_in s_1 x1.toInt64 (0 : Int64) (1 : Int64)).bind fun q_3 =>
  if q_3 = iI 0 then
  (fM_set_J45 s_1)
  else ((fM_isFarm s_1 x2).bind fun q_6 =>
  if q_6 = iI 0 then
  (fM_set_J45 s_1)
  else (if x1 = iI 0 then
  (fM_set_J39 x1 x2 x3 (99 : Int64) (0 : Int64) x3.toInt64 s_1)
  else (fM_set_J39 x1 x2 x3 (9 : Int64) (0 : Int64) x3.toInt64 s_1)))
def fM_sheet_J23    (s : wM) : Option (Int32 × wM) :=
  some ((iI (-1)), s)
def fM_sheet_J112 (k46 : Int32 → Int32 → Int32 → wM → Option (Int32 × wM)) (x1 : Int32) (x2 : Int32) (x4 : Int32) (x5 : Int32) (x6 : Int32) (x7 : Int32) (v0 : Int32) (v1 : Int32) (s : wM) : Option (Int32 × wM) :=
  chk v1 9 (nmM (wsI s 163 v1.toNatClampNeg v0) fun s_2 =>
  chk x7 9 (k46 (x5 + (s_2.1 163 x7.toNatClampNeg)) (x6 + x4) (x7 + iI (1)) s_2))
def fM_sheet_J97 (k46 : Int32 → Int32 → Int32 → wM → Option (Int32 × wM)) (x1 : Int32) (x2 : Int32) (x4 : Int32) (x5 : Int32) (x6 : Int32) (x7 : Int32) (v0 : Int32) (s : wM) : Option (Int32 × wM) :=
  fM_sheet_J112 k46 x1 x2 x4 x5 x6 x7 (iI (0)) v0 s
def fM_sheet_J78 (k46 : Int32 → Int32 → Int32 → wM → Option (Int32 × wM)) (x1 : Int32) (x2 : Int32) (x4 : Int32) (x5 : Int32) (x6 : Int32) (x7 : Int32) (v0 : Int32) (s : wM) : Option (Int32 × wM) :=
  if x1 = (iI (3)) then
  (fM_sheet_J97 k46 x1 x2 x4 x5 x6 x7 x7 s)
  else (if x7 < x2 then
  (fM_sheet_J112 k46 x1 x2 x4 x5 x6 x7 (iMax (iI (0)) (iMin (iI (99)) v0)) x7 s)
  else (fM_sheet_J97 k46 x1 x2 x4 x5 x6 x7 x7 s))
def fM_sheet_J150   (v0 : Int32) (s : wM) : Option (Int32 × wM) :=
  some (v0, s)
def fM_sheet_L46  (x1 : Int32) (x2 : Int32) (x4 : Int32) : Int32 → Int32 → Int32 → wM → (Int32 → Int32 → Int32 → wM → Option (Int32 × wM)) → Option (Int32 × wM) := fun x5 x6 x7 s k46 =>
  if (s.1 161 3) ≤ x7 then
  (if x1 = (iI (3)) then
  (fM_sheet_J150 (iI (-3)) s)
  else (fM_sheet_J150 x5 s))
  else (if x1 = iI 0 then
  (fM_sheet_J78 k46 x1 x2 x4 x5 x6 x7 x6.toInt8.toInt32 s)
  else (if x1 = (iI (1)) then
  (fM_sheet_J78 k46 x1 x2 x4 x5 x6 x7 x6.toInt16.toInt32 s)
  else (fM_sheet_J78 k46 x1 x2 x4 x5 x6 x7 x6 s)))
def fM_sheet_J37  (x1 : Int32) (x2 : Int32) (x3 : Int32) (x4 : Int32)  (s : wM) : Option (Int32 × wM) :=
  wh4 (fM_sheet_L46 x1 x2 x4) 100000 (iI (0)) x3 (iI (0)) s
def fM_sheet (s : wM) (x1 : Int32) (x2 : Int32) (x3 : Int32) (x4 : Int32) : Option (Int32 × wM) :=
  nmM (wsI s 161 0 (iI (0))) fun s_1 =>
  (fM_in s_1 x1.toInt64 (0 : Int64) (3 : Int64)).bind fun q_3 =>
  if q_3 = iI 0 then
  (fM_sheet_J23 s_1)
  else (if x2 ≤ (iI (9)) then
  (if x1 = (iI (3)) then
  (fM_sheet_J37 x1 x2 x3 x4 s_1)
  else (if iI 0 ≤ x2 then
  (fM_sheet_J37 x1 x2 x3 x4 s_1)
  else (some ((iI (-2)), s_1))))
  else (fM_sheet_J23 s_1))
def fM_putsDown_L2  (x1 : Int32) : Int32 → wM → (Int32 → wM → Option (wM)) → Option (wM) := fun x2 s k2 =>
  if (iI (9)) ≤ x2 then
  (chk (((iI (19)) * x1) + (iI (18))) 399 (nmM (wsI s 174 (((iI (19)) * x1) + (iI (18))).toNatClampNeg (s.1 161 10)) fun s_3 =>
  some s_3))
  else (chk x2 9 (chk (((iI (19)) * x1) + x2) 399 (nmM (wsI s 174 (((iI (19)) * x1) + x2).toNatClampNeg (s.1 163 x2.toNatClampNeg)) fun s_6 =>
  chk ((((iI (19)) * x1) + (iI (9))) + x2) 399 (nmM (wsI s_6 174 ((((iI (19)) * x1) + (iI (9))) + x2).toNatClampNeg (s_6.1 167 x2.toNatClampNeg)) fun s_8 =>
  k2 (x2 + iI (1)) s_8))))
def fM_putsDown (s : wM) (x1 : Int32) : Option (wM) :=
  wh2 (fM_putsDown_L2 x1) 100000 (iI (0)) s
def fM_putsBy (s : wM)  : Option (wM) :=
  (fM_putsDown s (s.1 161 20)).bind fun q_2 =>
  some q_2
def fM_adds_J59    (s : wM) : Option (wM) :=
  some s
def fM_adds_L21   : Int32 → wM → (Int32 → wM → Option (wM)) → Option (wM) := fun x1 s k21 =>
  if (iI (380)) ≤ x1 then
  (nmM (wsI s 161 20 ((s.1 161 20) - (iI (1)))) fun s_2 =>
  fM_adds_J59 s_2)
  else (chk (x1 + (iI (19))) 399 (chk x1 399 (nmM (wsI s 174 x1.toNatClampNeg (s.1 174 (x1 + (iI (19))).toNatClampNeg)) fun s_5 =>
  k21 (x1 + iI (1)) s_5)))
def fM_adds (s : wM)  : Option (wM) :=
  nmM (wsI s 161 20 ((s.1 161 20) + (iI (1)))) fun s_1 =>
  if (s_1.1 161 20) ≤ (iI (20)) then
  (fM_adds_J59 s_1)
  else (wh2 (fM_adds_L21) 100000 (iI (0)) s_1)
def fM_undo_L26   : Int32 → wM → (Int32 → wM → Option (Int32 × wM)) → Option (Int32 × wM) := fun x1 s k26 =>
  if (iI (9)) ≤ x1 then
  (chk (((iI (19)) * (s.1 161 20)) + (iI (18))) 399 (nmM (wsI s 161 10 (s.1 174 (((iI (19)) * (s.1 161 20)) + (iI (18))).toNatClampNeg)) fun s_3 =>
  some ((s_3.1 161 20), s_3)))
  else (chk (((iI (19)) * (s.1 161 20)) + x1) 399 (chk x1 9 (nmM (wsI s 163 x1.toNatClampNeg (s.1 174 (((iI (19)) * (s.1 161 20)) + x1).toNatClampNeg)) fun s_6 =>
  chk ((((iI (19)) * (s_6.1 161 20)) + (iI (9))) + x1) 399 (nmM (wsI s_6 167 x1.toNatClampNeg (s_6.1 174 ((((iI (19)) * (s_6.1 161 20)) + (iI (9))) + x1).toNatClampNeg)) fun s_8 =>
  k26 (x1 + iI (1)) s_8))))
def fM_undo (s : wM)  : Option (Int32 × wM) :=
  nmM (wsI s 161 0 (iI (0))) fun s_1 =>
  if (s_1.1 161 20) = iI 0 then
  (some ((iI (-1)), s_1))
  else (nmM (wsI s_1 161 20 ((s_1.1 161 20) - (iI (1)))) fun s_3 =>
  wh2 (fM_undo_L26) 100000 (iI (0)) s_3)
def fM_canCarry_J45   (v0 : Int32) (s : wM) : Option (Int32) :=
  chkZ v0 (some v0)
def fM_canCarry_J44    (s : wM) : Option (Int32) :=
  fM_canCarry_J45 (iI (0)) s
def fM_canCarry (s : wM) (x1 : Nat) (x2 : Int32) (x3 : Int32) : Option (Int32) :=
  chk x2 9 ((fM_has s (s.1 165 x2.toNatClampNeg) x3).bind fun q_3 =>
  if q_3 = iI 0 then
  (fM_canCarry_J44 s)
  else (if (s.1 x1 x2.toNatClampNeg) < (s.1 168 (iI (2)).toNatClampNeg) then
  (fM_canCarry_J44 s)
  else (chk x3 9 (if ((iI (99)) - (s.1 168 (iI (2)).toNatClampNeg)) < (s.1 x1 x3.toNatClampNeg) then
  (fM_canCarry_J44 s)
  else (fM_canCarry_J45 (iI (1)) s)))))
def fM_carries (s : wM) (x1 : Nat) (x2 : Int32) (x3 : Int32) : Option (wM) :=
  chk x2 9 (nmM (wsI s x1 x2.toNatClampNeg ((s.1 x1 x2.toNatClampNeg) - (s.1 168 (iI (2)).toNatClampNeg))) fun s_2 =>
  chk x3 9 (nmM (wsI s_2 x1 x3.toNatClampNeg ((s_2.1 x1 x3.toNatClampNeg) + (s_2.1 168 (iI (2)).toNatClampNeg))) fun s_4 =>
  some s_4))
def fM_carry (s : wM) (x1 : Int32) (x2 : Int32) : Option (Int32 × wM) :=
  nmM (wsI s 161 0 (iI (0))) fun s_1 =>
  (fM_areTwo s_1 x1 x2).bind fun q_3 =>
  if q_3 = iI 0 then
  (some ((iI (-1)), s_1))
  else (chk x1 9 ((fM_has s_1 (s_1.1 165 x1.toNatClampNeg) x2).bind fun q_7 =>
  if q_7 = iI 0 then
  (some ((iI (-2)), s_1))
  else ((fM_canCarry s_1 163 x1 x2).bind fun q_10 =>
  if q_10 = iI 0 then
  (some ((iI (-3)), s_1))
  else ((fM_putsBy s_1).bind fun q_13 =>
  (fM_carries q_13 163 x1 x2).bind fun q_15 =>
  (fM_adds q_15).bind fun q_17 =>
  some ((q_17.1 163 x1.toNatClampNeg), q_17)))))
def fM_readsStep_J33    (s : wM) : Option (Int32 × wM) :=
  some ((iI (0)), s)
def fM_readsStep_J108    (s : wM) : Option (Int32 × wM) :=
  some ((iI (0)), s)
def fM_readsStep_J197   (v0 : Int32) (s : wM) : Option (Int32 × wM) :=
  chkZ v0 (some (v0, s))
def fM_readsStep_J167   (v0 : Int32) (v1 : Int32) (s : wM) : Option (Int32 × wM) :=
  chk v1 16 (nmM (wsI s 177 v1.toNatClampNeg v0) fun s_2 =>
  nmM (wsI s_2 161 25 ((s_2.1 161 25) + (iI (1)))) fun s_3 =>
  chk ((s_3.1 161 25) - (iI (1))) 16 (if (s_3.1 177 ((s_3.1 161 25) - (iI (1))).toNatClampNeg) ≤ iI 0 then
  (fM_readsStep_J197 (iI (0)) s_3)
  else (fM_readsStep_J197 (iI (1)) s_3)))
def fM_readsStep (s : wM)  : Option (Int32 × wM) :=
  if (s.1 161 14) ≤ (s.1 161 13) then
  (fM_readsStep_J33 s)
  else (chk (s.1 161 13) 80 ((fM_in s ((s.1 169 (s.1 161 13).toNatClampNeg).toInt64) (97 : Int64) (105 : Int64)).bind fun q_4 =>
  if q_4 = iI 0 then
  (fM_readsStep_J33 s)
  else (chk (s.1 161 25) 16 (nmM (wsI s 175 (s.1 161 25).toNatClampNeg ((s.1 169 (s.1 161 13).toNatClampNeg) - (iI (97)))) fun s_7 =>
  nmM (wsI s_7 161 13 ((s_7.1 161 13) + (iI (1)))) fun s_8 =>
  (fM_takes s_8 (iI (62))).bind fun q_10 =>
  if q_10.1 = iI 0 then
  (fM_readsStep_J108 q_10.2)
  else (if (q_10.2.1 161 14) ≤ (q_10.2.1 161 13) then
  (fM_readsStep_J108 q_10.2)
  else (chk (q_10.2.1 161 13) 80 ((fM_in q_10.2 ((q_10.2.1 169 (q_10.2.1 161 13).toNatClampNeg).toInt64) (97 : Int64) (105 : Int64)).bind fun q_15 =>
  if q_15 = iI 0 then
  (fM_readsStep_J108 q_10.2)
  else (chk (q_10.2.1 161 25) 16 (nmM (wsI q_10.2 176 (q_10.2.1 161 25).toNatClampNeg ((q_10.2.1 169 (q_10.2.1 161 13).toNatClampNeg) - (iI (97)))) fun s_18 =>
  nmM (wsI s_18 161 13 ((s_18.1 161 13) + (iI (1)))) fun s_19 =>
  (fM_takes s_19 (iI (42))).bind fun q_21 =>
  if q_21.1 = iI 0 then
  (fM_readsStep_J167 (iI (1)) (s_19.1 161 25) q_21.2)
  else ((fM_digit q_21.2 (iI (1))).bind fun q_24 =>
  fM_readsStep_J167 q_24.1 (s_19.1 161 25) q_24.2))))))))))
def fM_night_J56 (k29 : Int32 → Int32 → wM → Option (Int32 × wM)) (x1 : Int32) (x2 : Int32) (v0 : Int32) (s : wM) : Option (Int32 × wM) :=
  k29 x2 v0 s
def fM_night_J55 (k29 : Int32 → Int32 → wM → Option (Int32 × wM)) (x1 : Int32) (x2 : Int32)  (s : wM) : Option (Int32 × wM) :=
  fM_night_J56 k29 x1 x2 (iI (0)) s
def fM_night_J208 (k91 : Int32 → Int32 → Int32 → wM → Option (Int32 × wM)) (k108 : Int32 → Int32 → Int32 → wM → Option (Int32 × wM)) (x5 : Int32) (x6 : Int32) (x7 : Int32) (x8 : Int32)  (s : wM) : Option (Int32 × wM) :=
  k108 x5 x6 (x8 + iI (1)) s
def fM_night_J176 (k91 : Int32 → Int32 → Int32 → wM → Option (Int32 × wM)) (k108 : Int32 → Int32 → Int32 → wM → Option (Int32 × wM)) (x5 : Int32) (x7 : Int32) (x8 : Int32) (v0 : Int32) (s : wM) : Option (Int32 × wM) :=
  if v0 = iI 0 then
  (fM_night_J208 k91 k108 x5 v0 x7 x8 s)
  else (chk x7 16 ((fM_carries s 163 (s.1 175 x7.toNatClampNeg) (s.1 176 x7.toNatClampNeg)).bind fun q_4 =>
  fM_night_J208 k91 k108 (x5 + iI (1)) v0 x7 x8 q_4))
def fM_night_J175 (k91 : Int32 → Int32 → Int32 → wM → Option (Int32 × wM)) (k108 : Int32 → Int32 → Int32 → wM → Option (Int32 × wM)) (x5 : Int32) (x7 : Int32) (x8 : Int32)  (s : wM) : Option (Int32 × wM) :=
  fM_night_J176 k91 k108 x5 x7 x8 (iI (0)) s
def fM_night_J214 (k91 : Int32 → Int32 → Int32 → wM → Option (Int32 × wM)) (x5 : Int32) (x6 : Int32) (x7 : Int32)  (s : wM) : Option (Int32 × wM) :=
  k91 x5 x6 (x7 + iI (1)) s
def fM_night_L108 (k91 : Int32 → Int32 → Int32 → wM → Option (Int32 × wM)) (x7 : Int32) : Int32 → Int32 → Int32 → wM → (Int32 → Int32 → Int32 → wM → Option (Int32 × wM)) → Option (Int32 × wM) := fun x5 x6 x8 s k108 =>
  chk x7 16 (if (s.1 177 x7.toNatClampNeg) ≤ x8 then
  (fM_night_J214 k91 x5 x6 x7 s)
  else (if x6 = iI 0 then
  (fM_night_J214 k91 x5 x6 x7 s)
  else ((fM_areTwo s (s.1 175 x7.toNatClampNeg) (s.1 176 x7.toNatClampNeg)).bind fun q_5 =>
  if q_5 = iI 0 then
  (fM_night_J175 k91 k108 x5 x7 x8 s)
  else ((fM_canCarry s 163 (s.1 175 x7.toNatClampNeg) (s.1 176 x7.toNatClampNeg)).bind fun q_8 =>
  if q_8 = iI 0 then
  (fM_night_J175 k91 k108 x5 x7 x8 s)
  else (fM_night_J176 k91 k108 x5 x7 x8 (iI (1)) s)))))
def fM_night_J245  (x5 : Int32) (v0 : Int32) (s : wM) : Option (Int32 × wM) :=
  (fM_flag s v0).bind fun q_2 =>
  (fM_enters s q_2).bind fun q_4 =>
  some (x5, q_4)
def fM_night_J229  (x5 : Int32) (x6 : Int32)  (s : wM) : Option (Int32 × wM) :=
  nmM (wsI s 161 1 (iI (0))) fun s_1 =>
  if x6 = iI 0 then
  (fM_night_J245 x5 (iI (1)) s_1)
  else (fM_night_J245 x5 (iI (0)) s_1)
def fM_night_J220  (x5 : Int32) (x6 : Int32)  (s : wM) : Option (Int32 × wM) :=
  if x5 ≤ iI 0 then
  (fM_night_J229 x5 x6 s)
  else ((fM_adds s).bind fun q_3 =>
  fM_night_J229 x5 x6 q_3)
def fM_night_L91   : Int32 → Int32 → Int32 → wM → (Int32 → Int32 → Int32 → wM → Option (Int32 × wM)) → Option (Int32 × wM) := fun x5 x6 x7 s k91 =>
  if (s.1 161 25) ≤ x7 then
  (fM_night_J220 x5 x6 s)
  else (if x6 = iI 0 then
  (fM_night_J220 x5 x6 s)
  else (wh4 (fM_night_L108 k91 x7) 100000 x5 x6 (iI (0)) s))
def fM_night_L29  (x1 : Int32) : Int32 → Int32 → wM → (Int32 → Int32 → wM → Option (Int32 × wM)) → Option (Int32 × wM) := fun x2 x3 s k29 =>
  if x3 = iI 0 then
  ((fM_faultOf s x1 (iI (40)) x2).bind fun q_3 =>
  if iI 0 ≤ q_3 then
  ((fM_putsBy s).bind fun q_6 =>
  wh4 (fM_night_L91) 100000 (iI (0)) (iI (1)) (iI (0)) q_6)
  else (some (q_3, s)))
  else ((fM_readsStep s).bind fun q_8 =>
  if q_8.1 = iI 0 then
  (fM_night_J55 k29 x1 q_8.1 q_8.2)
  else ((fM_takes q_8.2 (iI (59))).bind fun q_11 =>
  if q_11.1 = iI 0 then
  (fM_night_J55 k29 x1 q_8.1 q_11.2)
  else (fM_night_J56 k29 x1 q_8.1 (iI (1)) q_11.2)))
def fM_night_J28  (x1 : Int32) (x2 : Int32) (v0 : Int32) (s : wM) : Option (Int32 × wM) :=
  wh3 (fM_night_L29 x1) 100000 x2 v0 s
def fM_night (s : wM)  : Option (Int32 × wM) :=
  nmM (wsI s 161 0 (iI (0))) fun s_1 =>
  (fM_begins s_1 (iI (40))).bind fun q_3 =>
  nmM (wsI q_3.2 161 25 (iI (0))) fun s_4 =>
  if q_3.1 ≤ iI 0 then
  (fM_night_J28 q_3.1 (iI (1)) (iI (0)) s_4)
  else (fM_night_J28 q_3.1 (iI (1)) (iI (1)) s_4)
def fM_seeps_J68   (v0 : Int32) (s : wM) : Option (Int32) :=
  some v0
def fM_seeps_J45  (x1 : Nat) (x2 : Int32) (x3 : Int32) (x4 : Int32) (v0 : Int32) (s : wM) : Option (Int32) :=
  if v0 = iI 0 then
  (fM_seeps_J68 (iI (0)) s)
  else (chk x2 9 (chk x3 9 (chkD ((iI (2)) * x4) (fM_seeps_J68 (((s.1 x1 x2.toNatClampNeg) - (s.1 x1 x3.toNatClampNeg)) / ((iI (2)) * x4)) s))))
def fM_seeps_J44  (x1 : Nat) (x2 : Int32) (x3 : Int32) (x4 : Int32)  (s : wM) : Option (Int32) :=
  fM_seeps_J45 x1 x2 x3 x4 (iI (0)) s
def fM_seeps (s : wM) (x1 : Nat) (x2 : Int32) (x3 : Int32) : Option (Int32) :=
  chk (((iI (9)) * x2) + x3) 81 (nmI (s.1 166 (((iI (9)) * x2) + x3).toNatClampNeg) fun y_2 =>
  chk x2 9 ((fM_has s (s.1 165 x2.toNatClampNeg) x3).bind fun q_5 =>
  if q_5 = iI 0 then
  (fM_seeps_J44 x1 x2 x3 y_2 s)
  else (if y_2 ≤ iI 0 then
  (fM_seeps_J44 x1 x2 x3 y_2 s)
  else (chk x3 9 (if (s.1 x1 x2.toNatClampNeg) ≤ (s.1 x1 x3.toNatClampNeg) then
  (fM_seeps_J44 x1 x2 x3 y_2 s)
  else (fM_seeps_J45 x1 x2 x3 y_2 (iI (1)) s))))))
def fM_weekGoes_J39 (k3 : Int32 → wM → Option (wM)) (x1 : Nat) (x2 : Int32) (x3 : Int32) (x4 : Int32) (v0 : Int32) (v1 : Int32) (v2 : Int32) (s : wM) : Option (wM) :=
  chk v2 9 (nmM (wsI s 178 v2.toNatClampNeg (v1 + v0)) fun s_2 =>
  k3 (x4 + iI (1)) s_2)
def fM_weekGoes_J96 (k50 : Int32 → wM → Option (wM)) (k65 : Int32 → Int32 → Option (wM)) (x1 : Nat) (x4 : Int32) (x6 : Int32) (v0 : Int32) (v1 : Int32) (s : wM) : Option (wM) :=
  k65 (v1 + v0) (x6 + iI (1))
def fM_weekGoes_J146 (k50 : Int32 → wM → Option (wM)) (k108 : Int32 → wM → Option (wM)) (x1 : Nat) (x4 : Int32) (x5 : Int32) (x6 : Int32) (v0 : Int32) (s : wM) : Option (wM) :=
  chk x4 9 (nmM (wsI s 178 x4.toNatClampNeg ((s.1 178 x4.toNatClampNeg) - v0)) fun s_2 =>
  chk x6 9 (nmM (wsI s_2 178 x6.toNatClampNeg ((s_2.1 178 x6.toNatClampNeg) + v0)) fun s_4 =>
  k108 (x6 + iI (1)) s_4))
def fM_weekGoes_J178 (k50 : Int32 → wM → Option (wM)) (x1 : Nat) (x4 : Int32)  (s : wM) : Option (wM) :=
  k50 (x4 + iI (1)) s
def fM_weekGoes_L108 (k50 : Int32 → wM → Option (wM)) (x1 : Nat) (x4 : Int32) (x5 : Int32) : Int32 → wM → (Int32 → wM → Option (wM)) → Option (wM) := fun x6 s k108 =>
  if (s.1 161 3) ≤ x6 then
  (fM_weekGoes_J178 k50 x1 x4 s)
  else (chk x4 9 (if (s.1 x1 x4.toNatClampNeg) < x5 then
  (fM_weekGoes_J178 k50 x1 x4 s)
  else (if x6 = x4 then
  (fM_weekGoes_J146 k50 k108 x1 x4 x5 x6 (iI (0)) s)
  else ((fM_seeps s x1 x4 x6).bind fun q_6 =>
  fM_weekGoes_J146 k50 k108 x1 x4 x5 x6 q_6 s))))
def fM_weekGoes_L65 (k50 : Int32 → wM → Option (wM)) (x1 : Nat) (x4 : Int32) (s : wM) : Int32 → Int32 → (Int32 → Int32 → Option (wM)) → Option (wM) := fun x5 x6 k65 =>
  if (s.1 161 3) ≤ x6 then
  (wh2 (fM_weekGoes_L108 k50 x1 x4 x5) 100000 (iI (0)) s)
  else (if x6 = x4 then
  (fM_weekGoes_J96 k50 k65 x1 x4 x6 (iI (0)) x5 s)
  else ((fM_seeps s x1 x4 x6).bind fun q_4 =>
  fM_weekGoes_J96 k50 k65 x1 x4 x6 q_4 x5 s))
def fM_weekGoes_L192  (x1 : Nat) : Int32 → wM → (Int32 → wM → Option (wM)) → Option (wM) := fun x4 s k192 =>
  if (s.1 161 3) ≤ x4 then
  (some s)
  else (chk x4 9 (nmI ((s.1 x1 x4.toNatClampNeg) + (s.1 178 x4.toNatClampNeg)) fun y_3 =>
  nmM (wsI s 161 27 ((s.1 161 27) + (iMax (iI (0)) (y_3 - (iI (99)))))) fun s_4 =>
  nmM (wsI s_4 x1 x4.toNatClampNeg (iMax (iI (0)) (iMin (iI (99)) y_3))) fun s_5 =>
  k192 (x4 + iI (1)) s_5))
def fM_weekGoes_L50  (x1 : Nat) : Int32 → wM → (Int32 → wM → Option (wM)) → Option (wM) := fun x4 s k50 =>
  if (s.1 161 3) ≤ x4 then
  (nmM (wsI s 161 27 (iI (0))) fun s_2 =>
  wh2 (fM_weekGoes_L192 x1) 100000 (iI (0)) s_2)
  else (wh2 (fM_weekGoes_L65 k50 x1 x4 s) 100000 (iI (0)) (iI (0)))
def fM_weekGoes_L3  (x1 : Nat) (x2 : Int32) (x3 : Int32) : Int32 → wM → (Int32 → wM → Option (wM)) → Option (wM) := fun x4 s k3 =>
  if (s.1 161 3) ≤ x4 then
  (wh2 (fM_weekGoes_L50 x1) 100000 (iI (0)) s)
  else (chk x4 9 ((fM_has s x3 x4).bind fun q_4 =>
  if q_4 = iI 0 then
  (fM_weekGoes_J39 k3 x1 x2 x3 x4 (iI (0)) (s.1 164 x4.toNatClampNeg) x4 s)
  else (fM_weekGoes_J39 k3 x1 x2 x3 x4 x2 (s.1 164 x4.toNatClampNeg) x4 s)))
def fM_weekGoes (s : wM) (x1 : Nat) (x2 : Int32) (x3 : Int32) : Option (wM) :=
  wh2 (fM_weekGoes_L3 x1 x2 x3) 100000 (iI (0)) s
def fM_weekPays_L25   : Int32 → Int32 → wM → (Int32 → Int32 → wM → Option (Int32 × wM)) → Option (Int32 × wM) := fun x3 x4 s k25 =>
  if (s.1 161 3) ≤ x4 then
  (some (x3, s))
  else ((fM_evenWith s 163 x4).bind fun q_3 =>
  (fJ_bitCount s q_3).bind fun q_5 =>
  chk x4 9 (nmM (wsI s 167 x4.toNatClampNeg ((s.1 167 x4.toNatClampNeg) + ((s.1 168 (iI (1)).toNatClampNeg) * q_5))) fun s_7 =>
  nmI (x3 + ((s.1 168 (iI (1)).toNatClampNeg) * q_5)) fun y_8 =>
  k25 y_8 (x4 + iI (1)) s_7))
def fM_weekPays (s : wM) (x1 : Int32) (x2 : Int32) : Option (Int32 × wM) :=
  (fM_weekGoes s 163 x1 x2).bind fun q_2 =>
  nmM (wsI q_2 161 10 ((q_2.1 161 10) + (iI (1)))) fun s_3 =>
  wh3 (fM_weekPays_L25) 100000 (iI (0)) (iI (0)) s_3
def fM_week_J27    (s : wM) : Option (Int32 × wM) :=
  some ((iI (-1)), s)
def fM_week (s : wM) (x1 : Int32) (x2 : Int32) : Option (Int32 × wM) :=
  nmM (wsI s 161 0 (iI (0))) fun s_1 =>
  (fM_in s_1 x1.toInt64 (-9 : Int64) (9 : Int64)).bind fun q_3 =>
  if q_3 = iI 0 then
  (fM_week_J27 s_1)
  else ((fM_areBits s_1 x2).bind fun q_6 =>
  if q_6 = iI 0 then
  (fM_week_J27 s_1)
  else ((fM_putsBy s_1).bind fun q_9 =>
  (fM_weekPays q_9 x1 x2).bind fun q_11 =>
  (fM_adds q_11.2).bind fun q_13 =>
  nmM (wsI q_13 161 1 (iI (0))) fun s_14 =>
  (fM_enters s_14 q_11.1).bind fun q_16 =>
  (fM_enters q_16 (q_16.1 161 27)).bind fun q_18 =>
  (fM_evenPairs q_18 163).bind fun q_20 =>
  some (q_20, q_18)))
def fM_weeks_J62 (k30 : Int32 → Int32 → Int32 → wM → Option (Int32 × wM)) (x1 : Int32) (x2 : Int32) (x4 : Int32) (v0 : Int32) (v1 : Int32) (s : wM) : Option (Int32 × wM) :=
  (fM_flag s v0).bind fun q_2 =>
  k30 x2 (v1 + q_2) (x4 + iI (1)) s
def fM_weeks_J81  (x2 : Int32) (x3 : Int32)  (s : wM) : Option (Int32 × wM) :=
  nmM (wsI s 161 1 (iI (0))) fun s_1 =>
  (fM_enters s_1 x3).bind fun q_3 =>
  some (x2, q_3)
def fM_weeks_L30  (x1 : Int32) : Int32 → Int32 → Int32 → wM → (Int32 → Int32 → Int32 → wM → Option (Int32 × wM)) → Option (Int32 × wM) := fun x2 x3 x4 s k30 =>
  if x1 ≤ x4 then
  (if x1 ≤ iI 0 then
  (fM_weeks_J81 x2 x3 s)
  else ((fM_adds s).bind fun q_4 =>
  fM_weeks_J81 x2 x3 q_4))
  else ((fM_weekPays s (iI (0)) (iI (0))).bind fun q_6 =>
  (fM_evenPairs q_6.2 163).bind fun q_8 =>
  if q_8 = iI 0 then
  (fM_weeks_J62 k30 x1 (x2 + q_6.1) x4 (iI (1)) x3 q_6.2)
  else (fM_weeks_J62 k30 x1 (x2 + q_6.1) x4 (iI (0)) x3 q_6.2))
def fM_weeks (s : wM) (x1 : Int32) : Option (Int32 × wM) :=
  nmM (wsI s 161 0 (iI (0))) fun s_1 =>
  (fM_in s_1 x1.toInt64 (0 : Int64) (50 : Int64)).bind fun q_3 =>
  if q_3 = iI 0 then
  (some ((iI (-1)), s_1))
  else ((fM_putsBy s_1).bind fun q_6 =>
  wh4 (fM_weeks_L30 x1) 100000 (iI (0)) (iI (0)) (iI (0)) q_6)
def fM_even_J74 (k14 : Int32 → Int32 → wM → Option (Int32 × wM)) (k26 : Int32 → Int32 → wM → Option (Int32 × wM)) (x1 : Int32) (x2 : Int32) (x3 : Int32)  (s : wM) : Option (Int32 × wM) :=
  k26 x1 (x3 + iI (1)) s
def fM_even_J64 (k14 : Int32 → Int32 → wM → Option (Int32 × wM)) (k26 : Int32 → Int32 → wM → Option (Int32 × wM)) (x1 : Int32) (x2 : Int32) (x3 : Int32)  (s : wM) : Option (Int32 × wM) :=
  nmI (x1 ||| ((iShl (iI (1)) x2) ||| (iShl (iI (1)) x3))) fun y_1 =>
  fM_even_J74 k14 k26 y_1 x2 x3 s
def fM_even_L26 (k14 : Int32 → Int32 → wM → Option (Int32 × wM)) (x2 : Int32) : Int32 → Int32 → wM → (Int32 → Int32 → wM → Option (Int32 × wM)) → Option (Int32 × wM) := fun x1 x3 s k26 =>
  if (s.1 161 3) ≤ x3 then
  (k14 x1 (x2 + iI (1)) s)
  else ((fM_isEven s 163 x2 x3).bind fun q_3 =>
  if q_3 = iI 0 then
  (fM_even_J74 k14 k26 x1 x2 x3 s)
  else (if x1 = iI 0 then
  ((fM_enters s x2).bind fun q_7 =>
  (fM_enters q_7 x3).bind fun q_9 =>
  fM_even_J64 k14 k26 x1 x2 x3 q_9)
  else (fM_even_J64 k14 k26 x1 x2 x3 s)))
def fM_even_L14   : Int32 → Int32 → wM → (Int32 → Int32 → wM → Option (Int32 × wM)) → Option (Int32 × wM) := fun x1 x2 s k14 =>
  if (s.1 161 3) ≤ x2 then
  ((fM_enters s x1).bind fun q_3 =>
  (fM_evenPairs q_3 163).bind fun q_5 =>
  some (q_5, q_3))
  else (wh3 (fM_even_L26 k14 x2) 100000 x1 (x2 + (iI (1))) s)
def fM_even (s : wM)  : Option (Int32 × wM) :=
  nmM (wsI s 161 0 (iI (0))) fun s_1 =>
  nmM (wsI s_1 161 1 (iI (0))) fun s_2 =>
  wh3 (fM_even_L14) 100000 (iI (0)) (iI (0)) s_2
def fM_packed_L5  (x1 : Nat) (s : wM) : Int64 → Int32 → (Int64 → Int32 → Option (Int64)) → Option (Int64) := fun x2 x4 k5 =>
  if (s.1 161 3) ≤ x4 then
  (some x2)
  else (chk x4 9 (nmL ((lShl x2 (iI (7))) ||| (s.1 x1 x4.toNatClampNeg).toInt64) fun y_3 =>
  k5 y_3 (x4 + iI (1))))
def fM_packed (s : wM) (x1 : Nat) : Option (Int64) :=
  wh2 (fM_packed_L5 x1 s) 100000 (0 : Int64) (iI (0))
def fM_unpacks_L15   : Int64 → Int32 → wM → (Int64 → Int32 → wM → Option (wM)) → Option (wM) := fun x2 x4 s k15 =>
  if x4 < iI 0 then
  (some s)
  else (chk x4 9 (nmM (wsI s 184 x4.toNatClampNeg ((x2 &&& (127 : Int64)).toInt32)) fun s_3 =>
  k15 (lShr x2 (iI (7))) (x4 + iI (-1)) s_3))
def fM_unpacks (s : wM) (x1 : Int32) : Option (wM) :=
  chk x1 3000 (wh3 (fM_unpacks_L15) 100000 (s.2 179 x1.toNatClampNeg) ((s.1 161 3) - (iI (1))) s)
def fM_slotOf_J56  (x3 : Int32)  (s : wM) : Option (Int32) :=
  some x3
def fM_slotOf_L20  (x1 : Int64) (s : wM) : Int32 → (Int32 → Option (Int32)) → Option (Int32) := fun x3 k20 =>
  chk x3 16384 (if (s.1 183 x3.toNatClampNeg) < iI 0 then
  (fM_slotOf_J56 x3 s)
  else (chk (s.1 183 x3.toNatClampNeg) 3000 (if (lg_cmp (s.2 179 (s.1 183 x3.toNatClampNeg).toNatClampNeg) x1) = iI 0 then
  (fM_slotOf_J56 x3 s)
  else (k20 (iRem (x3 + (iI (1))) (iI (16384)))))))
def fM_slotOf (s : wM) (x1 : Int64) : Option (Int32) :=
  nmI ((lRem (((x1 ^^^ (lUshr x1 (iI (29)))) * (31 : Int64)) &&& (9223372036854775807 : Int64)) (16384 : Int64)).toInt32) fun y_1 =>
  wh1 (fM_slotOf_L20 x1 s) 100000 y_1
def fM_finds_J96  (x7 : Int32) (v0 : Int32) (v1 : Int32) (s : wM) : Option (wM) :=
  chk v1 3000 (nmM (wsI s 182 v1.toNatClampNeg v0) fun s_2 =>
  chk x7 16384 (nmM (wsI s_2 183 x7.toNatClampNeg (s_2.1 161 34)) fun s_4 =>
  nmM (wsI s_4 161 34 ((s_4.1 161 34) + (iI (1)))) fun s_5 =>
  some s_5))
def fM_finds (s : wM) (x1 : Nat) (x2 : Int32) (x3 : Int32) (x4 : Int32) : Option (wM) :=
  (fM_packed s x1).bind fun q_2 =>
  (fM_slotOf s q_2).bind fun q_4 =>
  chk q_4 16384 (if (s.1 183 q_4.toNatClampNeg) < iI 0 then
  (if (s.1 161 34) = x4 then
  (nmM (wsI s 161 35 (iI (1))) fun s_8 =>
  some s_8)
  else (chk (s.1 161 34) 3000 (nmM (wsL s 179 (s.1 161 34).toNatClampNeg q_2) fun s_10 =>
  chk (s_10.1 161 34) 3000 (nmM (wsI s_10 180 (s_10.1 161 34).toNatClampNeg x2) fun s_12 =>
  chk (s_12.1 161 34) 3000 (nmM (wsI s_12 181 (s_12.1 161 34).toNatClampNeg x3) fun s_14 =>
  if iI 0 ≤ x2 then
  (chk x2 3000 (fM_finds_J96 q_4 ((s_14.1 182 x2.toNatClampNeg) + (iI (1))) (s_14.1 161 34) s_14))
  else (fM_finds_J96 q_4 (iI (0)) (s_14.1 161 34) s_14))))))
  else (some s))
def fM_findsFirst_L2  (x1 : Nat) : Int32 → wM → (Int32 → wM → Option (wM)) → Option (wM) := fun x2 s k2 =>
  if (iI (16384)) ≤ x2 then
  (nmM (wsI s 161 34 (iI (0))) fun s_2 =>
  nmM (wsI s_2 161 35 (iI (0))) fun s_3 =>
  (fM_finds s_3 x1 (iI (-1)) (iI (-1)) (iI (1))).bind fun q_5 =>
  some q_5)
  else (chk x2 16384 (nmM (wsI s 183 x2.toNatClampNeg (iI (-1))) fun s_7 =>
  k2 (x2 + iI (1)) s_7))
def fM_findsFirst (s : wM) (x1 : Nat) : Option (wM) :=
  wh2 (fM_findsFirst_L2 x1) 100000 (iI (0)) s
def fM_findsFrom_J82 (k2 : Int32 → wM → Option (wM)) (k13 : Int32 → wM → Option (wM)) (x1 : Int32) (x2 : Int32) (x3 : Int32) (x4 : Int32)  (s : wM) : Option (wM) :=
  k13 (x4 + iI (1)) s
def fM_findsFrom_J88 (k2 : Int32 → wM → Option (wM)) (x1 : Int32) (x2 : Int32) (x3 : Int32)  (s : wM) : Option (wM) :=
  k2 (x3 + iI (1)) s
def fM_findsFrom_L13 (k2 : Int32 → wM → Option (wM)) (x1 : Int32) (x2 : Int32) (x3 : Int32) : Int32 → wM → (Int32 → wM → Option (wM)) → Option (wM) := fun x4 s k13 =>
  if (s.1 161 3) ≤ x4 then
  (fM_findsFrom_J88 k2 x1 x2 x3 s)
  else (if (s.1 161 35) = iI 0 then
  ((fM_unpacks s x1).bind fun q_4 =>
  if x3 = x4 then
  (fM_findsFrom_J82 k2 k13 x1 x2 x3 x4 q_4)
  else ((fM_canCarry q_4 184 x3 x4).bind fun q_7 =>
  if q_7 = iI 0 then
  (fM_findsFrom_J82 k2 k13 x1 x2 x3 x4 q_4)
  else ((fM_carries q_4 184 x3 x4).bind fun q_10 =>
  (fM_finds q_10 184 x1 (((iI (10)) * x3) + x4) x2).bind fun q_12 =>
  fM_findsFrom_J82 k2 k13 x1 x2 x3 x4 q_12)))
  else (fM_findsFrom_J88 k2 x1 x2 x3 s))
def fM_findsFrom_L2  (x1 : Int32) (x2 : Int32) : Int32 → wM → (Int32 → wM → Option (wM)) → Option (wM) := fun x3 s k2 =>
  if (s.1 161 3) ≤ x3 then
  (some s)
  else (wh2 (fM_findsFrom_L13 k2 x1 x2 x3) 100000 (iI (0)) s)
def fM_findsFrom (s : wM) (x1 : Int32) (x2 : Int32) : Option (wM) :=
  wh2 (fM_findsFrom_L2 x1 x2) 100000 (iI (0)) s
def fM_findsAll_J40 (k7 : Int32 → wM → Option (Int32 × wM)) (x2 : Int32) (x3 : Int32)  (s : wM) : Option (Int32 × wM) :=
  k7 (x3 + iI (1)) s
def fM_findsAll_J58   (v0 : Int32) (s : wM) : Option (Int32 × wM) :=
  chkZ v0 (some (v0, s))
def fM_findsAll_J46    (s : wM) : Option (Int32 × wM) :=
  if (s.1 161 35) = iI 0 then
  (fM_findsAll_J58 (iI (1)) s)
  else (fM_findsAll_J58 (iI (0)) s)
def fM_findsAll_L7  (x2 : Int32) : Int32 → wM → (Int32 → wM → Option (Int32 × wM)) → Option (Int32 × wM) := fun x3 s k7 =>
  if (s.1 161 34) ≤ x3 then
  (fM_findsAll_J46 s)
  else (if (s.1 161 35) = iI 0 then
  (chk x3 3000 (if x2 ≤ (s.1 182 x3.toNatClampNeg) then
  (fM_findsAll_J40 k7 x2 x3 s)
  else ((fM_findsFrom s x3 (iI (3000))).bind fun q_6 =>
  fM_findsAll_J40 k7 x2 x3 q_6)))
  else (fM_findsAll_J46 s))
def fM_findsAll (s : wM) (x1 : Nat) (x2 : Int32) : Option (Int32 × wM) :=
  (fM_findsFirst s x1).bind fun q_2 =>
  wh2 (fM_findsAll_L7 x2) 100000 (iI (0)) q_2
def fM_tellsWay_J83  (x2 : Int32)  (s : wM) : Option (Int32 × wM) :=
  some (x2, s)
def fM_tellsWay_L53  (x2 : Int32) : Int32 → wM → (Int32 → wM → Option (Int32 × wM)) → Option (Int32 × wM) := fun x4 s k53 =>
  if x2 ≤ x4 then
  (fM_tellsWay_J83 x2 s)
  else (if (iI (10)) ≤ x4 then
  (fM_tellsWay_J83 x2 s)
  else (chk x4 3000 ((fM_enters s (s.1 185 x4.toNatClampNeg)).bind fun q_5 =>
  k53 (x4 + iI (1)) q_5)))
def fM_tellsWay_L14  (x2 : Int32) : Int32 → Int32 → wM → (Int32 → Int32 → wM → Option (Int32 × wM)) → Option (Int32 × wM) := fun x3 x4 s k14 =>
  if x4 < iI 0 then
  (nmM (wsI s 161 1 (iI (0))) fun s_2 =>
  wh2 (fM_tellsWay_L53 x2) 100000 (iI (0)) s_2)
  else (chk x3 3000 (chk x4 3000 (nmM (wsI s 185 x4.toNatClampNeg (s.1 181 x3.toNatClampNeg)) fun s_5 =>
  k14 (s_5.1 180 x3.toNatClampNeg) (x4 + iI (-1)) s_5)))
def fM_tellsWay (s : wM) (x1 : Int32) : Option (Int32 × wM) :=
  chk x1 3000 (wh3 (fM_tellsWay_L14 (s.1 182 x1.toNatClampNeg)) 100000 x1 ((s.1 182 x1.toNatClampNeg) - (iI (1))) s)
def fM_reach_J79 (k43 : Int32 → Int32 → Int32 → wM → Option (Int32 × wM)) (x3 : Int32) (x4 : Int32) (x5 : Int32) (v0 : Int32) (v1 : Int32) (s : wM) : Option (Int32 × wM) :=
  (fM_flag s v0).bind fun q_2 =>
  k43 (v1 + q_2) (iMin x3 x5) (x4 + iI (1)) s
def fM_reach_L43   : Int32 → Int32 → Int32 → wM → (Int32 → Int32 → Int32 → wM → Option (Int32 × wM)) → Option (Int32 × wM) := fun x2 x3 x4 s k43 =>
  if (s.1 161 34) ≤ x4 then
  (nmM (wsI s 161 1 (iI (0))) fun s_2 =>
  (fM_enters s_2 x2).bind fun q_4 =>
  (fM_enters q_4 x3).bind fun q_6 =>
  some ((q_6.1 161 34), q_6))
  else ((fM_unpacks s x4).bind fun q_8 =>
  (fM_evenPairs q_8 184).bind fun q_10 =>
  if q_10 = iI 0 then
  (fM_reach_J79 k43 x3 x4 q_10 (iI (1)) x2 q_8)
  else (fM_reach_J79 k43 x3 x4 q_10 (iI (0)) x2 q_8))
def fM_reach (s : wM) (x1 : Int32) : Option (Int32 × wM) :=
  nmM (wsI s 161 0 (iI (0))) fun s_1 =>
  (fM_in s_1 x1.toInt64 (0 : Int64) (4 : Int64)).bind fun q_3 =>
  if q_3 = iI 0 then
  (some ((iI (-1)), s_1))
  else ((fM_findsAll s_1 163 x1).bind fun q_6 =>
  if q_6.1 = iI 0 then
  (some ((iI (-3)), q_6.2))
  else (wh4 (fM_reach_L43) 100000 (iI (0)) (2147483647 : Int32) (iI (0)) q_6.2))
def fM_fewestTo_J99 (k16 : Int32 → Int32 → Int32 → wM → Option (Int32 × wM)) (k29 : Int32 → Int32 → wM → Option (Int32 × wM)) (x1 : Int32) (x2 : Int32) (x4 : Int32) (x5 : Int32) (v0 : Int32) (s : wM) : Option (Int32 × wM) :=
  k29 v0 (x4 + iI (1)) s
def fM_fewestTo_J86 (k16 : Int32 → Int32 → Int32 → wM → Option (Int32 × wM)) (k29 : Int32 → Int32 → wM → Option (Int32 × wM)) (x1 : Int32) (x2 : Int32) (x3 : Int32) (x4 : Int32) (x5 : Int32) (v0 : Int32) (s : wM) : Option (Int32 × wM) :=
  if v0 = iI 0 then
  (fM_fewestTo_J99 k16 k29 x1 x2 x4 x5 x3 s)
  else (fM_fewestTo_J99 k16 k29 x1 x2 x4 x5 x4 s)
def fM_fewestTo_J126 (k16 : Int32 → Int32 → Int32 → wM → Option (Int32 × wM)) (x1 : Int32) (x2 : Int32) (x3 : Int32) (x4 : Int32) (x5 : Int32)  (s : wM) : Option (Int32 × wM) :=
  k16 x3 x4 (x5 + iI (1)) s
def fM_fewestTo_J106 (k16 : Int32 → Int32 → Int32 → wM → Option (Int32 × wM)) (x1 : Int32) (x2 : Int32) (x3 : Int32) (x4 : Int32) (x5 : Int32)  (s : wM) : Option (Int32 × wM) :=
  if iI 0 ≤ x3 then
  (fM_fewestTo_J126 k16 x1 x2 x3 x4 x5 s)
  else (if (s.1 161 35) = iI 0 then
  ((fM_findsFrom s x5 (iI (3000))).bind fun q_4 =>
  fM_fewestTo_J126 k16 x1 x2 x3 x4 x5 q_4)
  else (fM_fewestTo_J126 k16 x1 x2 x3 x4 x5 s))
def fM_fewestTo_L29 (k16 : Int32 → Int32 → Int32 → wM → Option (Int32 × wM)) (x1 : Int32) (x2 : Int32) (x5 : Int32) : Int32 → Int32 → wM → (Int32 → Int32 → wM → Option (Int32 × wM)) → Option (Int32 × wM) := fun x3 x4 s k29 =>
  if (s.1 161 34) ≤ x4 then
  (fM_fewestTo_J106 k16 x1 x2 x3 x4 x5 s)
  else (if iI 0 ≤ x3 then
  (fM_fewestTo_J106 k16 x1 x2 x3 x4 x5 s)
  else ((fM_unpacks s x4).bind fun q_4 =>
  if iI 0 ≤ x1 then
  (chk x1 9 (if (q_4.1 184 x1.toNatClampNeg) < x2 then
  (fM_fewestTo_J86 k16 k29 x1 x2 x3 x4 x5 (iI (0)) q_4)
  else (fM_fewestTo_J86 k16 k29 x1 x2 x3 x4 x5 (iI (1)) q_4)))
  else ((fM_evenPairs q_4 184).bind fun q_9 =>
  if q_9 = iI 0 then
  (fM_fewestTo_J86 k16 k29 x1 x2 x3 x4 x5 (iI (1)) q_4)
  else (fM_fewestTo_J86 k16 k29 x1 x2 x3 x4 x5 (iI (0)) q_4))))
def fM_fewestTo_J150   (v0 : Int32) (s : wM) : Option (Int32 × wM) :=
  some (v0, s)
def fM_fewestTo_J132  (x3 : Int32)  (s : wM) : Option (Int32 × wM) :=
  if iI 0 ≤ x3 then
  ((fM_tellsWay s x3).bind fun q_3 =>
  some (q_3.1, q_3.2))
  else (if (s.1 161 35) = iI 0 then
  (fM_fewestTo_J150 (iI (-2)) s)
  else (fM_fewestTo_J150 (iI (-3)) s))
def fM_fewestTo_L16  (x1 : Int32) (x2 : Int32) : Int32 → Int32 → Int32 → wM → (Int32 → Int32 → Int32 → wM → Option (Int32 × wM)) → Option (Int32 × wM) := fun x3 x4 x5 s k16 =>
  if iI 0 ≤ x3 then
  (fM_fewestTo_J132 x3 s)
  else (if (s.1 161 34) ≤ x5 then
  (fM_fewestTo_J132 x3 s)
  else (wh3 (fM_fewestTo_L29 k16 x1 x2 x5) 100000 x3 x4 s))
def fM_fewestTo (s : wM) (x1 : Int32) (x2 : Int32) : Option (Int32 × wM) :=
  (fM_findsFirst s 163).bind fun q_2 =>
  wh4 (fM_fewestTo_L16 x1 x2) 100000 (iI (-1)) (iI (0)) (iI (0)) q_2
def fM_fewest (s : wM)  : Option (Int32 × wM) :=
  nmM (wsI s 161 0 (iI (0))) fun s_1 =>
  (fM_fewestTo s_1 (iI (-1)) (iI (0))).bind fun q_3 =>
  some (q_3.1, q_3.2)
def fM_fill_J35   (v0 : Int32) (s : wM) : Option (Int32 × wM) :=
  some (v0, s)
def fM_fill_J34    (s : wM) : Option (Int32 × wM) :=
  fM_fill_J35 (iI (-1)) s
def fM_fill (s : wM) (x1 : Int32) (x2 : Int32) : Option (Int32 × wM) :=
  nmM (wsI s 161 0 (iI (0))) fun s_1 =>
  (fM_isFarm s_1 x1).bind fun q_3 =>
  if q_3 = iI 0 then
  (fM_fill_J34 s_1)
  else ((fM_in s_1 x2.toInt64 (0 : Int64) (99 : Int64)).bind fun q_6 =>
  if q_6 = iI 0 then
  (fM_fill_J34 s_1)
  else ((fM_fewestTo s_1 x1 x2).bind fun q_9 =>
  fM_fill_J35 q_9.1 q_9.2))
def fM_bestFor_J128 (k20 : Int32 → Int32 → wM → Option (Int32 × wM)) (x1 : Int32) (x2 : Int32) (x3 : Int32)  (s : wM) : Option (Int32 × wM) :=
  k20 x2 (x3 + iI (1)) s
def fM_bestFor_J114 (k20 : Int32 → Int32 → wM → Option (Int32 × wM)) (x1 : Int32) (x3 : Int32) (x4 : Int32) (v0 : Int32) (s : wM) : Option (Int32 × wM) :=
  nmM (wsI s 161 37 (iMin (s.1 161 37) x4)) fun s_1 =>
  fM_bestFor_J128 k20 x1 v0 x3 s_1
def fM_bestFor_L20  (x1 : Int32) : Int32 → Int32 → wM → (Int32 → Int32 → wM → Option (Int32 × wM)) → Option (Int32 × wM) := fun x2 x3 s k20 =>
  if (s.1 161 3) ≤ x3 then
  (some (x2, s))
  else (if x3 = x1 then
  (fM_bestFor_J128 k20 x1 x2 x3 s)
  else ((fM_canCarry s 163 x1 x3).bind fun q_4 =>
  if q_4 = iI 0 then
  (fM_bestFor_J128 k20 x1 x2 x3 s)
  else ((fM_carries s 163 x1 x3).bind fun q_7 =>
  (fM_evenWith q_7 163 x1).bind fun q_9 =>
  (fJ_bitCount q_7 q_9).bind fun q_11 =>
  chk x1 9 (nmM (wsI q_7 163 x1.toNatClampNeg ((q_7.1 163 x1.toNatClampNeg) + (q_7.1 168 (iI (2)).toNatClampNeg))) fun s_13 =>
  chk x3 9 (nmM (wsI s_13 163 x3.toNatClampNeg ((s_13.1 163 x3.toNatClampNeg) - (s_13.1 168 (iI (2)).toNatClampNeg))) fun s_15 =>
  if (s_15.1 161 37) ≤ q_11 then
  (fM_bestFor_J114 k20 x1 x3 q_11 x2 s_15)
  else (fM_bestFor_J114 k20 x1 x3 q_11 x3 s_15))))))
def fM_bestFor (s : wM) (x1 : Int32) : Option (Int32 × wM) :=
  (fM_evenWith s 163 x1).bind fun q_2 =>
  (fJ_bitCount s q_2).bind fun q_4 =>
  nmM (wsI s 161 37 q_4) fun s_5 =>
  wh3 (fM_bestFor_L20 x1) 100000 (iI (-1)) (iI (0)) s_5
def fM_selfish (s : wM) (x1 : Int32) : Option (Int32 × wM) :=
  nmM (wsI s 161 0 (iI (0))) fun s_1 =>
  (fM_isFarm s_1 x1).bind fun q_3 =>
  if q_3 = iI 0 then
  (some ((iI (-2)), s_1))
  else ((fM_bestFor s_1 x1).bind fun q_6 =>
  nmM (wsI q_6.2 161 1 (iI (0))) fun s_7 =>
  (fM_enters s_7 (s_7.1 161 37)).bind fun q_9 =>
  some (q_6.1, q_9))
def fM_rests_J86 (k30 : Int32 → Int32 → Int32 → wM → Option (Int32 × wM)) (k46 : Int32 → Int32 → Int32 → wM → Option (Int32 × wM)) (x1 : Int32) (x2 : Int32) (x3 : Int32) (x4 : Int32) (x5 : Int32)  (s : wM) : Option (Int32 × wM) :=
  k46 x3 x4 (x5 + iI (1)) s
def fM_rests_L46 (k30 : Int32 → Int32 → Int32 → wM → Option (Int32 × wM)) (x1 : Int32) (x2 : Int32) : Int32 → Int32 → Int32 → wM → (Int32 → Int32 → Int32 → wM → Option (Int32 × wM)) → Option (Int32 × wM) := fun x3 x4 x5 s k46 =>
  if (s.1 161 3) ≤ x5 then
  (k30 (x2 + iI (1)) x3 x4 s)
  else ((fM_bestFor s x5).bind fun q_3 =>
  if q_3.1 < iI 0 then
  (fM_rests_J86 k30 k46 x1 x2 x3 x4 x5 q_3.2)
  else ((fM_carries q_3.2 163 x5 q_3.1).bind fun q_6 =>
  fM_rests_J86 k30 k46 x1 x2 (x3 + iI (1)) (iI (0)) x5 q_6))
def fM_rests_J106  (x2 : Int32) (x4 : Int32)  (s : wM) : Option (Int32 × wM) :=
  nmM (wsI s 161 1 (iI (0))) fun s_1 =>
  (fM_flag s_1 x4).bind fun q_3 =>
  (fM_enters s_1 q_3).bind fun q_5 =>
  (fM_evenPairs q_5 163).bind fun q_7 =>
  (fM_enters q_5 q_7).bind fun q_9 =>
  some (x2, q_9)
def fM_rests_J98  (x2 : Int32) (x3 : Int32) (x4 : Int32)  (s : wM) : Option (Int32 × wM) :=
  if x3 ≤ iI 0 then
  (fM_rests_J106 x2 x4 s)
  else ((fM_adds s).bind fun q_3 =>
  fM_rests_J106 x2 x4 q_3)
def fM_rests_L30  (x1 : Int32) : Int32 → Int32 → Int32 → wM → (Int32 → Int32 → Int32 → wM → Option (Int32 × wM)) → Option (Int32 × wM) := fun x2 x3 x4 s k30 =>
  if x1 ≤ x2 then
  (fM_rests_J98 x2 x3 x4 s)
  else (if x4 = iI 0 then
  (wh4 (fM_rests_L46 k30 x1 x2) 100000 x3 (iI (1)) (iI (0)) s)
  else (fM_rests_J98 x2 x3 x4 s))
def fM_rests (s : wM) (x1 : Int32) : Option (Int32 × wM) :=
  nmM (wsI s 161 0 (iI (0))) fun s_1 =>
  (fM_in s_1 x1.toInt64 (0 : Int64) (40 : Int64)).bind fun q_3 =>
  if q_3 = iI 0 then
  (some ((iI (-1)), s_1))
  else ((fM_putsBy s_1).bind fun q_6 =>
  wh4 (fM_rests_L30 x1) 100000 (iI (0)) (iI (0)) (iI (0)) q_6)
def fM_alter_J92 (k27 : Int32 → Int32 → wM → Option (Int32 × wM)) (x1 : Int32) (x2 : Int32) (x4 : Int32) (v0 : Int32) (s : wM) : Option (Int32 × wM) :=
  k27 v0 (x4 + iI (1)) s
def fM_alter_J79 (k27 : Int32 → Int32 → wM → Option (Int32 × wM)) (x1 : Int32) (x2 : Int32) (x3 : Int32) (x4 : Int32) (v0 : Int32) (s : wM) : Option (Int32 × wM) :=
  if v0 = iI 0 then
  (fM_alter_J92 k27 x1 x2 x4 x3 s)
  else (fM_alter_J92 k27 x1 x2 x4 x4 s)
def fM_alter_J74 (k27 : Int32 → Int32 → wM → Option (Int32 × wM)) (x1 : Int32) (x2 : Int32) (x3 : Int32) (x4 : Int32)  (s : wM) : Option (Int32 × wM) :=
  fM_alter_J79 k27 x1 x2 x3 x4 (iI (1)) s
def fM_alter_J78 (k27 : Int32 → Int32 → wM → Option (Int32 × wM)) (x1 : Int32) (x2 : Int32) (x3 : Int32) (x4 : Int32)  (s : wM) : Option (Int32 × wM) :=
  fM_alter_J79 k27 x1 x2 x3 x4 (iI (0)) s
def fM_alter_L27  (x1 : Int32) (x2 : Int32) : Int32 → Int32 → wM → (Int32 → Int32 → wM → Option (Int32 × wM)) → Option (Int32 × wM) := fun x3 x4 s k27 =>
  if (iI (99)) < x4 then
  (chk x1 9 (nmM (wsI s 163 x1.toNatClampNeg x2) fun s_3 =>
  if iI 0 ≤ x3 then
  (nmM (wsI s_3 161 1 (iI (0))) fun s_5 =>
  (fM_enters s_5 x3).bind fun q_7 =>
  some ((iAbs (x3 - x2)), q_7))
  else (some ((iI (-2)), s_3))))
  else (chk x1 9 (nmM (wsI s 163 x1.toNatClampNeg x4) fun s_9 =>
  (fM_evenWith s_9 163 x1).bind fun q_11 =>
  if q_11 = iI 0 then
  (if x3 < iI 0 then
  (fM_alter_J74 k27 x1 x2 x3 x4 s_9)
  else (if (iAbs (x3 - x2)) ≤ (iAbs (x4 - x2)) then
  (fM_alter_J78 k27 x1 x2 x3 x4 s_9)
  else (fM_alter_J74 k27 x1 x2 x3 x4 s_9)))
  else (fM_alter_J78 k27 x1 x2 x3 x4 s_9)))
def fM_alter (s : wM) (x1 : Int32) : Option (Int32 × wM) :=
  nmM (wsI s 161 0 (iI (0))) fun s_1 =>
  (fM_isFarm s_1 x1).bind fun q_3 =>
  if q_3 = iI 0 then
  (some ((iI (-1)), s_1))
  else (chk x1 9 (wh3 (fM_alter_L27 x1 (s_1.1 163 x1.toNatClampNeg)) 100000 (iI (-1)) (iI (0)) s_1))
def fM_paints_J73 (rec : wM → Int32 → Int32 → Int32 → Option (Int32 × wM)) (k13 : Int32 → wM → Option (Int32 × wM)) (k31 : Int32 → Int32 → Option (Int32 × wM)) (x1 : Int32) (x2 : Int32) (x3 : Int32) (x4 : Int32) (x6 : Int32) (v0 : Int32) (s : wM) : Option (Int32 × wM) :=
  k31 v0 (x6 + iI (1))
def fM_paints_J68 (rec : wM → Int32 → Int32 → Int32 → Option (Int32 × wM)) (k13 : Int32 → wM → Option (Int32 × wM)) (k31 : Int32 → Int32 → Option (Int32 × wM)) (x1 : Int32) (x2 : Int32) (x3 : Int32) (x4 : Int32) (x6 : Int32)  (s : wM) : Option (Int32 × wM) :=
  fM_paints_J73 rec k13 k31 x1 x2 x3 x4 x6 (iI (1)) s
def fM_paints_J72 (rec : wM → Int32 → Int32 → Int32 → Option (Int32 × wM)) (k13 : Int32 → wM → Option (Int32 × wM)) (k31 : Int32 → Int32 → Option (Int32 × wM)) (x1 : Int32) (x2 : Int32) (x3 : Int32) (x4 : Int32) (x6 : Int32)  (s : wM) : Option (Int32 × wM) :=
  fM_paints_J73 rec k13 k31 x1 x2 x3 x4 x6 (iI (0)) s
def fM_paints_J115 (rec : wM → Int32 → Int32 → Int32 → Option (Int32 × wM)) (k13 : Int32 → wM → Option (Int32 × wM)) (x1 : Int32) (x2 : Int32) (x3 : Int32) (x4 : Int32)  (s : wM) : Option (Int32 × wM) :=
  k13 (x4 + iI (1)) s
def fM_paints_L31 (rec : wM → Int32 → Int32 → Int32 → Option (Int32 × wM)) (k13 : Int32 → wM → Option (Int32 × wM)) (x1 : Int32) (x2 : Int32) (x3 : Int32) (x4 : Int32) (s : wM) : Int32 → Int32 → (Int32 → Int32 → Option (Int32 × wM)) → Option (Int32 × wM) := fun x5 x6 k31 =>
  if x1 ≤ x6 then
  (if x5 = iI 0 then
  (fM_paints_J115 rec k13 x1 x2 x3 x4 s)
  else (chk x1 9 (nmM (wsI s 186 x1.toNatClampNeg x4) fun s_4 =>
  (rec s_4 (x1 + (iI (1))) (iMax x2 (x4 + (iI (1)))) x3).bind fun q_6 =>
  if q_6.1 = iI 0 then
  (fM_paints_J115 rec k13 x1 x2 x3 x4 q_6.2)
  else (some ((iI (1)), q_6.2)))))
  else (if x5 = iI 0 then
  (fM_paints_J72 rec k13 k31 x1 x2 x3 x4 x6 s)
  else (chk x1 9 ((fM_has s (s.1 165 x1.toNatClampNeg) x6).bind fun q_11 =>
  if q_11 = iI 0 then
  (fM_paints_J68 rec k13 k31 x1 x2 x3 x4 x6 s)
  else (chk x6 9 (if (s.1 186 x6.toNatClampNeg) = x4 then
  (fM_paints_J72 rec k13 k31 x1 x2 x3 x4 x6 s)
  else (fM_paints_J68 rec k13 k31 x1 x2 x3 x4 x6 s))))))
def fM_paints_J121 (rec : wM → Int32 → Int32 → Int32 → Option (Int32 × wM))    (s : wM) : Option (Int32 × wM) :=
  some ((iI (0)), s)
def fM_paints_L13 (rec : wM → Int32 → Int32 → Int32 → Option (Int32 × wM))  (x1 : Int32) (x2 : Int32) (x3 : Int32) : Int32 → wM → (Int32 → wM → Option (Int32 × wM)) → Option (Int32 × wM) := fun x4 s k13 =>
  if x2 < x4 then
  (fM_paints_J121 rec s)
  else (if x3 ≤ x4 then
  (fM_paints_J121 rec s)
  else (wh2 (fM_paints_L31 rec k13 x1 x2 x3 x4 s) 100000 (iI (1)) (iI (0))))
def fM_paints_B (rec : wM → Int32 → Int32 → Int32 → Option (Int32 × wM)) (s : wM) (x1 : Int32) (x2 : Int32) (x3 : Int32) : Option (Int32 × wM) :=
  if x1 = (s.1 161 3) then
  (some ((iI (1)), s))
  else (wh2 (fM_paints_L13 rec x1 x2 x3) 100000 (iI (0)) s)
def fM_paints : Nat → wM → Int32 → Int32 → Int32 → Option (Int32 × wM)
  | 0, _, _, _, _ => none
  | n + 1, s, a, b, c => fM_paints_B (fM_paints n) s a b c
def fM_paintsAll_L16   : Int32 → wM → (Int32 → wM → Option (Int32 × wM)) → Option (Int32 × wM) := fun x1 s k16 =>
  (fM_paints 12 s (iI (0)) (iI (0)) x1).bind fun q_2 =>
  if q_2.1 = iI 0 then
  (k16 (x1 + iI (1)) q_2.2)
  else (some (x1, q_2.2))
def fM_paintsAll_J12   (v0 : Int32) (s : wM) : Option (Int32 × wM) :=
  (fM_flag s v0).bind fun q_2 =>
  wh2 (fM_paintsAll_L16) 100000 q_2 s
def fM_paintsAll (s : wM)  : Option (Int32 × wM) :=
  if (s.1 161 3) ≤ iI 0 then
  (fM_paintsAll_J12 (iI (0)) s)
  else (fM_paintsAll_J12 (iI (1)) s)
def fM_colours_L17  (x1 : Int32) : Int32 → wM → (Int32 → wM → Option (Int32 × wM)) → Option (Int32 × wM) := fun x2 s k17 =>
  if (s.1 161 3) ≤ x2 then
  (some (x1, s))
  else (chk x2 9 ((fM_enters s (s.1 186 x2.toNatClampNeg)).bind fun q_4 =>
  k17 (x2 + iI (1)) q_4))
def fM_colours (s : wM)  : Option (Int32 × wM) :=
  nmM (wsI s 161 0 (iI (0))) fun s_1 =>
  (fM_paintsAll s_1).bind fun q_3 =>
  nmM (wsI q_3.2 161 1 (iI (0))) fun s_4 =>
  wh2 (fM_colours_L17 q_3.1) 100000 (iI (0)) s_4
def fM_clique_J84 (k9 : Int32 → Int32 → Option (Int32 × wM)) (k39 : Int32 → Int32 → Option (Int32 × wM)) (x1 : Int32) (x2 : Int32) (x4 : Int32) (v0 : Int32) (s : wM) : Option (Int32 × wM) :=
  k39 v0 (x4 + iI (1))
def fM_clique_J79 (k9 : Int32 → Int32 → Option (Int32 × wM)) (k39 : Int32 → Int32 → Option (Int32 × wM)) (x1 : Int32) (x2 : Int32) (x4 : Int32)  (s : wM) : Option (Int32 × wM) :=
  fM_clique_J84 k9 k39 x1 x2 x4 (iI (1)) s
def fM_clique_J100 (k9 : Int32 → Int32 → Option (Int32 × wM)) (x2 : Int32) (v0 : Int32) (s : wM) : Option (Int32 × wM) :=
  k9 v0 (x2 + iI (1))
def fM_clique_J91 (k9 : Int32 → Int32 → Option (Int32 × wM)) (x1 : Int32) (x2 : Int32) (x3 : Int32)  (s : wM) : Option (Int32 × wM) :=
  if x3 = iI 0 then
  (fM_clique_J100 k9 x2 x1 s)
  else (fM_clique_J100 k9 x2 x2 s)
def fM_clique_L39 (k9 : Int32 → Int32 → Option (Int32 × wM)) (x1 : Int32) (x2 : Int32) (s : wM) : Int32 → Int32 → (Int32 → Int32 → Option (Int32 × wM)) → Option (Int32 × wM) := fun x3 x4 k39 =>
  if (s.1 161 3) ≤ x4 then
  (fM_clique_J91 k9 x1 x2 x3 s)
  else (if x3 = iI 0 then
  (fM_clique_J91 k9 x1 x2 x3 s)
  else ((fM_has s x2 x4).bind fun q_4 =>
  if q_4 = iI 0 then
  (fM_clique_J79 k9 k39 x1 x2 x4 s)
  else (chk x4 9 (if (x2 &&& ((s.1 165 x4.toNatClampNeg) ^^^ (iI (-1)))) = (iShl (iI (1)) x4) then
  (fM_clique_J79 k9 k39 x1 x2 x4 s)
  else (fM_clique_J84 k9 k39 x1 x2 x4 (iI (0)) s)))))
def fM_clique_J35 (k9 : Int32 → Int32 → Option (Int32 × wM)) (x1 : Int32) (x2 : Int32) (v0 : Int32) (s : wM) : Option (Int32 × wM) :=
  wh2 (fM_clique_L39 k9 x1 x2 s) 100000 v0 (iI (0))
def fM_clique_L9   (s : wM) : Int32 → Int32 → (Int32 → Int32 → Option (Int32 × wM)) → Option (Int32 × wM) := fun x1 x2 k9 =>
  if (iShl (iI (1)) (s.1 161 3)) ≤ x2 then
  (nmM (wsI s 161 1 (iI (0))) fun s_2 =>
  (fM_enters s_2 x1).bind fun q_4 =>
  (fJ_bitCount q_4 x1).bind fun q_6 =>
  some (q_6, q_4))
  else ((fJ_bitCount s x2).bind fun q_8 =>
  (fJ_bitCount s x1).bind fun q_10 =>
  if q_8 ≤ q_10 then
  (fM_clique_J35 k9 x1 x2 (iI (0)) s)
  else (fM_clique_J35 k9 x1 x2 (iI (1)) s))
def fM_clique (s : wM)  : Option (Int32 × wM) :=
  nmM (wsI s 161 0 (iI (0))) fun s_1 =>
  wh2 (fM_clique_L9 s_1) 100000 (iI (0)) (iI (1))
def fM_lowest_J69   (v0 : Int32) (s : wM) : Option (Int32 × wM) :=
  some (v0, s)
def fM_lowest_L17  (x1 : Int32) : Int32 → wM → (Int32 → wM → Option (Int32 × wM)) → Option (Int32 × wM) := fun x2 s k17 =>
  if (s.1 161 3) ≤ x2 then
  (if (s.1 161 3) = iI 0 then
  (fM_lowest_J69 (iI (0)) s)
  else (fM_lowest_J69 ((s.1 168 (iI (0)).toNatClampNeg) * (x1 - (iI (1)))) s))
  else (chk x2 9 ((fM_enters s ((s.1 168 (iI (0)).toNatClampNeg) * (s.1 186 x2.toNatClampNeg))).bind fun q_5 =>
  k17 (x2 + iI (1)) q_5))
def fM_lowest (s : wM)  : Option (Int32 × wM) :=
  nmM (wsI s 161 0 (iI (0))) fun s_1 =>
  (fM_paintsAll s_1).bind fun q_3 =>
  nmM (wsI q_3.2 161 1 (iI (0))) fun s_4 =>
  wh2 (fM_lowest_L17 q_3.1) 100000 (iI (0)) s_4
def fM_place_J88 (k25 : Int32 → Int32 → Int32 → Int32 → Option (Int32 × wM)) (k38 : Int32 → Int32 → Option (Int32 × wM)) (x1 : Int32) (x2 : Int32) (x3 : Int32) (x4 : Int32) (x5 : Int32) (x7 : Int32) (v0 : Int32) (s : wM) : Option (Int32 × wM) :=
  k38 v0 (x7 + iI (1))
def fM_place_J83 (k25 : Int32 → Int32 → Int32 → Int32 → Option (Int32 × wM)) (k38 : Int32 → Int32 → Option (Int32 × wM)) (x1 : Int32) (x2 : Int32) (x3 : Int32) (x4 : Int32) (x5 : Int32) (x7 : Int32)  (s : wM) : Option (Int32 × wM) :=
  fM_place_J88 k25 k38 x1 x2 x3 x4 x5 x7 (iI (1)) s
def fM_place_J87 (k25 : Int32 → Int32 → Int32 → Int32 → Option (Int32 × wM)) (k38 : Int32 → Int32 → Option (Int32 × wM)) (x1 : Int32) (x2 : Int32) (x3 : Int32) (x4 : Int32) (x5 : Int32) (x7 : Int32)  (s : wM) : Option (Int32 × wM) :=
  fM_place_J88 k25 k38 x1 x2 x3 x4 x5 x7 (iI (0)) s
def fM_place_J119 (k25 : Int32 → Int32 → Int32 → Int32 → Option (Int32 × wM)) (x1 : Int32) (x2 : Int32) (x3 : Int32) (x4 : Int32) (x5 : Int32)  (s : wM) : Option (Int32 × wM) :=
  k25 x2 x3 x4 (x5 + iI (1))
def fM_place_J111 (k25 : Int32 → Int32 → Int32 → Int32 → Option (Int32 × wM)) (x1 : Int32) (x2 : Int32) (x5 : Int32) (v0 : Int32) (s : wM) : Option (Int32 × wM) :=
  fM_place_J119 k25 x1 (x2 + iI (1)) v0 x5 x5 s
def fM_place_L38 (k25 : Int32 → Int32 → Int32 → Int32 → Option (Int32 × wM)) (x1 : Int32) (x2 : Int32) (x3 : Int32) (x4 : Int32) (x5 : Int32) (s : wM) : Int32 → Int32 → (Int32 → Int32 → Option (Int32 × wM)) → Option (Int32 × wM) := fun x6 x7 k38 =>
  if (s.1 161 3) ≤ x7 then
  (if x6 = iI 0 then
  (fM_place_J119 k25 x1 x2 x3 x4 x5 s)
  else (if x2 = iI 0 then
  (fM_place_J111 k25 x1 x2 x5 x5 s)
  else (fM_place_J111 k25 x1 x2 x5 x3 s)))
  else (if x6 = iI 0 then
  (fM_place_J87 k25 k38 x1 x2 x3 x4 x5 x7 s)
  else ((fM_has s x1 x7).bind fun q_6 =>
  if q_6 = iI 0 then
  (fM_place_J83 k25 k38 x1 x2 x3 x4 x5 x7 s)
  else (chk x7 9 (if (iAbs ((s.1 163 x7.toNatClampNeg) - x5)) < (s.1 168 (iI (0)).toNatClampNeg) then
  (fM_place_J87 k25 k38 x1 x2 x3 x4 x5 x7 s)
  else (fM_place_J83 k25 k38 x1 x2 x3 x4 x5 x7 s)))))
def fM_place_J145  (x2 : Int32)  (s : wM) : Option (Int32 × wM) :=
  some (x2, s)
def fM_place_L25  (x1 : Int32) (s : wM) : Int32 → Int32 → Int32 → Int32 → (Int32 → Int32 → Int32 → Int32 → Option (Int32 × wM)) → Option (Int32 × wM) := fun x2 x3 x4 x5 k25 =>
  if (iI (99)) < x5 then
  (nmM (wsI s 161 1 (iI (0))) fun s_2 =>
  if x2 ≤ iI 0 then
  (fM_place_J145 x2 s_2)
  else ((fM_enters s_2 x3).bind fun q_5 =>
  (fM_enters q_5 x4).bind fun q_7 =>
  fM_place_J145 x2 q_7))
  else (wh2 (fM_place_L38 k25 x1 x2 x3 x4 x5 s) 100000 (iI (1)) (iI (0)))
def fM_place (s : wM) (x1 : Int32) : Option (Int32 × wM) :=
  nmM (wsI s 161 0 (iI (0))) fun s_1 =>
  (fM_areBits s_1 x1).bind fun q_3 =>
  if q_3 = iI 0 then
  (some ((iI (-1)), s_1))
  else (wh4 (fM_place_L25 x1 s_1) 100000 (iI (0)) (iI (0)) (iI (0)) (iI (0)))
def fM_startsThen_L2   : Int32 → wM → (Int32 → wM → Option (wM)) → Option (wM) := fun x1 s k2 =>
  if (iI (9)) ≤ x1 then
  (some s)
  else (chk x1 9 (nmM (wsI s 187 x1.toNatClampNeg (s.1 163 x1.toNatClampNeg)) fun s_3 =>
  k2 (x1 + iI (1)) s_3))
def fM_startsThen (s : wM)  : Option (wM) :=
  wh2 (fM_startsThen_L2) 100000 (iI (0)) s
def fM_lastsNow_L6   : Int32 → wM → (Int32 → wM → Option (Int32 × wM)) → Option (Int32 × wM) := fun x1 s k6 =>
  if (iI (100)) < x1 then
  (some ((iI (-2)), s))
  else ((fM_weekGoes s 187 (iI (0)) (iI (0))).bind fun q_3 =>
  (fM_evenPairs q_3 187).bind fun q_5 =>
  if q_5 ≤ iI 0 then
  (k6 (x1 + iI (1)) q_3)
  else (some (x1, q_3)))
def fM_lastsNow (s : wM)  : Option (Int32 × wM) :=
  (fM_startsThen s).bind fun q_2 =>
  wh2 (fM_lastsNow_L6) 100000 (iI (1)) q_2
def fM_lasts (s : wM)  : Option (Int32 × wM) :=
  nmM (wsI s 161 0 (iI (0))) fun s_1 =>
  (fM_lastsNow s_1).bind fun q_3 =>
  some (q_3.1, q_3.2)
def fM_isHundred (s : wM) (x0 : Int32) : Option (Int32) :=
  (fM_in s x0.toInt64 (0 : Int64) (100 : Int64)).bind fun q_2 =>
  chkZ q_2 (some q_2)
def fM_later_J20    (s : wM) : Option (Int32 × wM) :=
  some ((iI (-1)), s)
def fM_later_L28  (x1 : Int32) (x2 : Int32) : Int32 → wM → (Int32 → wM → Option (Int32 × wM)) → Option (Int32 × wM) := fun x3 s k28 =>
  if x2 ≤ x3 then
  (chk x1 9 (some ((s.1 187 x1.toNatClampNeg), s)))
  else ((fM_weekGoes s 187 (iI (0)) (iI (0))).bind fun q_4 =>
  k28 (x3 + iI (1)) q_4)
def fM_later (s : wM) (x1 : Int32) (x2 : Int32) : Option (Int32 × wM) :=
  nmM (wsI s 161 0 (iI (0))) fun s_1 =>
  (fM_isFarm s_1 x1).bind fun q_3 =>
  if q_3 = iI 0 then
  (fM_later_J20 s_1)
  else ((fM_isHundred s_1 x2).bind fun q_6 =>
  if q_6 = iI 0 then
  (fM_later_J20 s_1)
  else ((fM_startsThen s_1).bind fun q_9 =>
  wh2 (fM_later_L28 x1 x2) 100000 (iI (0)) q_9))
def fM_still_L11   : Int32 → wM → (Int32 → wM → Option (Int32 × wM)) → Option (Int32 × wM) := fun x1 s k11 =>
  if (iI (100)) < x1 then
  (some ((iI (-2)), s))
  else ((fM_packed s 187).bind fun q_3 =>
  (fM_evenPairs s 187).bind fun q_5 =>
  (fM_weekGoes s 187 (iI (0)) (iI (0))).bind fun q_7 =>
  (fM_packed q_7 187).bind fun q_9 =>
  if (lg_cmp q_9 q_3) = iI 0 then
  (nmM (wsI q_7 161 1 (iI (0))) fun s_11 =>
  (fM_enters s_11 q_5).bind fun q_13 =>
  some (x1, q_13))
  else (k11 (x1 + iI (1)) q_7))
def fM_still (s : wM)  : Option (Int32 × wM) :=
  nmM (wsI s 161 0 (iI (0))) fun s_1 =>
  (fM_startsThen s_1).bind fun q_3 =>
  wh2 (fM_still_L11) 100000 (iI (0)) q_3
def fM_keeps_J29    (s : wM) : Option (Int32 × wM) :=
  some ((iI (-1)), s)
def fM_keeps_J122 (k43 : Int32 → Int32 → Int32 → wM → Option (Int32 × wM)) (k74 : Int32 → Int32 → wM → Option (Int32 × wM)) (x1 : Int32) (x2 : Int32) (x3 : Int32) (x4 : Int32) (x7 : Int32) (v0 : Int32) (s : wM) : Option (Int32 × wM) :=
  k74 v0 (x7 + iI (1)) s
def fM_keeps_J192 (k43 : Int32 → Int32 → Int32 → wM → Option (Int32 × wM)) (x1 : Int32) (x2 : Int32) (x3 : Int32) (x4 : Int32) (x5 : Int32)  (s : wM) : Option (Int32 × wM) :=
  k43 x3 x4 x5 s
def fM_keeps_L165 (k43 : Int32 → Int32 → Int32 → wM → Option (Int32 × wM)) (x1 : Int32) (x2 : Int32) (x3 : Int32) (x4 : Int32) (x5 : Int32) : Int32 → wM → (Int32 → wM → Option (Int32 × wM)) → Option (Int32 × wM) := fun x7 s k165 =>
  if (iI (9)) ≤ x7 then
  (fM_keeps_J192 k43 x1 x2 x3 x4 x5 s)
  else (chk x7 9 (nmM (wsI s 187 x7.toNatClampNeg (s.1 184 x7.toNatClampNeg)) fun s_3 =>
  k165 (x7 + iI (1)) s_3))
def fM_keeps_J140 (k43 : Int32 → Int32 → Int32 → wM → Option (Int32 × wM)) (x1 : Int32) (x2 : Int32) (x3 : Int32) (x4 : Int32) (x6 : Int32) (v0 : Int32) (s : wM) : Option (Int32 × wM) :=
  if v0 = iI 0 then
  (fM_keeps_J192 k43 x1 x2 x3 x4 v0 s)
  else (chk x6 3000 (wh2 (fM_keeps_L165 k43 x1 x2 (x3 + iI (1)) (x4 + (s.1 182 x6.toNatClampNeg)) v0) 100000 (iI (0)) s))
def fM_keeps_J130 (k43 : Int32 → Int32 → Int32 → wM → Option (Int32 × wM)) (x1 : Int32) (x2 : Int32) (x3 : Int32) (x4 : Int32) (x6 : Int32)  (s : wM) : Option (Int32 × wM) :=
  if x6 < iI 0 then
  (fM_keeps_J140 k43 x1 x2 x3 x4 x6 (iI (0)) s)
  else (fM_keeps_J140 k43 x1 x2 x3 x4 x6 (iI (1)) s)
def fM_keeps_L74 (k43 : Int32 → Int32 → Int32 → wM → Option (Int32 × wM)) (x1 : Int32) (x2 : Int32) (x3 : Int32) (x4 : Int32) : Int32 → Int32 → wM → (Int32 → Int32 → wM → Option (Int32 × wM)) → Option (Int32 × wM) := fun x6 x7 s k74 =>
  if (s.1 161 34) ≤ x7 then
  (fM_keeps_J130 k43 x1 x2 x3 x4 x6 s)
  else (if iI 0 ≤ x6 then
  (fM_keeps_J130 k43 x1 x2 x3 x4 x6 s)
  else ((fM_unpacks s x7).bind fun q_4 =>
  (fM_weekGoes q_4 184 (iI (0)) (iI (0))).bind fun q_6 =>
  (fM_evenPairs q_6 184).bind fun q_8 =>
  if q_8 = iI 0 then
  (fM_keeps_J122 k43 k74 x1 x2 x3 x4 x7 x7 q_6)
  else (fM_keeps_J122 k43 k74 x1 x2 x3 x4 x7 x6 q_6)))
def fM_keeps_J195  (x3 : Int32) (x4 : Int32)  (s : wM) : Option (Int32 × wM) :=
  nmM (wsI s 161 1 (iI (0))) fun s_1 =>
  (fM_enters s_1 x4).bind fun q_3 =>
  some (x3, q_3)
def fM_keeps_L43  (x1 : Int32) (x2 : Int32) : Int32 → Int32 → Int32 → wM → (Int32 → Int32 → Int32 → wM → Option (Int32 × wM)) → Option (Int32 × wM) := fun x3 x4 x5 s k43 =>
  if x1 ≤ x3 then
  (fM_keeps_J195 x3 x4 s)
  else (if x5 = iI 0 then
  (fM_keeps_J195 x3 x4 s)
  else ((fM_findsAll s 187 x2).bind fun q_4 =>
  if q_4.1 = iI 0 then
  (some ((iI (-3)), q_4.2))
  else (wh3 (fM_keeps_L74 k43 x1 x2 x3 x4) 100000 (iI (-1)) (iI (0)) q_4.2)))
def fM_keeps (s : wM) (x1 : Int32) (x2 : Int32) : Option (Int32 × wM) :=
  nmM (wsI s 161 0 (iI (0))) fun s_1 =>
  (fM_in s_1 x1.toInt64 (0 : Int64) (12 : Int64)).bind fun q_3 =>
  if q_3 = iI 0 then
  (fM_keeps_J29 s_1)
  else ((fM_in s_1 x2.toInt64 (0 : Int64) (2 : Int64)).bind fun q_6 =>
  if q_6 = iI 0 then
  (fM_keeps_J29 s_1)
  else ((fM_startsThen s_1).bind fun q_9 =>
  wh4 (fM_keeps_L43 x1 x2) 100000 (iI (0)) (iI (0)) (iI (1)) q_9))
def fM_mercy_L58 (k41 : Int32 → wM → Option (Int32 × wM)) (x1 : Int32) (x2 : Int32) : Int32 → wM → (Int32 → wM → Option (Int32 × wM)) → Option (Int32 × wM) := fun x3 s k58 =>
  if (s.1 161 3) ≤ x3 then
  (k41 (x2 + iI (1)) s)
  else (chk x3 9 ((fM_evenWith s 187 x3).bind fun q_4 =>
  nmM (wsI s 188 x3.toNatClampNeg ((s.1 188 x3.toNatClampNeg) ||| q_4)) fun s_5 =>
  k58 (x3 + iI (1)) s_5))
def fM_mercy_J209 (k138 : Int32 → Int32 → Option (Int32 × wM)) (k165 : Int32 → Int32 → Option (Int32 × wM)) (x2 : Int32) (x3 : Int32) (x4 : Int32) (x6 : Int32) (v0 : Int32) (s : wM) : Option (Int32 × wM) :=
  k165 v0 (x6 + iI (1))
def fM_mercy_J204 (k138 : Int32 → Int32 → Option (Int32 × wM)) (k165 : Int32 → Int32 → Option (Int32 × wM)) (x2 : Int32) (x3 : Int32) (x4 : Int32) (x6 : Int32)  (s : wM) : Option (Int32 × wM) :=
  fM_mercy_J209 k138 k165 x2 x3 x4 x6 (iI (1)) s
def fM_mercy_J228 (k138 : Int32 → Int32 → Option (Int32 × wM)) (x2 : Int32) (x4 : Int32) (v0 : Int32) (s : wM) : Option (Int32 × wM) :=
  k138 v0 (x4 + iI (-1))
def fM_mercy_J217 (k138 : Int32 → Int32 → Option (Int32 × wM)) (x2 : Int32) (x3 : Int32) (x4 : Int32) (x5 : Int32)  (s : wM) : Option (Int32 × wM) :=
  if x5 = iI 0 then
  (fM_mercy_J228 k138 x2 x4 x3 s)
  else (fM_mercy_J228 k138 x2 x4 x4 s)
def fM_mercy_L165 (k138 : Int32 → Int32 → Option (Int32 × wM)) (x2 : Int32) (x3 : Int32) (x4 : Int32) (s : wM) : Int32 → Int32 → (Int32 → Int32 → Option (Int32 × wM)) → Option (Int32 × wM) := fun x5 x6 k165 =>
  if (s.1 161 3) ≤ x6 then
  (fM_mercy_J217 k138 x2 x3 x4 x5 s)
  else (if x5 = iI 0 then
  (fM_mercy_J217 k138 x2 x3 x4 x5 s)
  else ((fM_has s x4 x6).bind fun q_4 =>
  if q_4 = iI 0 then
  (chk x6 9 (if ((s.1 188 x6.toNatClampNeg) &&& (x4 ^^^ (iI (-1)))) = iI 0 then
  (fM_mercy_J204 k138 k165 x2 x3 x4 x6 s)
  else (fM_mercy_J209 k138 k165 x2 x3 x4 x6 (iI (0)) s)))
  else (fM_mercy_J204 k138 k165 x2 x3 x4 x6 s)))
def fM_mercy_J160 (k138 : Int32 → Int32 → Option (Int32 × wM)) (x2 : Int32) (x3 : Int32) (x4 : Int32) (v0 : Int32) (s : wM) : Option (Int32 × wM) :=
  wh2 (fM_mercy_L165 k138 x2 x3 x4 s) 100000 v0 (iI (0))
def fM_mercy_L138  (x2 : Int32) (s : wM) : Int32 → Int32 → (Int32 → Int32 → Option (Int32 × wM)) → Option (Int32 × wM) := fun x3 x4 k138 =>
  if x4 < iI 0 then
  (nmM (wsI s 161 1 (iI (0))) fun s_2 =>
  (fM_enters s_2 x3).bind fun q_4 =>
  some ((x2 / (iI (2))), q_4))
  else ((fJ_bitCount s x4).bind fun q_6 =>
  (fJ_bitCount s x3).bind fun q_8 =>
  if q_8 < q_6 then
  (fM_mercy_J160 k138 x2 x3 x4 (iI (0)) s)
  else (fM_mercy_J160 k138 x2 x3 x4 (iI (1)) s))
def fM_mercy_L100   (s : wM) : Int32 → Int32 → (Int32 → Int32 → Option (Int32 × wM)) → Option (Int32 × wM) := fun x2 x3 k100 =>
  if (s.1 161 3) ≤ x3 then
  (wh2 (fM_mercy_L138 x2 s) 100000 ((iShl (iI (1)) (s.1 161 3)) - (iI (1))) ((iShl (iI (1)) (s.1 161 3)) - (iI (1))))
  else (chk x3 9 ((fJ_bitCount s (s.1 188 x3.toNatClampNeg)).bind fun q_4 =>
  k100 (x2 + q_4) (x3 + iI (1))))
def fM_mercy_L41  (x1 : Int32) : Int32 → wM → (Int32 → wM → Option (Int32 × wM)) → Option (Int32 × wM) := fun x2 s k41 =>
  if x1 ≤ x2 then
  (wh2 (fM_mercy_L100 s) 100000 (iI (0)) (iI (0)))
  else ((fM_weekGoes s 187 (iI (0)) (iI (0))).bind fun q_3 =>
  wh2 (fM_mercy_L58 k41 x1 x2) 100000 (iI (0)) q_3)
def fM_mercy_L20  (x1 : Int32) : Int32 → wM → (Int32 → wM → Option (Int32 × wM)) → Option (Int32 × wM) := fun x2 s k20 =>
  if (iI (9)) ≤ x2 then
  (wh2 (fM_mercy_L41 x1) 100000 (iI (0)) s)
  else (chk x2 9 (nmM (wsI s 188 x2.toNatClampNeg (iI (0))) fun s_3 =>
  k20 (x2 + iI (1)) s_3))
def fM_mercy (s : wM) (x1 : Int32) : Option (Int32 × wM) :=
  nmM (wsI s 161 0 (iI (0))) fun s_1 =>
  (fM_isHundred s_1 x1).bind fun q_3 =>
  if q_3 = iI 0 then
  (some ((iI (-1)), s_1))
  else ((fM_startsThen s_1).bind fun q_6 =>
  wh2 (fM_mercy_L20 x1) 100000 (iI (0)) q_6)
def fM_drought_J97 (k27 : Int32 → wM → Option (Int32 × wM)) (k63 : Int32 → Int32 → Option (Int32 × wM)) (x1 : Int32) (x2 : Int32) (x4 : Int32) (v0 : Int32) (s : wM) : Option (Int32 × wM) :=
  k63 v0 (x4 + iI (1))
def fM_drought_J96 (k27 : Int32 → wM → Option (Int32 × wM)) (k63 : Int32 → Int32 → Option (Int32 × wM)) (x1 : Int32) (x2 : Int32) (x4 : Int32)  (s : wM) : Option (Int32 × wM) :=
  fM_drought_J97 k27 k63 x1 x2 x4 (iI (0)) s
def fM_drought_L63 (k27 : Int32 → wM → Option (Int32 × wM)) (x1 : Int32) (x2 : Int32) (s : wM) : Int32 → Int32 → (Int32 → Int32 → Option (Int32 × wM)) → Option (Int32 × wM) := fun x3 x4 k63 =>
  if (s.1 161 3) ≤ x4 then
  (if x3 = iI 0 then
  (k27 (x2 + iI (1)) s)
  else (some (x2, s)))
  else (if x3 = iI 0 then
  (fM_drought_J96 k27 k63 x1 x2 x4 s)
  else (chk x4 9 (if (s.1 187 x4.toNatClampNeg) = (s.1 187 (iI (0)).toNatClampNeg) then
  (fM_drought_J97 k27 k63 x1 x2 x4 (iI (1)) s)
  else (fM_drought_J96 k27 k63 x1 x2 x4 s))))
def fM_drought_J116    (s : wM) : Option (Int32 × wM) :=
  some ((iI (-2)), s)
def fM_drought_L27  (x1 : Int32) : Int32 → wM → (Int32 → wM → Option (Int32 × wM)) → Option (Int32 × wM) := fun x2 s k27 =>
  if (iI (100)) < x2 then
  (fM_drought_J116 s)
  else (if (s.1 161 3) ≤ (iI (1)) then
  (fM_drought_J116 s)
  else ((fM_weekGoes s 187 x1 ((iShl (iI (1)) (s.1 161 3)) - (iI (1)))).bind fun q_4 =>
  wh2 (fM_drought_L63 k27 x1 x2 q_4) 100000 (iI (1)) (iI (1))))
def fM_drought (s : wM) (x1 : Int32) : Option (Int32 × wM) :=
  nmM (wsI s 161 0 (iI (0))) fun s_1 =>
  (fM_in s_1 x1.toInt64 (-9 : Int64) (9 : Int64)).bind fun q_3 =>
  if q_3 = iI 0 then
  (some ((iI (-1)), s_1))
  else ((fM_startsThen s_1).bind fun q_6 =>
  wh2 (fM_drought_L27 x1) 100000 (iI (1)) q_6)
def fM_clash_L22  (x1 : Int32) (x2 : Int32) : Int32 → wM → (Int32 → wM → Option (Int32 × wM)) → Option (Int32 × wM) := fun x3 s k22 =>
  if (iI (100)) < x3 then
  (some ((iI (-2)), s))
  else ((fM_weekGoes s 187 (iI (0)) (iI (0))).bind fun q_3 =>
  (fM_isEven q_3 187 x1 x2).bind fun q_5 =>
  if q_5 = iI 0 then
  (k22 (x3 + iI (1)) q_3)
  else (some (x3, q_3)))
def fM_clash (s : wM) (x1 : Int32) (x2 : Int32) : Option (Int32 × wM) :=
  nmM (wsI s 161 0 (iI (0))) fun s_1 =>
  (fM_areTwo s_1 x1 x2).bind fun q_3 =>
  if q_3 = iI 0 then
  (some ((iI (-1)), s_1))
  else ((fM_startsThen s_1).bind fun q_6 =>
  wh2 (fM_clash_L22 x1 x2) 100000 (iI (1)) q_6)
def fM_payer_L68 (k51 : Int32 → wM → Option (Int32 × wM)) (x1 : Int32) (x2 : Int32) : Int32 → wM → (Int32 → wM → Option (Int32 × wM)) → Option (Int32 × wM) := fun x3 s k68 =>
  if (s.1 161 3) ≤ x3 then
  (k51 (x2 + iI (1)) s)
  else (chk x3 9 ((fM_evenWith s 187 x3).bind fun q_4 =>
  (fJ_bitCount s q_4).bind fun q_6 =>
  nmM (wsI s 189 x3.toNatClampNeg ((s.1 189 x3.toNatClampNeg) + ((s.1 168 (iI (1)).toNatClampNeg) * q_6))) fun s_7 =>
  k68 (x3 + iI (1)) s_7))
def fM_payer_J154 (k123 : Int32 → Int32 → Int32 → Option (Int32 × wM)) (x3 : Int32) (x4 : Int32) (v0 : Int32) (s : wM) : Option (Int32 × wM) :=
  chk x4 9 (k123 v0 (x3 + (s.1 189 x4.toNatClampNeg)) (x4 + iI (1)))
def fM_payer_L123   (s : wM) : Int32 → Int32 → Int32 → (Int32 → Int32 → Int32 → Option (Int32 × wM)) → Option (Int32 × wM) := fun x2 x3 x4 k123 =>
  if (s.1 161 3) ≤ x4 then
  (nmM (wsI s 161 1 (iI (0))) fun s_2 =>
  chk x2 9 ((fM_enters s_2 (s_2.1 189 x2.toNatClampNeg)).bind fun q_5 =>
  (fM_enters q_5 x3).bind fun q_7 =>
  some (x2, q_7)))
  else (chk x4 9 (chk x2 9 (if (s.1 189 x4.toNatClampNeg) ≤ (s.1 189 x2.toNatClampNeg) then
  (fM_payer_J154 k123 x3 x4 x2 s)
  else (fM_payer_J154 k123 x3 x4 x4 s))))
def fM_payer_L51  (x1 : Int32) : Int32 → wM → (Int32 → wM → Option (Int32 × wM)) → Option (Int32 × wM) := fun x2 s k51 =>
  if x1 ≤ x2 then
  (wh3 (fM_payer_L123 s) 100000 (iI (0)) (iI (0)) (iI (0)))
  else ((fM_weekGoes s 187 (iI (0)) (iI (0))).bind fun q_3 =>
  wh2 (fM_payer_L68 k51 x1 x2) 100000 (iI (0)) q_3)
def fM_payer_L30  (x1 : Int32) : Int32 → wM → (Int32 → wM → Option (Int32 × wM)) → Option (Int32 × wM) := fun x2 s k30 =>
  if (iI (9)) ≤ x2 then
  (wh2 (fM_payer_L51 x1) 100000 (iI (0)) s)
  else (chk x2 9 (nmM (wsI s 189 x2.toNatClampNeg (iI (0))) fun s_3 =>
  k30 (x2 + iI (1)) s_3))
def fM_payer (s : wM) (x1 : Int32) : Option (Int32 × wM) :=
  nmM (wsI s 161 0 (iI (0))) fun s_1 =>
  (fM_isHundred s_1 x1).bind fun q_3 =>
  if q_3 = iI 0 then
  (some ((iI (-1)), s_1))
  else (if (s_1.1 161 3) = iI 0 then
  (some ((iI (-2)), s_1))
  else ((fM_startsThen s_1).bind fun q_7 =>
  wh2 (fM_payer_L30 x1) 100000 (iI (0)) q_7))
def fM_pray_J84 (k25 : Int32 → Int32 → Int32 → wM → Option (Int32 × wM)) (k35 : Int32 → Int32 → Int32 → wM → Option (Int32 × wM)) (x1 : Int32) (x3 : Int32) (x4 : Int32) (x5 : Int32) (x6 : Int32) (v0 : Int32) (s : wM) : Option (Int32 × wM) :=
  k35 v0 (iMin x3 x6) (x5 + iI (2)) s
def fM_pray_L35 (k25 : Int32 → Int32 → Int32 → wM → Option (Int32 × wM)) (x1 : Int32) (x4 : Int32) : Int32 → Int32 → Int32 → wM → (Int32 → Int32 → Int32 → wM → Option (Int32 × wM)) → Option (Int32 × wM) := fun x2 x3 x5 s k35 =>
  if (iI (1)) < x5 then
  (k25 x2 x3 (x4 + iI (1)) s)
  else ((fM_startsThen s).bind fun q_3 =>
  (fM_weekGoes q_3 187 (x5 * x4) x1).bind fun q_5 =>
  (fM_evenPairs q_5 187).bind fun q_7 =>
  if x3 ≤ q_7 then
  (fM_pray_J84 k25 k35 x1 x3 x4 x5 q_7 x2 q_5)
  else (fM_pray_J84 k25 k35 x1 x3 x4 x5 q_7 (x5 * x4) q_5))
def fM_pray_L25  (x1 : Int32) : Int32 → Int32 → Int32 → wM → (Int32 → Int32 → Int32 → wM → Option (Int32 × wM)) → Option (Int32 × wM) := fun x2 x3 x4 s k25 =>
  if (iI (9)) < x4 then
  (nmM (wsI s 161 1 (iI (0))) fun s_2 =>
  (fM_enters s_2 x3).bind fun q_4 =>
  some (x2, q_4))
  else (wh4 (fM_pray_L35 k25 x1 x4) 100000 x2 x3 (iI (-1)) s)
def fM_pray (s : wM) (x1 : Int32) : Option (Int32 × wM) :=
  nmM (wsI s 161 0 (iI (0))) fun s_1 =>
  (fM_areBits s_1 x1).bind fun q_3 =>
  if q_3 = iI 0 then
  (some ((iI (-10)), s_1))
  else (wh4 (fM_pray_L25 x1) 100000 (iI (0)) (2147483647 : Int32) (iI (0)) s_1)
def fM_seal_J131 (k15 : Int32 → Int32 → Int32 → Int32 → wM → Option (Int32 × wM)) (k30 : Int32 → Int32 → Int32 → Int32 → wM → Option (Int32 × wM)) (x1 : Int32) (x2 : Int32) (x3 : Int32) (x4 : Int32) (x5 : Int32)  (s : wM) : Option (Int32 × wM) :=
  k30 x1 x2 x3 (x5 + iI (1)) s
def fM_seal_J114 (k15 : Int32 → Int32 → Int32 → Int32 → wM → Option (Int32 × wM)) (k30 : Int32 → Int32 → Int32 → Int32 → wM → Option (Int32 × wM)) (x1 : Int32) (x2 : Int32) (x3 : Int32) (x4 : Int32) (x5 : Int32) (v0 : Int32) (s : wM) : Option (Int32 × wM) :=
  if v0 ≤ x3 then
  (fM_seal_J131 k15 k30 x1 x2 x3 x4 x5 s)
  else (fM_seal_J131 k15 k30 x4 x5 v0 x4 x5 s)
def fM_seal_L30 (k15 : Int32 → Int32 → Int32 → Int32 → wM → Option (Int32 × wM)) (x4 : Int32) : Int32 → Int32 → Int32 → Int32 → wM → (Int32 → Int32 → Int32 → Int32 → wM → Option (Int32 × wM)) → Option (Int32 × wM) := fun x1 x2 x3 x5 s k30 =>
  if (s.1 161 3) ≤ x5 then
  (k15 x1 x2 x3 (x4 + iI (1)) s)
  else (chk (((iI (9)) * x4) + x5) 81 (nmI (s.1 166 (((iI (9)) * x4) + x5).toNatClampNeg) fun y_3 =>
  chk x4 9 ((fM_has s (s.1 165 x4.toNatClampNeg) x5).bind fun q_6 =>
  if q_6 = iI 0 then
  (fM_seal_J131 k15 k30 x1 x2 x3 x4 x5 s)
  else (if y_3 = iI 0 then
  (fM_seal_J131 k15 k30 x1 x2 x3 x4 x5 s)
  else ((fM_touchBy s x4 x5 (iI (0))).bind fun q_10 =>
  (fM_lastsNow q_10).bind fun q_12 =>
  (fM_touchBy q_12.2 x4 x5 y_3).bind fun q_14 =>
  if iI 0 ≤ q_12.1 then
  (fM_seal_J114 k15 k30 x1 x2 x3 x4 x5 q_12.1 q_14)
  else (fM_seal_J114 k15 k30 x1 x2 x3 x4 x5 (iI (101)) q_14))))))
def fM_seal_J173  (x1 : Int32) (v0 : Int32) (s : wM) : Option (Int32 × wM) :=
  (fM_enters s v0).bind fun q_2 =>
  some (x1, q_2)
def fM_seal_L15   : Int32 → Int32 → Int32 → Int32 → wM → (Int32 → Int32 → Int32 → Int32 → wM → Option (Int32 × wM)) → Option (Int32 × wM) := fun x1 x2 x3 x4 s k15 =>
  if (s.1 161 3) ≤ x4 then
  (if iI 0 ≤ x1 then
  (nmM (wsI s 161 1 (iI (0))) fun s_3 =>
  (fM_enters s_3 x2).bind fun q_5 =>
  if x3 ≤ (iI (100)) then
  (fM_seal_J173 x1 x3 q_5)
  else (fM_seal_J173 x1 (iI (-2)) q_5))
  else (some ((iI (-2)), s)))
  else (wh5 (fM_seal_L30 k15 x4) 100000 x1 x2 x3 (x4 + (iI (1))) s)
def fM_seal (s : wM)  : Option (Int32 × wM) :=
  nmM (wsI s 161 0 (iI (0))) fun s_1 =>
  wh5 (fM_seal_L15) 100000 (iI (-2)) (iI (0)) (iI (0)) (iI (0)) s_1
def fM_road_J21    (s : wM) : Option (Int32 × wM) :=
  some ((iI (-1)), s)
def fM_road_J47 (k25 : Int32 → wM → Option (Int32 × wM)) (x1 : Int32) (x2 : Int32) (x3 : Int32) (v0 : Int32) (v1 : Int32) (s : wM) : Option (Int32 × wM) :=
  chk v1 9 (nmM (wsI s 190 v1.toNatClampNeg v0) fun s_2 =>
  k25 (x3 + iI (1)) s_2)
def fM_road_J138 (k56 : Int32 → wM → Option (Int32 × wM)) (k67 : Int32 → wM → Option (Int32 × wM)) (k79 : Int32 → wM → Option (Int32 × wM)) (x1 : Int32) (x3 : Int32) (x4 : Int32) (x5 : Int32) (v0 : Int32) (v1 : Int32) (s : wM) : Option (Int32 × wM) :=
  chk v1 9 (nmM (wsI s 190 v1.toNatClampNeg v0) fun s_2 =>
  k79 (x5 + iI (1)) s_2)
def fM_road_L79 (k56 : Int32 → wM → Option (Int32 × wM)) (k67 : Int32 → wM → Option (Int32 × wM)) (x1 : Int32) (x3 : Int32) (x4 : Int32) : Int32 → wM → (Int32 → wM → Option (Int32 × wM)) → Option (Int32 × wM) := fun x5 s k79 =>
  if (s.1 161 3) ≤ x5 then
  (k67 (x4 + iI (1)) s)
  else (chk x4 9 ((fM_has s (s.1 165 x4.toNatClampNeg) x5).bind fun q_4 =>
  if q_4 = iI 0 then
  (fM_road_J138 k56 k67 k79 x1 x3 x4 x5 (s.1 190 x4.toNatClampNeg) x4 s)
  else (chk x5 9 (fM_road_J138 k56 k67 k79 x1 x3 x4 x5 (iMin (s.1 190 x4.toNatClampNeg) ((iI (1)) + (s.1 190 x5.toNatClampNeg))) x4 s))))
def fM_road_L67 (k56 : Int32 → wM → Option (Int32 × wM)) (x1 : Int32) (x3 : Int32) : Int32 → wM → (Int32 → wM → Option (Int32 × wM)) → Option (Int32 × wM) := fun x4 s k67 =>
  if (s.1 161 3) ≤ x4 then
  (k56 (x3 + iI (1)) s)
  else (wh2 (fM_road_L79 k56 k67 x1 x3 x4) 100000 (iI (0)) s)
def fM_road_J222 (k188 : Int32 → Int32 → wM → Option (Int32 × wM)) (k196 : Int32 → Option (Int32 × wM)) (x1 : Int32) (x3 : Int32) (x4 : Int32) (x5 : Int32)  (s : wM) : Option (Int32 × wM) :=
  k196 (x5 + iI (1))
def fM_road_L196 (k188 : Int32 → Int32 → wM → Option (Int32 × wM)) (x1 : Int32) (x3 : Int32) (x4 : Int32) (s : wM) : Int32 → (Int32 → Option (Int32 × wM)) → Option (Int32 × wM) := fun x5 k196 =>
  chk x3 9 ((fM_has s (s.1 165 x3.toNatClampNeg) x5).bind fun q_3 =>
  if q_3 = iI 0 then
  (fM_road_J222 k188 k196 x1 x3 x4 x5 s)
  else (chk x5 9 (if (s.1 190 x5.toNatClampNeg) = x4 then
  ((fM_enters s x5).bind fun q_8 =>
  k188 x5 (x4 + iI (-1)) q_8)
  else (fM_road_J222 k188 k196 x1 x3 x4 x5 s))))
def fM_road_L188  (x1 : Int32) : Int32 → Int32 → wM → (Int32 → Int32 → wM → Option (Int32 × wM)) → Option (Int32 × wM) := fun x3 x4 s k188 =>
  if x4 ≤ iI 0 then
  (chk x1 9 (some ((s.1 190 x1.toNatClampNeg), s)))
  else (wh1 (fM_road_L196 k188 x1 x3 x4 s) 100000 (iI (0)))
def fM_road_L56  (x1 : Int32) : Int32 → wM → (Int32 → wM → Option (Int32 × wM)) → Option (Int32 × wM) := fun x3 s k56 =>
  if (s.1 161 3) ≤ x3 then
  (chk x1 9 (if (s.1 190 x1.toNatClampNeg) < (iI (100)) then
  (nmM (wsI s 161 1 (iI (0))) fun s_4 =>
  nmI ((s_4.1 190 x1.toNatClampNeg) - (iI (1))) fun y_5 =>
  wh3 (fM_road_L188 x1) 100000 x1 y_5 s_4)
  else (some ((iI (-2)), s))))
  else (wh2 (fM_road_L67 k56 x1 x3) 100000 (iI (0)) s)
def fM_road_L25  (x1 : Int32) (x2 : Int32) : Int32 → wM → (Int32 → wM → Option (Int32 × wM)) → Option (Int32 × wM) := fun x3 s k25 =>
  if (iI (9)) ≤ x3 then
  (wh2 (fM_road_L56 x1) 100000 (iI (0)) s)
  else (if x3 = x2 then
  (fM_road_J47 k25 x1 x2 x3 (iI (0)) x3 s)
  else (fM_road_J47 k25 x1 x2 x3 (iI (100)) x3 s))
def fM_road (s : wM) (x1 : Int32) (x2 : Int32) : Option (Int32 × wM) :=
  nmM (wsI s 161 0 (iI (0))) fun s_1 =>
  (fM_isFarm s_1 x1).bind fun q_3 =>
  if q_3 = iI 0 then
  (fM_road_J21 s_1)
  else ((fM_isFarm s_1 x2).bind fun q_6 =>
  if q_6 = iI 0 then
  (fM_road_J21 s_1)
  else (wh2 (fM_road_L25 x1 x2) 100000 (iI (0)) s_1))
def fM_asMany_J10   (v0 : Int32) (s : wM) : Option (Int32) :=
  some v0
def fM_asMany (s : wM) (x0 : Int32) : Option (Int32) :=
  if iI 0 ≤ x0 then
  (fM_asMany_J10 x0 s)
  else (fM_asMany_J10 (iI (101)) s)
def fM_boon_J80 (k21 : Int32 → Int32 → Int32 → wM → Option (Int32 × wM)) (x2 : Int32) (x3 : Int32) (x5 : Int32) (v0 : Int32) (s : wM) : Option (Int32 × wM) :=
  k21 v0 (iMax x2 x5) (x3 + iI (1)) s
def fM_boon_J112  (x1 : Int32) (v0 : Int32) (s : wM) : Option (Int32 × wM) :=
  (fM_enters s v0).bind fun q_2 =>
  (fM_lastsNow q_2).bind fun q_4 =>
  (fM_enters q_4.2 q_4.1).bind fun q_6 =>
  some (x1, q_6)
def fM_boon_L21   : Int32 → Int32 → Int32 → wM → (Int32 → Int32 → Int32 → wM → Option (Int32 × wM)) → Option (Int32 × wM) := fun x1 x2 x3 s k21 =>
  if (s.1 161 3) ≤ x3 then
  (nmM (wsI s 161 1 (iI (0))) fun s_2 =>
  if x2 ≤ (iI (100)) then
  (fM_boon_J112 x1 x2 s_2)
  else (fM_boon_J112 x1 (iI (-2)) s_2))
  else (chk x3 9 (nmM (wsI s 164 x3.toNatClampNeg (iMin (iI (9)) ((s.1 164 x3.toNatClampNeg) + (iI (1))))) fun s_5 =>
  (fM_lastsNow s_5).bind fun q_7 =>
  (fM_asMany q_7.2 q_7.1).bind fun q_9 =>
  nmM (wsI q_7.2 164 x3.toNatClampNeg (s.1 164 x3.toNatClampNeg)) fun s_10 =>
  if q_9 ≤ x2 then
  (fM_boon_J80 k21 x2 x3 q_9 x1 s_10)
  else (fM_boon_J80 k21 x2 x3 q_9 x3 s_10)))
def fM_boon (s : wM)  : Option (Int32 × wM) :=
  nmM (wsI s 161 0 (iI (0))) fun s_1 =>
  if (s_1.1 161 3) = iI 0 then
  (some ((iI (-2)), s_1))
  else (wh4 (fM_boon_L21) 100000 (iI (0)) (iI (0)) (iI (0)) s_1)
def fM_seen_J38    (s : wM) : Option (Int32 × wM) :=
  some ((iI (-1)), s)
def fM_seen (s : wM) (x1 : Int32) (x2 : Int32) : Option (Int32 × wM) :=
  nmM (wsI s 161 0 (iI (0))) fun s_1 =>
  (fM_in s_1 x1.toInt64 (1 : Int64) (100 : Int64)).bind fun q_3 =>
  if q_3 = iI 0 then
  (fM_seen_J38 s_1)
  else ((fM_in s_1 x2.toInt64 (0 : Int64) (36 : Int64)).bind fun q_6 =>
  if q_6 = iI 0 then
  (fM_seen_J38 s_1)
  else (if (s_1.1 161 43) = (iI (10)) then
  (fM_seen_J38 s_1)
  else (chk (s_1.1 161 43) 10 (nmM (wsI s_1 191 (s_1.1 161 43).toNatClampNeg x1) fun s_10 =>
  chk (s_10.1 161 43) 10 (nmM (wsI s_10 192 (s_10.1 161 43).toNatClampNeg x2) fun s_12 =>
  nmM (wsI s_12 161 43 ((s_12.1 161 43) + (iI (1)))) fun s_13 =>
  some ((s_13.1 161 43), s_13))))))
def fM_forget (s : wM)  : Option (Int32 × wM) :=
  nmM (wsI s 161 0 (iI (0))) fun s_1 =>
  if (s_1.1 161 43) = iI 0 then
  (some ((iI (-1)), s_1))
  else (nmM (wsI s_1 161 43 ((s_1.1 161 43) - (iI (1)))) fun s_3 =>
  some ((s_3.1 161 43), s_3))
def fM_isSo_J85 (k31 : Int32 → wM → Option (Int32 × wM)) (k48 : Int32 → Option (Int32 × wM)) (x1 : Int32) (x2 : Int32) (x3 : Int32)  (s : wM) : Option (Int32 × wM) :=
  k48 (x3 + iI (1))
def fM_isSo_L48 (k31 : Int32 → wM → Option (Int32 × wM)) (x1 : Int32) (x2 : Int32) (s : wM) : Int32 → (Int32 → Option (Int32 × wM)) → Option (Int32 × wM) := fun x3 k48 =>
  if (s.1 161 43) ≤ x3 then
  (k31 (x2 + iI (1)) s)
  else (chk x3 10 (if (s.1 191 x3.toNatClampNeg) = x2 then
  ((fM_evenPairs s 187).bind fun q_5 =>
  if (s.1 192 x3.toNatClampNeg) = q_5 then
  (fM_isSo_J85 k31 k48 x1 x2 x3 s)
  else (some ((iI (0)), s)))
  else (fM_isSo_J85 k31 k48 x1 x2 x3 s)))
def fM_isSo_L31  (x1 : Int32) : Int32 → wM → (Int32 → wM → Option (Int32 × wM)) → Option (Int32 × wM) := fun x2 s k31 =>
  if x1 < x2 then
  (some ((iI (1)), s))
  else ((fM_weekGoes s 187 (iI (0)) (iI (0))).bind fun q_3 =>
  wh1 (fM_isSo_L48 k31 x1 x2 q_3) 100000 (iI (0)))
def fM_isSo_L4   (s : wM) : Int32 → Int32 → (Int32 → Int32 → Option (Int32 × wM)) → Option (Int32 × wM) := fun x1 x2 k4 =>
  if (s.1 161 43) ≤ x2 then
  (wh2 (fM_isSo_L31 x1) 100000 (iI (1)) s)
  else (chk x2 10 (k4 (iMax x1 (s.1 191 x2.toNatClampNeg)) (x2 + iI (1))))
def fM_isSo (s : wM)  : Option (Int32 × wM) :=
  wh2 (fM_isSo_L4 s) 100000 (iI (0)) (iI (0))
def fM_springs_J62 (k27 : Int32 → Int32 → wM → Option (Int32 × wM)) (x1 : Int32) (x2 : Int32) (x4 : Int32) (v0 : Int32) (v1 : Int32) (s : wM) : Option (Int32 × wM) :=
  k27 (v1 ||| v0) (x4 + iI (1)) s
def fM_springs_L27  (x1 : Int32) (x2 : Int32) : Int32 → Int32 → wM → (Int32 → Int32 → wM → Option (Int32 × wM)) → Option (Int32 × wM) := fun x3 x4 s k27 =>
  if (iI (9)) < x4 then
  (chk x1 9 (nmM (wsI s 164 x1.toNatClampNeg x2) fun s_3 =>
  some (x3, s_3)))
  else (chk x1 9 (nmM (wsI s 164 x1.toNatClampNeg x4) fun s_5 =>
  (fM_startsThen s_5).bind fun q_7 =>
  (fM_isSo q_7).bind fun q_9 =>
  if q_9.1 = iI 0 then
  (fM_springs_J62 k27 x1 x2 x4 (iI (0)) x3 q_9.2)
  else (fM_springs_J62 k27 x1 x2 x4 (iShl (iI (1)) x4) x3 q_9.2)))
def fM_springs (s : wM) (x1 : Int32) : Option (Int32 × wM) :=
  nmM (wsI s 161 0 (iI (0))) fun s_1 =>
  (fM_isFarm s_1 x1).bind fun q_3 =>
  if q_3 = iI 0 then
  (some ((iI (-1)), s_1))
  else (chk x1 9 (wh3 (fM_springs_L27 x1 (s_1.1 164 x1.toNatClampNeg)) 100000 (iI (0)) (iI (0)) s_1))
def fM_stones_J86 (k50 : Int32 → Int32 → wM → Option (Int32 × wM)) (x1 : Int32) (x2 : Int32) (x3 : Int32) (x5 : Int32) (v0 : Int32) (v1 : Int32) (s : wM) : Option (Int32 × wM) :=
  k50 (v1 ||| v0) (x5 + iI (1)) s
def fM_stones_L50  (x1 : Int32) (x2 : Int32) (x3 : Int32) : Int32 → Int32 → wM → (Int32 → Int32 → wM → Option (Int32 × wM)) → Option (Int32 × wM) := fun x4 x5 s k50 =>
  if (iI (9)) < x5 then
  ((fM_touchBy s x1 x2 x3).bind fun q_3 =>
  some (x4, q_3))
  else ((fM_touchBy s x1 x2 x5).bind fun q_5 =>
  (fM_startsThen q_5).bind fun q_7 =>
  (fM_isSo q_7).bind fun q_9 =>
  if q_9.1 = iI 0 then
  (fM_stones_J86 k50 x1 x2 x3 x5 (iI (0)) x4 q_9.2)
  else (fM_stones_J86 k50 x1 x2 x3 x5 (iShl (iI (1)) x5) x4 q_9.2))
def fM_stones (s : wM) (x1 : Int32) (x2 : Int32) : Option (Int32 × wM) :=
  nmM (wsI s 161 0 (iI (0))) fun s_1 =>
  (fM_areTwo s_1 x1 x2).bind fun q_3 =>
  if q_3 = iI 0 then
  (some ((iI (-1)), s_1))
  else (chk x1 9 ((fM_has s_1 (s_1.1 165 x1.toNatClampNeg) x2).bind fun q_7 =>
  if q_7 = iI 0 then
  (some ((iI (-2)), s_1))
  else (chk (((iI (9)) * x1) + x2) 81 (nmI (s_1.1 166 (((iI (9)) * x1) + x2).toNatClampNeg) fun y_10 =>
  wh3 (fM_stones_L50 x1 x2 y_10) 100000 (iI (0)) (iI (0)) s_1))))
def fM_nights_J91 (k14 : Int32 → Int32 → wM → Option (Int32 × wM)) (k24 : Int32 → Int32 → wM → Option (Int32 × wM)) (x1 : Int32) (x2 : Int32) (x3 : Int32)  (s : wM) : Option (Int32 × wM) :=
  k24 x1 (x3 + iI (1)) s
def fM_nights_J88 (k14 : Int32 → Int32 → wM → Option (Int32 × wM)) (k24 : Int32 → Int32 → wM → Option (Int32 × wM)) (x1 : Int32) (x2 : Int32) (x3 : Int32)  (s : wM) : Option (Int32 × wM) :=
  fM_nights_J91 k14 k24 (x1 + iI (1)) x2 x3 s
def fM_nights_L24 (k14 : Int32 → Int32 → wM → Option (Int32 × wM)) (x2 : Int32) : Int32 → Int32 → wM → (Int32 → Int32 → wM → Option (Int32 × wM)) → Option (Int32 × wM) := fun x1 x3 s k24 =>
  if (s.1 161 3) ≤ x3 then
  (k14 x1 (x2 + iI (1)) s)
  else (if x2 = x3 then
  (fM_nights_J91 k14 k24 x1 x2 x3 s)
  else ((fM_canCarry s 163 x2 x3).bind fun q_4 =>
  if q_4 = iI 0 then
  (fM_nights_J91 k14 k24 x1 x2 x3 s)
  else ((fM_startsThen s).bind fun q_7 =>
  (fM_carries q_7 187 x2 x3).bind fun q_9 =>
  (fM_isSo q_9).bind fun q_11 =>
  if q_11.1 = iI 0 then
  (fM_nights_J91 k14 k24 x1 x2 x3 q_11.2)
  else (if x1 = iI 0 then
  ((fM_enters q_11.2 (((iI (10)) * x2) + x3)).bind fun q_15 =>
  fM_nights_J88 k14 k24 x1 x2 x3 q_15)
  else (fM_nights_J88 k14 k24 x1 x2 x3 q_11.2)))))
def fM_nights_L14   : Int32 → Int32 → wM → (Int32 → Int32 → wM → Option (Int32 × wM)) → Option (Int32 × wM) := fun x1 x2 s k14 =>
  if (s.1 161 3) ≤ x2 then
  ((fM_startsThen s).bind fun q_3 =>
  (fM_isSo q_3).bind fun q_5 =>
  (fM_flag q_5.2 q_5.1).bind fun q_7 =>
  (fM_enters q_5.2 q_7).bind fun q_9 =>
  some (x1, q_9))
  else (wh3 (fM_nights_L24 k14 x2) 100000 x1 (iI (0)) s)
def fM_nights (s : wM)  : Option (Int32 × wM) :=
  nmM (wsI s 161 0 (iI (0))) fun s_1 =>
  nmM (wsI s_1 161 1 (iI (0))) fun s_2 =>
  wh3 (fM_nights_L14) 100000 (iI (0)) (iI (0)) s_2
def fM_sunday_J165 (k39 : Int32 → wM → Option (Int32 × wM)) (x1 : Int32)  (s : wM) : Option (Int32 × wM) :=
  k39 (x1 + iI (1)) s
def fM_sunday_J160 (k39 : Int32 → wM → Option (Int32 × wM)) (x1 : Int32) (v0 : Int32) (v1 : Int32) (v2 : Int32) (s : wM) : Option (Int32 × wM) :=
  (fM_flag s v0).bind fun q_2 =>
  chk v2 9 (nmM (wsI s 164 v2.toNatClampNeg (v1 - q_2)) fun s_4 =>
  fM_sunday_J165 k39 x1 s_4)
def fM_sunday_L96 (k39 : Int32 → wM → Option (Int32 × wM)) (x1 : Int32) : Int32 → wM → (Int32 → wM → Option (Int32 × wM)) → Option (Int32 × wM) := fun x2 s k96 =>
  if (iI (20)) < x2 then
  (chk (iMax (iI (0)) x1) 9 (if x1 < iI 0 then
  (fM_sunday_J160 k39 x1 (iI (0)) (s.1 164 (iMax (iI (0)) x1).toNatClampNeg) (iMax (iI (0)) x1) s)
  else (fM_sunday_J160 k39 x1 (iI (1)) (s.1 164 (iMax (iI (0)) x1).toNatClampNeg) (iMax (iI (0)) x1) s)))
  else ((fM_weekGoes s 187 (iI (0)) (iI (0))).bind fun q_5 =>
  (fM_evenPairs q_5 187).bind fun q_7 =>
  chk (((iI (37)) * x2) + q_7) 777 (nmM (wsI q_5 193 (((iI (37)) * x2) + q_7).toNatClampNeg ((q_5.1 193 (((iI (37)) * x2) + q_7).toNatClampNeg) + (iI (1)))) fun s_9 =>
  k96 (x2 + iI (1)) s_9))
def fM_sunday_J85 (k39 : Int32 → wM → Option (Int32 × wM)) (x1 : Int32) (v0 : Int32) (v1 : Int32) (v2 : Int32) (s : wM) : Option (Int32 × wM) :=
  (fM_flag s v0).bind fun q_2 =>
  chk v2 9 (nmM (wsI s 164 v2.toNatClampNeg (v1 + q_2)) fun s_4 =>
  (fM_startsThen s_4).bind fun q_6 =>
  wh2 (fM_sunday_L96 k39 x1) 100000 (iI (1)) q_6)
def fM_sunday_J65 (k39 : Int32 → wM → Option (Int32 × wM)) (x1 : Int32)  (s : wM) : Option (Int32 × wM) :=
  chk (iMax (iI (0)) x1) 9 (if x1 < iI 0 then
  (fM_sunday_J85 k39 x1 (iI (0)) (s.1 164 (iMax (iI (0)) x1).toNatClampNeg) (iMax (iI (0)) x1) s)
  else (fM_sunday_J85 k39 x1 (iI (1)) (s.1 164 (iMax (iI (0)) x1).toNatClampNeg) (iMax (iI (0)) x1) s))
def fM_sunday_J234 (k179 : Int32 → Int32 → Int32 → Option (Int32 × wM)) (x2 : Int32) (x3 : Int32) (x4 : Int32) (v0 : Int32) (s : wM) : Option (Int32 × wM) :=
  k179 v0 (iMin x2 x4) (x3 + iI (1))
def fM_sunday_L191 (k179 : Int32 → Int32 → Int32 → Option (Int32 × wM)) (x1 : Int32) (x2 : Int32) (x3 : Int32) (s : wM) : Int32 → Int32 → (Int32 → Int32 → Option (Int32 × wM)) → Option (Int32 × wM) := fun x4 x5 k191 =>
  if (iI (37)) ≤ x5 then
  (if x2 ≤ x4 then
  (fM_sunday_J234 k179 x2 x3 x4 x1 s)
  else (fM_sunday_J234 k179 x2 x3 x4 x3 s))
  else (chk (((iI (37)) * x3) + x5) 777 (nmI (iMax x4 (s.1 193 (((iI (37)) * x3) + x5).toNatClampNeg)) fun y_4 =>
  k191 y_4 (x5 + iI (1))))
def fM_sunday_L179   (s : wM) : Int32 → Int32 → Int32 → (Int32 → Int32 → Int32 → Option (Int32 × wM)) → Option (Int32 × wM) := fun x1 x2 x3 k179 =>
  if (iI (20)) < x3 then
  (nmM (wsI s 161 1 (iI (0))) fun s_2 =>
  (fM_enters s_2 x2).bind fun q_4 =>
  some (x1, q_4))
  else (wh2 (fM_sunday_L191 k179 x1 x2 x3 s) 100000 (iI (0)) (iI (0)))
def fM_sunday_L39   : Int32 → wM → (Int32 → wM → Option (Int32 × wM)) → Option (Int32 × wM) := fun x1 s k39 =>
  if (s.1 161 3) ≤ x1 then
  (wh3 (fM_sunday_L179 s) 100000 (iI (0)) (2147483647 : Int32) (iI (1)))
  else (if x1 < iI 0 then
  (fM_sunday_J65 k39 x1 s)
  else (chk x1 9 (if (s.1 164 x1.toNatClampNeg) = (iI (9)) then
  (fM_sunday_J165 k39 x1 s)
  else (fM_sunday_J65 k39 x1 s))))
def fM_sunday_L17   : Int32 → wM → (Int32 → wM → Option (Int32 × wM)) → Option (Int32 × wM) := fun x1 s k17 =>
  if (iI (777)) ≤ x1 then
  (wh2 (fM_sunday_L39) 100000 (iI (-1)) s)
  else (chk x1 777 (nmM (wsI s 193 x1.toNatClampNeg (iI (0))) fun s_3 =>
  k17 (x1 + iI (1)) s_3))
def fM_sunday (s : wM)  : Option (Int32 × wM) :=
  nmM (wsI s 161 0 (iI (0))) fun s_1 =>
  if (s_1.1 161 3) = iI 0 then
  (some ((iI (-2)), s_1))
  else (wh2 (fM_sunday_L17) 100000 (iI (0)) s_1)
def fM_divide_J35    (s : wM) : Option (Int32 × wM) :=
  some ((iI (-1)), s)
def fM_divide_J155 (k105 : Int32 → wM → Option (Int32 × wM)) (x1 : Int32) (x2 : Int32) (x3 : Int32) (x4 : Int32)  (s : wM) : Option (Int32 × wM) :=
  k105 (x4 + iI (1)) s
def fM_divide_L105  (x1 : Int32) (x2 : Int32) (x3 : Int32) : Int32 → wM → (Int32 → wM → Option (Int32 × wM)) → Option (Int32 × wM) := fun x4 s k105 =>
  if x3 ≤ x4 then
  ((fM_touchBy s x1 x3 (iI (0))).bind fun q_3 =>
  nmM (wsI q_3 161 20 (iI (0))) fun s_4 =>
  some (x3, s_4))
  else ((fM_touchBy s x3 x4 (iI (-1))).bind fun q_6 =>
  (fM_has q_6 x2 x4).bind fun q_8 =>
  if q_8 = iI 0 then
  (fM_divide_J155 k105 x1 x2 x3 x4 q_6)
  else (chk (((iI (9)) * x1) + x4) 81 ((fM_touchBy q_6 x3 x4 (q_6.1 166 (((iI (9)) * x1) + x4).toNatClampNeg)).bind fun q_12 =>
  (fM_touchBy q_12 x1 x4 (iI (-1))).bind fun q_14 =>
  fM_divide_J155 k105 x1 x2 x3 x4 q_14)))
def fM_divide (s : wM) (x1 : Int32) (x2 : Int32) : Option (Int32 × wM) :=
  nmM (wsI s 161 0 (iI (0))) fun s_1 =>
  (fM_isFarm s_1 x1).bind fun q_3 =>
  if q_3 = iI 0 then
  (fM_divide_J35 s_1)
  else (chk x1 9 (if (x2 &&& ((s_1.1 165 x1.toNatClampNeg) ^^^ (iI (-1)))) = iI 0 then
  (if (s_1.1 161 3) = (iI (9)) then
  (fM_divide_J35 s_1)
  else (nmM (wsI s_1 161 3 ((s_1.1 161 3) + (iI (1)))) fun s_8 =>
  chk (s_1.1 161 3) 9 (nmM (wsI s_8 163 (s_1.1 161 3).toNatClampNeg ((s_8.1 163 x1.toNatClampNeg) / (iI (2)))) fun s_10 =>
  nmM (wsI s_10 163 x1.toNatClampNeg ((s_10.1 163 x1.toNatClampNeg) - (s_10.1 163 (s_1.1 161 3).toNatClampNeg))) fun s_11 =>
  nmM (wsI s_11 164 (s_1.1 161 3).toNatClampNeg (iI (0))) fun s_12 =>
  nmM (wsI s_12 167 (s_1.1 161 3).toNatClampNeg (iI (0))) fun s_13 =>
  nmM (wsI s_13 165 (s_1.1 161 3).toNatClampNeg (iI (0))) fun s_14 =>
  wh2 (fM_divide_L105 x1 x2 (s_1.1 161 3)) 100000 (iI (0)) s_14)))
  else (fM_divide_J35 s_1)))
def fM_keep_L95  (x2 : Int32) : Int32 → wM → (Int32 → wM → Option (Int32 × wM)) → Option (Int32 × wM) := fun x3 s k95 =>
  if (iI (3)) ≤ x3 then
  (chk ((x2 + (iI (27))) + (iI (3))) 96 (nmM (wsI s 195 ((x2 + (iI (27))) + (iI (3))).toNatClampNeg (s.1 161 10)) fun s_3 =>
  chk ((x2 + (iI (27))) + (iI (4))) 96 (nmM (wsI s_3 195 ((x2 + (iI (27))) + (iI (4))).toNatClampNeg (s_3.1 161 3)) fun s_5 =>
  some ((iI (1)), s_5))))
  else (chk x3 3 (chk ((x2 + (iI (27))) + x3) 96 (nmM (wsI s 195 ((x2 + (iI (27))) + x3).toNatClampNeg (s.1 168 x3.toNatClampNeg)) fun s_8 =>
  k95 (x3 + iI (1)) s_8)))
def fM_keep_L33  (x2 : Int32) : Int32 → wM → (Int32 → wM → Option (Int32 × wM)) → Option (Int32 × wM) := fun x3 s k33 =>
  if (iI (9)) ≤ x3 then
  (wh2 (fM_keep_L95 x2) 100000 (iI (0)) s)
  else (chk x3 9 (chk (x2 + x3) 96 (nmM (wsI s 195 (x2 + x3).toNatClampNeg (s.1 163 x3.toNatClampNeg)) fun s_4 =>
  chk ((x2 + (iI (9))) + x3) 96 (nmM (wsI s_4 195 ((x2 + (iI (9))) + x3).toNatClampNeg (s_4.1 164 x3.toNatClampNeg)) fun s_6 =>
  chk ((x2 + (iI (18))) + x3) 96 (nmM (wsI s_6 195 ((x2 + (iI (18))) + x3).toNatClampNeg (s_6.1 167 x3.toNatClampNeg)) fun s_8 =>
  k33 (x3 + iI (1)) s_8)))))
def fM_keep (s : wM) (x1 : Int32) : Option (Int32 × wM) :=
  nmM (wsI s 161 0 (iI (0))) fun s_1 =>
  (fM_in s_1 x1.toInt64 (0 : Int64) (2 : Int64)).bind fun q_3 =>
  if q_3 = iI 0 then
  (some ((iI (0)), s_1))
  else (chk x1 3 (nmM (wsI s_1 194 x1.toNatClampNeg (iI (1))) fun s_6 =>
  wh2 (fM_keep_L33 ((iI (32)) * x1)) 100000 (iI (0)) s_6))
def fM_again_J47    (s : wM) : Option (Int32 × wM) :=
  some ((iI (0)), s)
def fM_again_L118  (x2 : Int32) : Int32 → wM → (Int32 → wM → Option (Int32 × wM)) → Option (Int32 × wM) := fun x3 s k118 =>
  if (iI (3)) ≤ x3 then
  (chk ((x2 + (iI (27))) + (iI (3))) 96 (nmM (wsI s 161 10 (s.1 195 ((x2 + (iI (27))) + (iI (3))).toNatClampNeg)) fun s_3 =>
  nmM (wsI s_3 161 20 (iI (0))) fun s_4 =>
  some ((iI (1)), s_4)))
  else (chk ((x2 + (iI (27))) + x3) 96 (chk x3 3 (nmM (wsI s 168 x3.toNatClampNeg (s.1 195 ((x2 + (iI (27))) + x3).toNatClampNeg)) fun s_7 =>
  k118 (x3 + iI (1)) s_7)))
def fM_again_L56  (x2 : Int32) : Int32 → wM → (Int32 → wM → Option (Int32 × wM)) → Option (Int32 × wM) := fun x3 s k56 =>
  if (iI (9)) ≤ x3 then
  (wh2 (fM_again_L118 x2) 100000 (iI (0)) s)
  else (chk (x2 + x3) 96 (chk x3 9 (nmM (wsI s 163 x3.toNatClampNeg (s.1 195 (x2 + x3).toNatClampNeg)) fun s_4 =>
  chk ((x2 + (iI (9))) + x3) 96 (nmM (wsI s_4 164 x3.toNatClampNeg (s_4.1 195 ((x2 + (iI (9))) + x3).toNatClampNeg)) fun s_6 =>
  chk ((x2 + (iI (18))) + x3) 96 (nmM (wsI s_6 167 x3.toNatClampNeg (s_6.1 195 ((x2 + (iI (18))) + x3).toNatClampNeg)) fun s_8 =>
  k56 (x3 + iI (1)) s_8)))))
def fM_again (s : wM) (x1 : Int32) : Option (Int32 × wM) :=
  nmM (wsI s 161 0 (iI (0))) fun s_1 =>
  (fM_in s_1 x1.toInt64 (0 : Int64) (2 : Int64)).bind fun q_3 =>
  if q_3 = iI 0 then
  (fM_again_J47 s_1)
  else (chk x1 3 (if (s_1.1 194 x1.toNatClampNeg) = iI 0 then
  (fM_again_J47 s_1)
  else (chk ((((iI (32)) * x1) + (iI (27))) + (iI (4))) 96 (if (s_1.1 195 ((((iI (32)) * x1) + (iI (27))) + (iI (4))).toNatClampNeg) = (s_1.1 161 3) then
  (wh2 (fM_again_L56 ((iI (32)) * x1)) 100000 (iI (0)) s_1)
  else (fM_again_J47 s_1)))))
def fM_sumOf_L4  (x1 : Nat) (s : wM) : Int32 → Int32 → (Int32 → Int32 → Option (Int32)) → Option (Int32) := fun x2 x3 k4 =>
  if (s.1 161 3) ≤ x3 then
  (some x2)
  else (chk x3 9 (k4 (x2 + (s.1 x1 x3.toNatClampNeg)) (x3 + iI (1))))
def fM_sumOf (s : wM) (x1 : Nat) : Option (Int32) :=
  wh2 (fM_sumOf_L4 x1 s) 100000 (iI (0)) (iI (0))
def fM_pairsThere_L4   (s : wM) : Int32 → Int32 → (Int32 → Int32 → Option (Int32)) → Option (Int32) := fun x1 x2 k4 =>
  if (s.1 161 3) ≤ x2 then
  (some (x1 / (iI (2))))
  else (chk x2 9 ((fJ_bitCount s (s.1 165 x2.toNatClampNeg)).bind fun q_4 =>
  k4 (x1 + q_4) (x2 + iI (1))))
def fM_pairsThere (s : wM)  : Option (Int32) :=
  wh2 (fM_pairsThere_L4 s) 100000 (iI (0)) (iI (0))
def fM_count (s : wM) (x1 : Int32) : Option (Int32 × wM) :=
  nmM (wsI s 161 0 (iI (0))) fun s_1 =>
  if x1 = iI (0) then
  (some ((s_1.1 161 3), s_1))
  else (if x1 = iI (1) then
  (some ((s_1.1 161 10), s_1))
  else (if x1 = iI (2) then
  ((fM_sumOf s_1 163).bind fun q_6 =>
  some (q_6, s_1))
  else (if x1 = iI (3) then
  ((fM_sumOf s_1 167).bind fun q_9 =>
  some (q_9, s_1))
  else (if x1 = iI (4) then
  ((fM_pairsThere s_1).bind fun q_12 =>
  some (q_12, s_1))
  else (if x1 = iI (5) then
  (some ((s_1.1 161 20), s_1))
  else (if x1 = iI (6) then
  (some ((s_1.1 161 43), s_1))
  else (if x1 = iI (7) then
  (some ((s_1.1 161 1), s_1))
  else (if x1 = iI (8) then
  (some ((s_1.1 161 12), s_1))
  else (some ((iI (-1)), s_1))))))))))
def fM_row (s : wM) (x1 : Int32) : Option (Int32 × wM) :=
  nmM (wsI s 161 0 (iI (0))) fun s_1 =>
  (fM_in s_1 x1.toInt64 (0 : Int64) (((s_1.1 161 1) - (iI (1))).toInt64)).bind fun q_3 =>
  if q_3 = iI 0 then
  (nmM (wsI s_1 161 0 (iI (1))) fun s_5 =>
  some ((iI (0)), s_5))
  else (chk x1 24 (some ((s_1.1 162 x1.toNatClampNeg), s_1)))
