theorem fl_260 : wFl RX10 431 3 0 (tyX3 0) := ⟨RX3, TX3, 2, tyX3, clX3, by decide, k_260, rfl⟩
def fW_farm (s : wM) (x1 : Int32) (x2 : Int32) : Option (Option Int32) :=
  (fLand_has s x1).bind fun q_2 =>
  if q_2 = iI 0 then
  (some none)
  else (if x2 = iI (0) then
  (chk x1 9 (some (some (s.1 8 x1.toNatClampNeg))))
  else (if x2 = iI (1) then
  (chk x1 9 (some (some (s.1 9 x1.toNatClampNeg))))
  else (if x2 = iI (2) then
  ((fLand_touching s x1).bind fun q_10 =>
  some (some q_10))
  else (if x2 = iI (3) then
  ((fLand_evenWith s x1).bind fun q_13 =>
  some (some q_13))
  else (if x2 = iI (4) then
  (chk x1 9 (some (some (s.1 10 x1.toNatClampNeg))))
  else (some none))))))
def fW_row_J15    (s : wM) : Option (Option Int32) :=
  some none
def fW_row (s : wM) (x1 : Int32) : Option (Option Int32) :=
  if x1 < iI 0 then
  (fW_row_J15 s)
  else (if x1 < (s.1 32 1) then
  (chk x1 10 (some (some (s.1 33 x1.toNatClampNeg))))
  else (fW_row_J15 s))
def fL_farm (s : wM) (x1 x2 : Int32) : Option (Int32 × wM) := (fW_farm s x1 x2).bind fun o => match o with
  | some r => some (iI 0, wsL s 196 0 r.toInt64)
  | none => some (iI 1, s)
def fL_row (s : wM) (x1 : Int32) : Option (Int32 × wM) := (fW_row s x1).bind fun o => match o with
  | some r => some (iI 0, wsL s 196 0 r.toInt64)
  | none => some (iI 1, s)
