/-- the memory as the constructors leave it -/
def wS0i : Nat → Nat → Int32 := fun k => if k = 11 then (fun j => if j < 3 then iI (1) else 0) else if k = 12 then (fun j => if j < 81 then iI (-1) else 0) else if k = 13 then (fun j => if j = 13 then iI (1) else 0) else if k = 23 then (fun j => if j = 7 then iI (1) else 0) else if k = 36 then (fun j => if j = 5 then iI (-1) else 0) else if k = 41 then (fun j => if j = 5 then iI (-1) else 0) else if k = 46 then (fun j => if j = 5 then iI (-1) else 0) else if k = 51 then (fun j => if j = 5 then iI (-1) else 0) else if k = 56 then (fun j => if j = 5 then iI (-1) else 0) else if k = 61 then (fun j => if j = 5 then iI (-1) else 0) else if k = 66 then (fun j => if j = 5 then iI (-1) else 0) else if k = 71 then (fun j => if j = 5 then iI (-1) else 0) else if k = 76 then (fun j => if j = 5 then iI (-1) else 0) else if k = 81 then (fun j => if j = 5 then iI (-1) else 0) else if k = 86 then (fun j => if j = 5 then iI (-1) else 0) else if k = 91 then (fun j => if j = 5 then iI (-1) else 0) else if k = 96 then (fun j => if j = 5 then iI (-1) else 0) else if k = 101 then (fun j => if j = 5 then iI (-1) else 0) else if k = 106 then (fun j => if j = 5 then iI (-1) else 0) else if k = 111 then (fun j => if j = 5 then iI (-1) else 0) else if k = 116 then (fun j => if j = 5 then iI (-1) else 0) else if k = 121 then (fun j => if j = 5 then iI (-1) else 0) else if k = 126 then (fun j => if j = 5 then iI (-1) else 0) else if k = 131 then (fun j => if j = 5 then iI (-1) else 0) else if k = 136 then (fun j => if j = 5 then iI (-1) else 0) else if k = 146 then (fun j => if j = 5 then iI (-1) else 0) else if k = 151 then (fun j => if j = 5 then iI (-1) else 0) else if k = 156 then (fun j => if j = 5 then iI (-1) else 0) else if k = 168 then (upd (upd (upd (fun _ => 0) (iI (0)).toNatClampNeg (iI (1))) (iI (1)).toNatClampNeg (iI (1))) (iI (2)).toNatClampNeg (iI (1))) else fun _ => 0
def wS0 : wM := (wS0i, fun _ _ => 0)
abbrev wGm (b : Nat) (D : va_G) (AI : FieldType → ClassId) : wG := (fun k => b + k, D, AI, b)
def wE0 : Nat → va_E := fun _ => .inr (0, [])
def wEa (G : wG) : Nat → va_E := eW G 1 0 (va_up wE0 0 (.inr (10, [.null, .null, .null, .null, .null, .null, .null, .null, .null, .null, .null])))
def wEb (G : wG) : Nat → va_E := eM G 162 161 (va_up (wEa G) 161 (.inr (11, [.int 0, .int 0, .null, .int 0, .null, .null, .null, .null, .null, .null, .int 0, .null, .int 0, .int 0, .int 0, .int 0, .null, .null, .null, .null, .int 0, .null, .null, .null, .null, .int 0, .null, .int 0, .null, .null, .null, .null, .null, .null, .int 0, .int 0, .null, .int 0, .null, .null, .null, .null, .null, .int 0, .null, .null, .null, .null, .null])))
def wEnd (G : wG) : Nat → va_E := va_up (wEb G) 196 (.inl (G.2.2.1 .long, 1, .inr (.inl (fun _ => 0))))
theorem we_0 (b : Nat) (D : va_G) (AI : FieldType → ClassId) : wEnd (wGm b D AI) 0 = wE (wGm b D AI) wS0 0 (.inr (10, [some 1, some 3, some 7, some 13, some 23, some 28, some 32, some 34, some 141, some 142, some 145])) := by
  unfold wEnd
  refine va_upn (by decide) ?_
  unfold wEb
  refine (eM_off (by decide) (by decide)).trans ?_
  refine va_upn (by decide) ?_
  unfold wEa eW
  refine (eSnaps_off 3 (by decide) (by decide)).trans ?_
  unfold eW11
  exact va_ups.trans rfl
theorem we_1 (b : Nat) (D : va_G) (AI : FieldType → ClassId) : wEnd (wGm b D AI) 1 = wE (wGm b D AI) wS0 1 (.inr (9, [some 2, none])) := by
  unfold wEnd
  refine va_upn (by decide) ?_
  unfold wEb
  refine (eM_off (by decide) (by decide)).trans ?_
  refine va_upn (by decide) ?_
  unfold wEa eW
  refine (eSnaps_off 3 (by decide) (by decide)).trans ?_
  unfold eW11
  refine va_upn (by decide) ?_
  refine va_upn (by decide) ?_
  unfold eW10
  refine va_upn (by decide) ?_
  refine (eSi_off (by decide) (by decide)).trans ?_
  refine va_upn (by decide) ?_
  unfold eW9
  refine va_upn (by decide) ?_
  refine va_upn (by decide) ?_
  unfold eW8
  refine va_upn (by decide) ?_
  refine (ePa_off (by decide) (by decide)).trans ?_
  refine va_upn (by decide) ?_
  unfold eW7
  refine va_upn (by decide) ?_
  refine (eNum_off (by decide) (by decide)).trans ?_
  refine va_upn (by decide) ?_
  unfold eW6
  refine va_upn (by decide) ?_
  refine (eGr_off (by decide) (by decide)).trans ?_
  refine va_upn (by decide) ?_
  unfold eW5
  refine va_upn (by decide) ?_
  refine (eSe_off (by decide) (by decide)).trans ?_
  refine va_upn (by decide) ?_
  unfold eW4
  refine va_upn (by decide) ?_
  refine (eAh_off (by decide) (by decide)).trans ?_
  refine va_upn (by decide) ?_
  unfold eW3
  refine va_upn (by decide) ?_
  refine (eLand_off (by decide) (by decide)).trans ?_
  refine va_upn (by decide) ?_
  unfold eW2
  refine va_upn (by decide) ?_
  refine (eRd_off (by decide) (by decide)).trans ?_
  refine va_upn (by decide) ?_
  unfold eW1
  refine va_upn (by decide) ?_
  unfold eTx
  exact va_ups.trans rfl
theorem we_2 (b : Nat) (D : va_G) (AI : FieldType → ClassId) : wEnd (wGm b D AI) 2 = wE (wGm b D AI) wS0 2 (.inl (.char, 80, 0, 0)) := by
  unfold wEnd
  refine va_upn (by decide) ?_
  unfold wEb
  refine (eM_off (by decide) (by decide)).trans ?_
  refine va_upn (by decide) ?_
  unfold wEa eW
  refine (eSnaps_off 3 (by decide) (by decide)).trans ?_
  unfold eW11
  refine va_upn (by decide) ?_
  refine va_upn (by decide) ?_
  unfold eW10
  refine va_upn (by decide) ?_
  refine (eSi_off (by decide) (by decide)).trans ?_
  refine va_upn (by decide) ?_
  unfold eW9
  refine va_upn (by decide) ?_
  refine va_upn (by decide) ?_
  unfold eW8
  refine va_upn (by decide) ?_
  refine (ePa_off (by decide) (by decide)).trans ?_
  refine va_upn (by decide) ?_
  unfold eW7
  refine va_upn (by decide) ?_
  refine (eNum_off (by decide) (by decide)).trans ?_
  refine va_upn (by decide) ?_
  unfold eW6
  refine va_upn (by decide) ?_
  refine (eGr_off (by decide) (by decide)).trans ?_
  refine va_upn (by decide) ?_
  unfold eW5
  refine va_upn (by decide) ?_
  refine (eSe_off (by decide) (by decide)).trans ?_
  refine va_upn (by decide) ?_
  unfold eW4
  refine va_upn (by decide) ?_
  refine (eAh_off (by decide) (by decide)).trans ?_
  refine va_upn (by decide) ?_
  unfold eW3
  refine va_upn (by decide) ?_
  refine (eLand_off (by decide) (by decide)).trans ?_
  refine va_upn (by decide) ?_
  unfold eW2
  refine va_upn (by decide) ?_
  refine (eRd_off (by decide) (by decide)).trans ?_
  refine va_upn (by decide) ?_
  unfold eW1
  refine va_upn (by decide) ?_
  unfold eTx
  refine va_upn (by decide) ?_
  refine va_upn (by decide) ?_
  exact va_ups.trans rfl
theorem we_3 (b : Nat) (D : va_G) (AI : FieldType → ClassId) : wEnd (wGm b D AI) 3 = wE (wGm b D AI) wS0 3 (.inr (5, [some 4, some 5, some 6, none, none, none, none])) := by
  unfold wEnd
  refine va_upn (by decide) ?_
  unfold wEb
  refine (eM_off (by decide) (by decide)).trans ?_
  refine va_upn (by decide) ?_
  unfold wEa eW
  refine (eSnaps_off 3 (by decide) (by decide)).trans ?_
  unfold eW11
  refine va_upn (by decide) ?_
  refine va_upn (by decide) ?_
  unfold eW10
  refine va_upn (by decide) ?_
  refine (eSi_off (by decide) (by decide)).trans ?_
  refine va_upn (by decide) ?_
  unfold eW9
  refine va_upn (by decide) ?_
  refine va_upn (by decide) ?_
  unfold eW8
  refine va_upn (by decide) ?_
  refine (ePa_off (by decide) (by decide)).trans ?_
  refine va_upn (by decide) ?_
  unfold eW7
  refine va_upn (by decide) ?_
  refine (eNum_off (by decide) (by decide)).trans ?_
  refine va_upn (by decide) ?_
  unfold eW6
  refine va_upn (by decide) ?_
  refine (eGr_off (by decide) (by decide)).trans ?_
  refine va_upn (by decide) ?_
  unfold eW5
  refine va_upn (by decide) ?_
  refine (eSe_off (by decide) (by decide)).trans ?_
  refine va_upn (by decide) ?_
  unfold eW4
  refine va_upn (by decide) ?_
  refine (eAh_off (by decide) (by decide)).trans ?_
  refine va_upn (by decide) ?_
  unfold eW3
  refine va_upn (by decide) ?_
  refine (eLand_off (by decide) (by decide)).trans ?_
  refine va_upn (by decide) ?_
  unfold eW2
  refine va_upn (by decide) ?_
  unfold eRd
  exact va_ups.trans rfl
theorem we_4 (b : Nat) (D : va_G) (AI : FieldType → ClassId) : wEnd (wGm b D AI) 4 = wE (wGm b D AI) wS0 4 (.inl (.int, 40, 0, 0)) := by
  unfold wEnd
  refine va_upn (by decide) ?_
  unfold wEb
  refine (eM_off (by decide) (by decide)).trans ?_
  refine va_upn (by decide) ?_
  unfold wEa eW
  refine (eSnaps_off 3 (by decide) (by decide)).trans ?_
  unfold eW11
  refine va_upn (by decide) ?_
  refine va_upn (by decide) ?_
  unfold eW10
  refine va_upn (by decide) ?_
  refine (eSi_off (by decide) (by decide)).trans ?_
  refine va_upn (by decide) ?_
  unfold eW9
  refine va_upn (by decide) ?_
  refine va_upn (by decide) ?_
  unfold eW8
  refine va_upn (by decide) ?_
  refine (ePa_off (by decide) (by decide)).trans ?_
  refine va_upn (by decide) ?_
  unfold eW7
  refine va_upn (by decide) ?_
  refine (eNum_off (by decide) (by decide)).trans ?_
  refine va_upn (by decide) ?_
  unfold eW6
  refine va_upn (by decide) ?_
  refine (eGr_off (by decide) (by decide)).trans ?_
  refine va_upn (by decide) ?_
  unfold eW5
  refine va_upn (by decide) ?_
  refine (eSe_off (by decide) (by decide)).trans ?_
  refine va_upn (by decide) ?_
  unfold eW4
  refine va_upn (by decide) ?_
  refine (eAh_off (by decide) (by decide)).trans ?_
  refine va_upn (by decide) ?_
  unfold eW3
  refine va_upn (by decide) ?_
  refine (eLand_off (by decide) (by decide)).trans ?_
  refine va_upn (by decide) ?_
  unfold eW2
  refine va_upn (by decide) ?_
  unfold eRd
  refine va_upn (by decide) ?_
  refine va_upn (by decide) ?_
  refine va_upn (by decide) ?_
  refine va_upn (by decide) ?_
  refine va_upn (by decide) ?_
  refine va_upn (by decide) ?_
  refine va_upn (by decide) ?_
  refine va_upn (by decide) ?_
  refine va_upn (by decide) ?_
  exact va_ups.trans rfl
theorem we_5 (b : Nat) (D : va_G) (AI : FieldType → ClassId) : wEnd (wGm b D AI) 5 = wE (wGm b D AI) wS0 5 (.inl (.int, 40, 0, 0)) := by
  unfold wEnd
  refine va_upn (by decide) ?_
  unfold wEb
  refine (eM_off (by decide) (by decide)).trans ?_
  refine va_upn (by decide) ?_
  unfold wEa eW
  refine (eSnaps_off 3 (by decide) (by decide)).trans ?_
  unfold eW11
  refine va_upn (by decide) ?_
  refine va_upn (by decide) ?_
  unfold eW10
  refine va_upn (by decide) ?_
  refine (eSi_off (by decide) (by decide)).trans ?_
  refine va_upn (by decide) ?_
  unfold eW9
  refine va_upn (by decide) ?_
  refine va_upn (by decide) ?_
  unfold eW8
  refine va_upn (by decide) ?_
  refine (ePa_off (by decide) (by decide)).trans ?_
  refine va_upn (by decide) ?_
  unfold eW7
  refine va_upn (by decide) ?_
  refine (eNum_off (by decide) (by decide)).trans ?_
  refine va_upn (by decide) ?_
  unfold eW6
  refine va_upn (by decide) ?_
  refine (eGr_off (by decide) (by decide)).trans ?_
  refine va_upn (by decide) ?_
  unfold eW5
  refine va_upn (by decide) ?_
  refine (eSe_off (by decide) (by decide)).trans ?_
  refine va_upn (by decide) ?_
  unfold eW4
  refine va_upn (by decide) ?_
  refine (eAh_off (by decide) (by decide)).trans ?_
  refine va_upn (by decide) ?_
  unfold eW3
  refine va_upn (by decide) ?_
  refine (eLand_off (by decide) (by decide)).trans ?_
  refine va_upn (by decide) ?_
  unfold eW2
  refine va_upn (by decide) ?_
  unfold eRd
  refine va_upn (by decide) ?_
  refine va_upn (by decide) ?_
  refine va_upn (by decide) ?_
  refine va_upn (by decide) ?_
  refine va_upn (by decide) ?_
  refine va_upn (by decide) ?_
  refine va_upn (by decide) ?_
  exact va_ups.trans rfl
theorem we_6 (b : Nat) (D : va_G) (AI : FieldType → ClassId) : wEnd (wGm b D AI) 6 = wE (wGm b D AI) wS0 6 (.inl (.int, 40, 0, 0)) := by
  unfold wEnd
  refine va_upn (by decide) ?_
  unfold wEb
  refine (eM_off (by decide) (by decide)).trans ?_
  refine va_upn (by decide) ?_
  unfold wEa eW
  refine (eSnaps_off 3 (by decide) (by decide)).trans ?_
  unfold eW11
  refine va_upn (by decide) ?_
  refine va_upn (by decide) ?_
  unfold eW10
  refine va_upn (by decide) ?_
  refine (eSi_off (by decide) (by decide)).trans ?_
  refine va_upn (by decide) ?_
  unfold eW9
  refine va_upn (by decide) ?_
  refine va_upn (by decide) ?_
  unfold eW8
  refine va_upn (by decide) ?_
  refine (ePa_off (by decide) (by decide)).trans ?_
  refine va_upn (by decide) ?_
  unfold eW7
  refine va_upn (by decide) ?_
  refine (eNum_off (by decide) (by decide)).trans ?_
  refine va_upn (by decide) ?_
  unfold eW6
  refine va_upn (by decide) ?_
  refine (eGr_off (by decide) (by decide)).trans ?_
  refine va_upn (by decide) ?_
  unfold eW5
  refine va_upn (by decide) ?_
  refine (eSe_off (by decide) (by decide)).trans ?_
  refine va_upn (by decide) ?_
  unfold eW4
  refine va_upn (by decide) ?_
  refine (eAh_off (by decide) (by decide)).trans ?_
  refine va_upn (by decide) ?_
  unfold eW3
  refine va_upn (by decide) ?_
  refine (eLand_off (by decide) (by decide)).trans ?_
  refine va_upn (by decide) ?_
  unfold eW2
  refine va_upn (by decide) ?_
  unfold eRd
  refine va_upn (by decide) ?_
  refine va_upn (by decide) ?_
  refine va_upn (by decide) ?_
  refine va_upn (by decide) ?_
  refine va_upn (by decide) ?_
  exact va_ups.trans rfl
theorem we_7 (b : Nat) (D : va_G) (AI : FieldType → ClassId) : wEnd (wGm b D AI) 7 = wE (wGm b D AI) wS0 7 (.inr (2, [some 8, some 9, some 10, some 11, none, none, some 12])) := by
  unfold wEnd
  refine va_upn (by decide) ?_
  unfold wEb
  refine (eM_off (by decide) (by decide)).trans ?_
  refine va_upn (by decide) ?_
  unfold wEa eW
  refine (eSnaps_off 3 (by decide) (by decide)).trans ?_
  unfold eW11
  refine va_upn (by decide) ?_
  refine va_upn (by decide) ?_
  unfold eW10
  refine va_upn (by decide) ?_
  refine (eSi_off (by decide) (by decide)).trans ?_
  refine va_upn (by decide) ?_
  unfold eW9
  refine va_upn (by decide) ?_
  refine va_upn (by decide) ?_
  unfold eW8
  refine va_upn (by decide) ?_
  refine (ePa_off (by decide) (by decide)).trans ?_
  refine va_upn (by decide) ?_
  unfold eW7
  refine va_upn (by decide) ?_
  refine (eNum_off (by decide) (by decide)).trans ?_
  refine va_upn (by decide) ?_
  unfold eW6
  refine va_upn (by decide) ?_
  refine (eGr_off (by decide) (by decide)).trans ?_
  refine va_upn (by decide) ?_
  unfold eW5
  refine va_upn (by decide) ?_
  refine (eSe_off (by decide) (by decide)).trans ?_
  refine va_upn (by decide) ?_
  unfold eW4
  refine va_upn (by decide) ?_
  refine (eAh_off (by decide) (by decide)).trans ?_
  refine va_upn (by decide) ?_
  unfold eW3
  refine va_upn (by decide) ?_
  unfold eLand
  refine va_upn (by decide) ?_
  refine va_upn (by decide) ?_
  exact va_ups.trans rfl
theorem we_8 (b : Nat) (D : va_G) (AI : FieldType → ClassId) : wEnd (wGm b D AI) 8 = wE (wGm b D AI) wS0 8 (.inl (.int, 9, 0, 0)) := by
  unfold wEnd
  refine va_upn (by decide) ?_
  unfold wEb
  refine (eM_off (by decide) (by decide)).trans ?_
  refine va_upn (by decide) ?_
  unfold wEa eW
  refine (eSnaps_off 3 (by decide) (by decide)).trans ?_
  unfold eW11
  refine va_upn (by decide) ?_
  refine va_upn (by decide) ?_
  unfold eW10
  refine va_upn (by decide) ?_
  refine (eSi_off (by decide) (by decide)).trans ?_
  refine va_upn (by decide) ?_
  unfold eW9
  refine va_upn (by decide) ?_
  refine va_upn (by decide) ?_
  unfold eW8
  refine va_upn (by decide) ?_
  refine (ePa_off (by decide) (by decide)).trans ?_
  refine va_upn (by decide) ?_
  unfold eW7
  refine va_upn (by decide) ?_
  refine (eNum_off (by decide) (by decide)).trans ?_
  refine va_upn (by decide) ?_
  unfold eW6
  refine va_upn (by decide) ?_
  refine (eGr_off (by decide) (by decide)).trans ?_
  refine va_upn (by decide) ?_
  unfold eW5
  refine va_upn (by decide) ?_
  refine (eSe_off (by decide) (by decide)).trans ?_
  refine va_upn (by decide) ?_
  unfold eW4
  refine va_upn (by decide) ?_
  refine (eAh_off (by decide) (by decide)).trans ?_
  refine va_upn (by decide) ?_
  unfold eW3
  refine va_upn (by decide) ?_
  unfold eLand
  refine va_upn (by decide) ?_
  refine va_upn (by decide) ?_
  refine va_upn (by decide) ?_
  refine va_upn (by decide) ?_
  refine va_upn (by decide) ?_
  refine va_upn (by decide) ?_
  refine va_upn (by decide) ?_
  refine va_upn (by decide) ?_
  refine va_upn (by decide) ?_
  refine va_upn (by decide) ?_
  refine va_upn (by decide) ?_
  refine va_upn (by decide) ?_
  refine va_upn (by decide) ?_
  exact va_ups.trans rfl
theorem we_9 (b : Nat) (D : va_G) (AI : FieldType → ClassId) : wEnd (wGm b D AI) 9 = wE (wGm b D AI) wS0 9 (.inl (.int, 9, 0, 0)) := by
  unfold wEnd
  refine va_upn (by decide) ?_
  unfold wEb
  refine (eM_off (by decide) (by decide)).trans ?_
  refine va_upn (by decide) ?_
  unfold wEa eW
  refine (eSnaps_off 3 (by decide) (by decide)).trans ?_
  unfold eW11
  refine va_upn (by decide) ?_
  refine va_upn (by decide) ?_
  unfold eW10
  refine va_upn (by decide) ?_
  refine (eSi_off (by decide) (by decide)).trans ?_
  refine va_upn (by decide) ?_
  unfold eW9
  refine va_upn (by decide) ?_
  refine va_upn (by decide) ?_
  unfold eW8
  refine va_upn (by decide) ?_
  refine (ePa_off (by decide) (by decide)).trans ?_
  refine va_upn (by decide) ?_
  unfold eW7
  refine va_upn (by decide) ?_
  refine (eNum_off (by decide) (by decide)).trans ?_
  refine va_upn (by decide) ?_
  unfold eW6
  refine va_upn (by decide) ?_
  refine (eGr_off (by decide) (by decide)).trans ?_
  refine va_upn (by decide) ?_
  unfold eW5
  refine va_upn (by decide) ?_
  refine (eSe_off (by decide) (by decide)).trans ?_
  refine va_upn (by decide) ?_
  unfold eW4
  refine va_upn (by decide) ?_
  refine (eAh_off (by decide) (by decide)).trans ?_
  refine va_upn (by decide) ?_
  unfold eW3
  refine va_upn (by decide) ?_
  unfold eLand
  refine va_upn (by decide) ?_
  refine va_upn (by decide) ?_
  refine va_upn (by decide) ?_
  refine va_upn (by decide) ?_
  refine va_upn (by decide) ?_
  refine va_upn (by decide) ?_
  refine va_upn (by decide) ?_
  refine va_upn (by decide) ?_
  refine va_upn (by decide) ?_
  refine va_upn (by decide) ?_
  refine va_upn (by decide) ?_
  exact va_ups.trans rfl
theorem we_10 (b : Nat) (D : va_G) (AI : FieldType → ClassId) : wEnd (wGm b D AI) 10 = wE (wGm b D AI) wS0 10 (.inl (.int, 9, 0, 0)) := by
  unfold wEnd
  refine va_upn (by decide) ?_
  unfold wEb
  refine (eM_off (by decide) (by decide)).trans ?_
  refine va_upn (by decide) ?_
  unfold wEa eW
  refine (eSnaps_off 3 (by decide) (by decide)).trans ?_
  unfold eW11
  refine va_upn (by decide) ?_
  refine va_upn (by decide) ?_
  unfold eW10
  refine va_upn (by decide) ?_
  refine (eSi_off (by decide) (by decide)).trans ?_
  refine va_upn (by decide) ?_
  unfold eW9
  refine va_upn (by decide) ?_
  refine va_upn (by decide) ?_
  unfold eW8
  refine va_upn (by decide) ?_
  refine (ePa_off (by decide) (by decide)).trans ?_
  refine va_upn (by decide) ?_
  unfold eW7
  refine va_upn (by decide) ?_
  refine (eNum_off (by decide) (by decide)).trans ?_
  refine va_upn (by decide) ?_
  unfold eW6
  refine va_upn (by decide) ?_
  refine (eGr_off (by decide) (by decide)).trans ?_
  refine va_upn (by decide) ?_
  unfold eW5
  refine va_upn (by decide) ?_
  refine (eSe_off (by decide) (by decide)).trans ?_
  refine va_upn (by decide) ?_
  unfold eW4
  refine va_upn (by decide) ?_
  refine (eAh_off (by decide) (by decide)).trans ?_
  refine va_upn (by decide) ?_
  unfold eW3
  refine va_upn (by decide) ?_
  unfold eLand
  refine va_upn (by decide) ?_
  refine va_upn (by decide) ?_
  refine va_upn (by decide) ?_
  refine va_upn (by decide) ?_
  refine va_upn (by decide) ?_
  refine va_upn (by decide) ?_
  refine va_upn (by decide) ?_
  refine va_upn (by decide) ?_
  refine va_upn (by decide) ?_
  exact va_ups.trans rfl
theorem we_11 (b : Nat) (D : va_G) (AI : FieldType → ClassId) : wEnd (wGm b D AI) 11 = wE (wGm b D AI) wS0 11 (.inl (.int, 3, 0, 0)) := by
  unfold wEnd
  refine va_upn (by decide) ?_
  unfold wEb
  refine (eM_off (by decide) (by decide)).trans ?_
  refine va_upn (by decide) ?_
  unfold wEa eW
  refine (eSnaps_off 3 (by decide) (by decide)).trans ?_
  unfold eW11
  refine va_upn (by decide) ?_
  refine va_upn (by decide) ?_
  unfold eW10
  refine va_upn (by decide) ?_
  refine (eSi_off (by decide) (by decide)).trans ?_
  refine va_upn (by decide) ?_
  unfold eW9
  refine va_upn (by decide) ?_
  refine va_upn (by decide) ?_
  unfold eW8
  refine va_upn (by decide) ?_
  refine (ePa_off (by decide) (by decide)).trans ?_
  refine va_upn (by decide) ?_
  unfold eW7
  refine va_upn (by decide) ?_
  refine (eNum_off (by decide) (by decide)).trans ?_
  refine va_upn (by decide) ?_
  unfold eW6
  refine va_upn (by decide) ?_
  refine (eGr_off (by decide) (by decide)).trans ?_
  refine va_upn (by decide) ?_
  unfold eW5
  refine va_upn (by decide) ?_
  refine (eSe_off (by decide) (by decide)).trans ?_
  refine va_upn (by decide) ?_
  unfold eW4
  refine va_upn (by decide) ?_
  refine (eAh_off (by decide) (by decide)).trans ?_
  refine va_upn (by decide) ?_
  unfold eW3
  refine va_upn (by decide) ?_
  unfold eLand
  refine va_upn (by decide) ?_
  exact va_ups.trans rfl
theorem we_12 (b : Nat) (D : va_G) (AI : FieldType → ClassId) : wEnd (wGm b D AI) 12 = wE (wGm b D AI) wS0 12 (.inl (.int, 81, 0, 0)) := by
  unfold wEnd
  refine va_upn (by decide) ?_
  unfold wEb
  refine (eM_off (by decide) (by decide)).trans ?_
  refine va_upn (by decide) ?_
  unfold wEa eW
  refine (eSnaps_off 3 (by decide) (by decide)).trans ?_
  unfold eW11
  refine va_upn (by decide) ?_
  refine va_upn (by decide) ?_
  unfold eW10
  refine va_upn (by decide) ?_
  refine (eSi_off (by decide) (by decide)).trans ?_
  refine va_upn (by decide) ?_
  unfold eW9
  refine va_upn (by decide) ?_
  refine va_upn (by decide) ?_
  unfold eW8
  refine va_upn (by decide) ?_
  refine (ePa_off (by decide) (by decide)).trans ?_
  refine va_upn (by decide) ?_
  unfold eW7
  refine va_upn (by decide) ?_
  refine (eNum_off (by decide) (by decide)).trans ?_
  refine va_upn (by decide) ?_
  unfold eW6
  refine va_upn (by decide) ?_
  refine (eGr_off (by decide) (by decide)).trans ?_
  refine va_upn (by decide) ?_
  unfold eW5
  refine va_upn (by decide) ?_
  refine (eSe_off (by decide) (by decide)).trans ?_
  refine va_upn (by decide) ?_
  unfold eW4
  refine va_upn (by decide) ?_
  refine (eAh_off (by decide) (by decide)).trans ?_
  refine va_upn (by decide) ?_
  unfold eW3
  refine va_upn (by decide) ?_
  unfold eLand
  exact va_ups.trans rfl
theorem we_13 (b : Nat) (D : va_G) (AI : FieldType → ClassId) : wEnd (wGm b D AI) 13 = wE (wGm b D AI) wS0 13 (.inr (0, [some 14, some 15, some 16, some 17, some 18, some 19, none, none, none, some 20, some 21, some 22, none, none])) := by
  unfold wEnd
  refine va_upn (by decide) ?_
  unfold wEb
  refine (eM_off (by decide) (by decide)).trans ?_
  refine va_upn (by decide) ?_
  unfold wEa eW
  refine (eSnaps_off 3 (by decide) (by decide)).trans ?_
  unfold eW11
  refine va_upn (by decide) ?_
  refine va_upn (by decide) ?_
  unfold eW10
  refine va_upn (by decide) ?_
  refine (eSi_off (by decide) (by decide)).trans ?_
  refine va_upn (by decide) ?_
  unfold eW9
  refine va_upn (by decide) ?_
  refine va_upn (by decide) ?_
  unfold eW8
  refine va_upn (by decide) ?_
  refine (ePa_off (by decide) (by decide)).trans ?_
  refine va_upn (by decide) ?_
  unfold eW7
  refine va_upn (by decide) ?_
  refine (eNum_off (by decide) (by decide)).trans ?_
  refine va_upn (by decide) ?_
  unfold eW6
  refine va_upn (by decide) ?_
  refine (eGr_off (by decide) (by decide)).trans ?_
  refine va_upn (by decide) ?_
  unfold eW5
  refine va_upn (by decide) ?_
  refine (eSe_off (by decide) (by decide)).trans ?_
  refine va_upn (by decide) ?_
  unfold eW4
  refine va_upn (by decide) ?_
  unfold eAh
  exact va_ups.trans rfl
theorem we_14 (b : Nat) (D : va_G) (AI : FieldType → ClassId) : wEnd (wGm b D AI) 14 = wE (wGm b D AI) wS0 14 (.inl (.int, 9, 0, 0)) := by
  unfold wEnd
  refine va_upn (by decide) ?_
  unfold wEb
  refine (eM_off (by decide) (by decide)).trans ?_
  refine va_upn (by decide) ?_
  unfold wEa eW
  refine (eSnaps_off 3 (by decide) (by decide)).trans ?_
  unfold eW11
  refine va_upn (by decide) ?_
  refine va_upn (by decide) ?_
  unfold eW10
  refine va_upn (by decide) ?_
  refine (eSi_off (by decide) (by decide)).trans ?_
  refine va_upn (by decide) ?_
  unfold eW9
  refine va_upn (by decide) ?_
  refine va_upn (by decide) ?_
  unfold eW8
  refine va_upn (by decide) ?_
  refine (ePa_off (by decide) (by decide)).trans ?_
  refine va_upn (by decide) ?_
  unfold eW7
  refine va_upn (by decide) ?_
  refine (eNum_off (by decide) (by decide)).trans ?_
  refine va_upn (by decide) ?_
  unfold eW6
  refine va_upn (by decide) ?_
  refine (eGr_off (by decide) (by decide)).trans ?_
  refine va_upn (by decide) ?_
  unfold eW5
  refine va_upn (by decide) ?_
  refine (eSe_off (by decide) (by decide)).trans ?_
  refine va_upn (by decide) ?_
  unfold eW4
  refine va_upn (by decide) ?_
  unfold eAh
  refine va_upn (by decide) ?_
  refine va_upn (by decide) ?_
  refine va_upn (by decide) ?_
  refine va_upn (by decide) ?_
  refine va_upn (by decide) ?_
  refine va_upn (by decide) ?_
  refine va_upn (by decide) ?_
  refine va_upn (by decide) ?_
  refine va_upn (by decide) ?_
  refine va_upn (by decide) ?_
  refine va_upn (by decide) ?_
  refine va_upn (by decide) ?_
  refine va_upn (by decide) ?_
  refine va_upn (by decide) ?_
  refine va_upn (by decide) ?_
  refine va_upn (by decide) ?_
  refine va_upn (by decide) ?_
  refine va_upn (by decide) ?_
  refine va_upn (by decide) ?_
  refine va_upn (by decide) ?_
  refine va_upn (by decide) ?_
  refine va_upn (by decide) ?_
  exact va_ups.trans rfl
theorem we_15 (b : Nat) (D : va_G) (AI : FieldType → ClassId) : wEnd (wGm b D AI) 15 = wE (wGm b D AI) wS0 15 (.inl (.int, 9, 0, 0)) := by
  unfold wEnd
  refine va_upn (by decide) ?_
  unfold wEb
  refine (eM_off (by decide) (by decide)).trans ?_
  refine va_upn (by decide) ?_
  unfold wEa eW
  refine (eSnaps_off 3 (by decide) (by decide)).trans ?_
  unfold eW11
  refine va_upn (by decide) ?_
  refine va_upn (by decide) ?_
  unfold eW10
  refine va_upn (by decide) ?_
  refine (eSi_off (by decide) (by decide)).trans ?_
  refine va_upn (by decide) ?_
  unfold eW9
  refine va_upn (by decide) ?_
  refine va_upn (by decide) ?_
  unfold eW8
  refine va_upn (by decide) ?_
  refine (ePa_off (by decide) (by decide)).trans ?_
  refine va_upn (by decide) ?_
  unfold eW7
  refine va_upn (by decide) ?_
  refine (eNum_off (by decide) (by decide)).trans ?_
  refine va_upn (by decide) ?_
  unfold eW6
  refine va_upn (by decide) ?_
  refine (eGr_off (by decide) (by decide)).trans ?_
  refine va_upn (by decide) ?_
  unfold eW5
  refine va_upn (by decide) ?_
  refine (eSe_off (by decide) (by decide)).trans ?_
  refine va_upn (by decide) ?_
  unfold eW4
  refine va_upn (by decide) ?_
  unfold eAh
  refine va_upn (by decide) ?_
  refine va_upn (by decide) ?_
  refine va_upn (by decide) ?_
  refine va_upn (by decide) ?_
  refine va_upn (by decide) ?_
  refine va_upn (by decide) ?_
  refine va_upn (by decide) ?_
  refine va_upn (by decide) ?_
  refine va_upn (by decide) ?_
  refine va_upn (by decide) ?_
  refine va_upn (by decide) ?_
  refine va_upn (by decide) ?_
  refine va_upn (by decide) ?_
  refine va_upn (by decide) ?_
  refine va_upn (by decide) ?_
  refine va_upn (by decide) ?_
  refine va_upn (by decide) ?_
  refine va_upn (by decide) ?_
  refine va_upn (by decide) ?_
  refine va_upn (by decide) ?_
  exact va_ups.trans rfl
theorem we_16 (b : Nat) (D : va_G) (AI : FieldType → ClassId) : wEnd (wGm b D AI) 16 = wE (wGm b D AI) wS0 16 (.inl (.int, 9, 0, 0)) := by
  unfold wEnd
  refine va_upn (by decide) ?_
  unfold wEb
  refine (eM_off (by decide) (by decide)).trans ?_
  refine va_upn (by decide) ?_
  unfold wEa eW
  refine (eSnaps_off 3 (by decide) (by decide)).trans ?_
  unfold eW11
  refine va_upn (by decide) ?_
  refine va_upn (by decide) ?_
  unfold eW10
  refine va_upn (by decide) ?_
  refine (eSi_off (by decide) (by decide)).trans ?_
  refine va_upn (by decide) ?_
  unfold eW9
  refine va_upn (by decide) ?_
  refine va_upn (by decide) ?_
  unfold eW8
  refine va_upn (by decide) ?_
  refine (ePa_off (by decide) (by decide)).trans ?_
  refine va_upn (by decide) ?_
  unfold eW7
  refine va_upn (by decide) ?_
  refine (eNum_off (by decide) (by decide)).trans ?_
  refine va_upn (by decide) ?_
  unfold eW6
  refine va_upn (by decide) ?_
  refine (eGr_off (by decide) (by decide)).trans ?_
  refine va_upn (by decide) ?_
  unfold eW5
  refine va_upn (by decide) ?_
  refine (eSe_off (by decide) (by decide)).trans ?_
  refine va_upn (by decide) ?_
  unfold eW4
  refine va_upn (by decide) ?_
  unfold eAh
  refine va_upn (by decide) ?_
  refine va_upn (by decide) ?_
  refine va_upn (by decide) ?_
  refine va_upn (by decide) ?_
  refine va_upn (by decide) ?_
  refine va_upn (by decide) ?_
  refine va_upn (by decide) ?_
  refine va_upn (by decide) ?_
  refine va_upn (by decide) ?_
  refine va_upn (by decide) ?_
  refine va_upn (by decide) ?_
  refine va_upn (by decide) ?_
  refine va_upn (by decide) ?_
  refine va_upn (by decide) ?_
  refine va_upn (by decide) ?_
  refine va_upn (by decide) ?_
  refine va_upn (by decide) ?_
  refine va_upn (by decide) ?_
  exact va_ups.trans rfl
theorem we_17 (b : Nat) (D : va_G) (AI : FieldType → ClassId) : wEnd (wGm b D AI) 17 = wE (wGm b D AI) wS0 17 (.inl (.int, 36, 0, 0)) := by
  unfold wEnd
  refine va_upn (by decide) ?_
  unfold wEb
  refine (eM_off (by decide) (by decide)).trans ?_
  refine va_upn (by decide) ?_
  unfold wEa eW
  refine (eSnaps_off 3 (by decide) (by decide)).trans ?_
  unfold eW11
  refine va_upn (by decide) ?_
  refine va_upn (by decide) ?_
  unfold eW10
  refine va_upn (by decide) ?_
  refine (eSi_off (by decide) (by decide)).trans ?_
  refine va_upn (by decide) ?_
  unfold eW9
  refine va_upn (by decide) ?_
  refine va_upn (by decide) ?_
  unfold eW8
  refine va_upn (by decide) ?_
  refine (ePa_off (by decide) (by decide)).trans ?_
  refine va_upn (by decide) ?_
  unfold eW7
  refine va_upn (by decide) ?_
  refine (eNum_off (by decide) (by decide)).trans ?_
  refine va_upn (by decide) ?_
  unfold eW6
  refine va_upn (by decide) ?_
  refine (eGr_off (by decide) (by decide)).trans ?_
  refine va_upn (by decide) ?_
  unfold eW5
  refine va_upn (by decide) ?_
  refine (eSe_off (by decide) (by decide)).trans ?_
  refine va_upn (by decide) ?_
  unfold eW4
  refine va_upn (by decide) ?_
  unfold eAh
  refine va_upn (by decide) ?_
  refine va_upn (by decide) ?_
  refine va_upn (by decide) ?_
  refine va_upn (by decide) ?_
  refine va_upn (by decide) ?_
  refine va_upn (by decide) ?_
  refine va_upn (by decide) ?_
  refine va_upn (by decide) ?_
  refine va_upn (by decide) ?_
  refine va_upn (by decide) ?_
  refine va_upn (by decide) ?_
  refine va_upn (by decide) ?_
  refine va_upn (by decide) ?_
  refine va_upn (by decide) ?_
  refine va_upn (by decide) ?_
  refine va_upn (by decide) ?_
  exact va_ups.trans rfl
theorem we_18 (b : Nat) (D : va_G) (AI : FieldType → ClassId) : wEnd (wGm b D AI) 18 = wE (wGm b D AI) wS0 18 (.inl (.int, 36, 0, 0)) := by
  unfold wEnd
  refine va_upn (by decide) ?_
  unfold wEb
  refine (eM_off (by decide) (by decide)).trans ?_
  refine va_upn (by decide) ?_
  unfold wEa eW
  refine (eSnaps_off 3 (by decide) (by decide)).trans ?_
  unfold eW11
  refine va_upn (by decide) ?_
  refine va_upn (by decide) ?_
  unfold eW10
  refine va_upn (by decide) ?_
  refine (eSi_off (by decide) (by decide)).trans ?_
  refine va_upn (by decide) ?_
  unfold eW9
  refine va_upn (by decide) ?_
  refine va_upn (by decide) ?_
  unfold eW8
  refine va_upn (by decide) ?_
  refine (ePa_off (by decide) (by decide)).trans ?_
  refine va_upn (by decide) ?_
  unfold eW7
  refine va_upn (by decide) ?_
  refine (eNum_off (by decide) (by decide)).trans ?_
  refine va_upn (by decide) ?_
  unfold eW6
  refine va_upn (by decide) ?_
  refine (eGr_off (by decide) (by decide)).trans ?_
  refine va_upn (by decide) ?_
  unfold eW5
  refine va_upn (by decide) ?_
  refine (eSe_off (by decide) (by decide)).trans ?_
  refine va_upn (by decide) ?_
  unfold eW4
  refine va_upn (by decide) ?_
  unfold eAh
  refine va_upn (by decide) ?_
  refine va_upn (by decide) ?_
  refine va_upn (by decide) ?_
  refine va_upn (by decide) ?_
  refine va_upn (by decide) ?_
  refine va_upn (by decide) ?_
  refine va_upn (by decide) ?_
  refine va_upn (by decide) ?_
  refine va_upn (by decide) ?_
  refine va_upn (by decide) ?_
  refine va_upn (by decide) ?_
  refine va_upn (by decide) ?_
  refine va_upn (by decide) ?_
  refine va_upn (by decide) ?_
  exact va_ups.trans rfl
theorem we_19 (b : Nat) (D : va_G) (AI : FieldType → ClassId) : wEnd (wGm b D AI) 19 = wE (wGm b D AI) wS0 19 (.inl (.int, 36, 0, 0)) := by
  unfold wEnd
  refine va_upn (by decide) ?_
  unfold wEb
  refine (eM_off (by decide) (by decide)).trans ?_
  refine va_upn (by decide) ?_
  unfold wEa eW
  refine (eSnaps_off 3 (by decide) (by decide)).trans ?_
  unfold eW11
  refine va_upn (by decide) ?_
  refine va_upn (by decide) ?_
  unfold eW10
  refine va_upn (by decide) ?_
  refine (eSi_off (by decide) (by decide)).trans ?_
  refine va_upn (by decide) ?_
  unfold eW9
  refine va_upn (by decide) ?_
  refine va_upn (by decide) ?_
  unfold eW8
  refine va_upn (by decide) ?_
  refine (ePa_off (by decide) (by decide)).trans ?_
  refine va_upn (by decide) ?_
  unfold eW7
  refine va_upn (by decide) ?_
  refine (eNum_off (by decide) (by decide)).trans ?_
  refine va_upn (by decide) ?_
  unfold eW6
  refine va_upn (by decide) ?_
  refine (eGr_off (by decide) (by decide)).trans ?_
  refine va_upn (by decide) ?_
  unfold eW5
  refine va_upn (by decide) ?_
  refine (eSe_off (by decide) (by decide)).trans ?_
  refine va_upn (by decide) ?_
  unfold eW4
  refine va_upn (by decide) ?_
  unfold eAh
  refine va_upn (by decide) ?_
  refine va_upn (by decide) ?_
  refine va_upn (by decide) ?_
  refine va_upn (by decide) ?_
  refine va_upn (by decide) ?_
  refine va_upn (by decide) ?_
  refine va_upn (by decide) ?_
  refine va_upn (by decide) ?_
  refine va_upn (by decide) ?_
  refine va_upn (by decide) ?_
  refine va_upn (by decide) ?_
  refine va_upn (by decide) ?_
  exact va_ups.trans rfl
theorem we_20 (b : Nat) (D : va_G) (AI : FieldType → ClassId) : wEnd (wGm b D AI) 20 = wE (wGm b D AI) wS0 20 (.inl (.int, 9, 0, 0)) := by
  unfold wEnd
  refine va_upn (by decide) ?_
  unfold wEb
  refine (eM_off (by decide) (by decide)).trans ?_
  refine va_upn (by decide) ?_
  unfold wEa eW
  refine (eSnaps_off 3 (by decide) (by decide)).trans ?_
  unfold eW11
  refine va_upn (by decide) ?_
  refine va_upn (by decide) ?_
  unfold eW10
  refine va_upn (by decide) ?_
  refine (eSi_off (by decide) (by decide)).trans ?_
  refine va_upn (by decide) ?_
  unfold eW9
  refine va_upn (by decide) ?_
  refine va_upn (by decide) ?_
  unfold eW8
  refine va_upn (by decide) ?_
  refine (ePa_off (by decide) (by decide)).trans ?_
  refine va_upn (by decide) ?_
  unfold eW7
  refine va_upn (by decide) ?_
  refine (eNum_off (by decide) (by decide)).trans ?_
  refine va_upn (by decide) ?_
  unfold eW6
  refine va_upn (by decide) ?_
  refine (eGr_off (by decide) (by decide)).trans ?_
  refine va_upn (by decide) ?_
  unfold eW5
  refine va_upn (by decide) ?_
  refine (eSe_off (by decide) (by decide)).trans ?_
  refine va_upn (by decide) ?_
  unfold eW4
  refine va_upn (by decide) ?_
  unfold eAh
  refine va_upn (by decide) ?_
  refine va_upn (by decide) ?_
  refine va_upn (by decide) ?_
  refine va_upn (by decide) ?_
  refine va_upn (by decide) ?_
  refine va_upn (by decide) ?_
  refine va_upn (by decide) ?_
  exact va_ups.trans rfl
theorem we_21 (b : Nat) (D : va_G) (AI : FieldType → ClassId) : wEnd (wGm b D AI) 21 = wE (wGm b D AI) wS0 21 (.inl (.int, 36, 0, 0)) := by
  unfold wEnd
  refine va_upn (by decide) ?_
  unfold wEb
  refine (eM_off (by decide) (by decide)).trans ?_
  refine va_upn (by decide) ?_
  unfold wEa eW
  refine (eSnaps_off 3 (by decide) (by decide)).trans ?_
  unfold eW11
  refine va_upn (by decide) ?_
  refine va_upn (by decide) ?_
  unfold eW10
  refine va_upn (by decide) ?_
  refine (eSi_off (by decide) (by decide)).trans ?_
  refine va_upn (by decide) ?_
  unfold eW9
  refine va_upn (by decide) ?_
  refine va_upn (by decide) ?_
  unfold eW8
  refine va_upn (by decide) ?_
  refine (ePa_off (by decide) (by decide)).trans ?_
  refine va_upn (by decide) ?_
  unfold eW7
  refine va_upn (by decide) ?_
  refine (eNum_off (by decide) (by decide)).trans ?_
  refine va_upn (by decide) ?_
  unfold eW6
  refine va_upn (by decide) ?_
  refine (eGr_off (by decide) (by decide)).trans ?_
  refine va_upn (by decide) ?_
  unfold eW5
  refine va_upn (by decide) ?_
  refine (eSe_off (by decide) (by decide)).trans ?_
  refine va_upn (by decide) ?_
  unfold eW4
  refine va_upn (by decide) ?_
  unfold eAh
  refine va_upn (by decide) ?_
  refine va_upn (by decide) ?_
  refine va_upn (by decide) ?_
  refine va_upn (by decide) ?_
  refine va_upn (by decide) ?_
  exact va_ups.trans rfl
theorem we_22 (b : Nat) (D : va_G) (AI : FieldType → ClassId) : wEnd (wGm b D AI) 22 = wE (wGm b D AI) wS0 22 (.inl (.int, 9, 0, 0)) := by
  unfold wEnd
  refine va_upn (by decide) ?_
  unfold wEb
  refine (eM_off (by decide) (by decide)).trans ?_
  refine va_upn (by decide) ?_
  unfold wEa eW
  refine (eSnaps_off 3 (by decide) (by decide)).trans ?_
  unfold eW11
  refine va_upn (by decide) ?_
  refine va_upn (by decide) ?_
  unfold eW10
  refine va_upn (by decide) ?_
  refine (eSi_off (by decide) (by decide)).trans ?_
  refine va_upn (by decide) ?_
  unfold eW9
  refine va_upn (by decide) ?_
  refine va_upn (by decide) ?_
  unfold eW8
  refine va_upn (by decide) ?_
  refine (ePa_off (by decide) (by decide)).trans ?_
  refine va_upn (by decide) ?_
  unfold eW7
  refine va_upn (by decide) ?_
  refine (eNum_off (by decide) (by decide)).trans ?_
  refine va_upn (by decide) ?_
  unfold eW6
  refine va_upn (by decide) ?_
  refine (eGr_off (by decide) (by decide)).trans ?_
  refine va_upn (by decide) ?_
  unfold eW5
  refine va_upn (by decide) ?_
  refine (eSe_off (by decide) (by decide)).trans ?_
  refine va_upn (by decide) ?_
  unfold eW4
  refine va_upn (by decide) ?_
  unfold eAh
  refine va_upn (by decide) ?_
  refine va_upn (by decide) ?_
  refine va_upn (by decide) ?_
  exact va_ups.trans rfl
theorem we_23 (b : Nat) (D : va_G) (AI : FieldType → ClassId) : wEnd (wGm b D AI) 23 = wE (wGm b D AI) wS0 23 (.inr (6, [some 24, none, some 25, none, some 26, some 27, none, none, none, none, none])) := by
  unfold wEnd
  refine va_upn (by decide) ?_
  unfold wEb
  refine (eM_off (by decide) (by decide)).trans ?_
  refine va_upn (by decide) ?_
  unfold wEa eW
  refine (eSnaps_off 3 (by decide) (by decide)).trans ?_
  unfold eW11
  refine va_upn (by decide) ?_
  refine va_upn (by decide) ?_
  unfold eW10
  refine va_upn (by decide) ?_
  refine (eSi_off (by decide) (by decide)).trans ?_
  refine va_upn (by decide) ?_
  unfold eW9
  refine va_upn (by decide) ?_
  refine va_upn (by decide) ?_
  unfold eW8
  refine va_upn (by decide) ?_
  refine (ePa_off (by decide) (by decide)).trans ?_
  refine va_upn (by decide) ?_
  unfold eW7
  refine va_upn (by decide) ?_
  refine (eNum_off (by decide) (by decide)).trans ?_
  refine va_upn (by decide) ?_
  unfold eW6
  refine va_upn (by decide) ?_
  refine (eGr_off (by decide) (by decide)).trans ?_
  refine va_upn (by decide) ?_
  unfold eW5
  refine va_upn (by decide) ?_
  unfold eSe
  exact va_ups.trans rfl
theorem we_24 (b : Nat) (D : va_G) (AI : FieldType → ClassId) : wEnd (wGm b D AI) 24 = wE (wGm b D AI) wS0 24 (.inl (.long, 3000, 0, 0)) := by
  unfold wEnd
  refine va_upn (by decide) ?_
  unfold wEb
  refine (eM_off (by decide) (by decide)).trans ?_
  refine va_upn (by decide) ?_
  unfold wEa eW
  refine (eSnaps_off 3 (by decide) (by decide)).trans ?_
  unfold eW11
  refine va_upn (by decide) ?_
  refine va_upn (by decide) ?_
  unfold eW10
  refine va_upn (by decide) ?_
  refine (eSi_off (by decide) (by decide)).trans ?_
  refine va_upn (by decide) ?_
  unfold eW9
  refine va_upn (by decide) ?_
  refine va_upn (by decide) ?_
  unfold eW8
  refine va_upn (by decide) ?_
  refine (ePa_off (by decide) (by decide)).trans ?_
  refine va_upn (by decide) ?_
  unfold eW7
  refine va_upn (by decide) ?_
  refine (eNum_off (by decide) (by decide)).trans ?_
  refine va_upn (by decide) ?_
  unfold eW6
  refine va_upn (by decide) ?_
  refine (eGr_off (by decide) (by decide)).trans ?_
  refine va_upn (by decide) ?_
  unfold eW5
  refine va_upn (by decide) ?_
  unfold eSe
  refine va_upn (by decide) ?_
  refine va_upn (by decide) ?_
  refine va_upn (by decide) ?_
  refine va_upn (by decide) ?_
  refine va_upn (by decide) ?_
  refine va_upn (by decide) ?_
  refine va_upn (by decide) ?_
  refine va_upn (by decide) ?_
  refine va_upn (by decide) ?_
  refine va_upn (by decide) ?_
  refine va_upn (by decide) ?_
  refine va_upn (by decide) ?_
  refine va_upn (by decide) ?_
  refine va_upn (by decide) ?_
  exact va_ups.trans rfl
theorem we_25 (b : Nat) (D : va_G) (AI : FieldType → ClassId) : wEnd (wGm b D AI) 25 = wE (wGm b D AI) wS0 25 (.inl (.long, 2048, 0, 0)) := by
  unfold wEnd
  refine va_upn (by decide) ?_
  unfold wEb
  refine (eM_off (by decide) (by decide)).trans ?_
  refine va_upn (by decide) ?_
  unfold wEa eW
  refine (eSnaps_off 3 (by decide) (by decide)).trans ?_
  unfold eW11
  refine va_upn (by decide) ?_
  refine va_upn (by decide) ?_
  unfold eW10
  refine va_upn (by decide) ?_
  refine (eSi_off (by decide) (by decide)).trans ?_
  refine va_upn (by decide) ?_
  unfold eW9
  refine va_upn (by decide) ?_
  refine va_upn (by decide) ?_
  unfold eW8
  refine va_upn (by decide) ?_
  refine (ePa_off (by decide) (by decide)).trans ?_
  refine va_upn (by decide) ?_
  unfold eW7
  refine va_upn (by decide) ?_
  refine (eNum_off (by decide) (by decide)).trans ?_
  refine va_upn (by decide) ?_
  unfold eW6
  refine va_upn (by decide) ?_
  refine (eGr_off (by decide) (by decide)).trans ?_
  refine va_upn (by decide) ?_
  unfold eW5
  refine va_upn (by decide) ?_
  unfold eSe
  refine va_upn (by decide) ?_
  refine va_upn (by decide) ?_
  refine va_upn (by decide) ?_
  refine va_upn (by decide) ?_
  refine va_upn (by decide) ?_
  refine va_upn (by decide) ?_
  refine va_upn (by decide) ?_
  refine va_upn (by decide) ?_
  refine va_upn (by decide) ?_
  refine va_upn (by decide) ?_
  refine va_upn (by decide) ?_
  exact va_ups.trans rfl
theorem we_26 (b : Nat) (D : va_G) (AI : FieldType → ClassId) : wEnd (wGm b D AI) 26 = wE (wGm b D AI) wS0 26 (.inl (.int, 72, 0, 0)) := by
  unfold wEnd
  refine va_upn (by decide) ?_
  unfold wEb
  refine (eM_off (by decide) (by decide)).trans ?_
  refine va_upn (by decide) ?_
  unfold wEa eW
  refine (eSnaps_off 3 (by decide) (by decide)).trans ?_
  unfold eW11
  refine va_upn (by decide) ?_
  refine va_upn (by decide) ?_
  unfold eW10
  refine va_upn (by decide) ?_
  refine (eSi_off (by decide) (by decide)).trans ?_
  refine va_upn (by decide) ?_
  unfold eW9
  refine va_upn (by decide) ?_
  refine va_upn (by decide) ?_
  unfold eW8
  refine va_upn (by decide) ?_
  refine (ePa_off (by decide) (by decide)).trans ?_
  refine va_upn (by decide) ?_
  unfold eW7
  refine va_upn (by decide) ?_
  refine (eNum_off (by decide) (by decide)).trans ?_
  refine va_upn (by decide) ?_
  unfold eW6
  refine va_upn (by decide) ?_
  refine (eGr_off (by decide) (by decide)).trans ?_
  refine va_upn (by decide) ?_
  unfold eW5
  refine va_upn (by decide) ?_
  unfold eSe
  refine va_upn (by decide) ?_
  refine va_upn (by decide) ?_
  refine va_upn (by decide) ?_
  refine va_upn (by decide) ?_
  refine va_upn (by decide) ?_
  refine va_upn (by decide) ?_
  refine va_upn (by decide) ?_
  refine va_upn (by decide) ?_
  exact va_ups.trans rfl
theorem we_27 (b : Nat) (D : va_G) (AI : FieldType → ClassId) : wEnd (wGm b D AI) 27 = wE (wGm b D AI) wS0 27 (.inl (.int, 72, 0, 0)) := by
  unfold wEnd
  refine va_upn (by decide) ?_
  unfold wEb
  refine (eM_off (by decide) (by decide)).trans ?_
  refine va_upn (by decide) ?_
  unfold wEa eW
  refine (eSnaps_off 3 (by decide) (by decide)).trans ?_
  unfold eW11
  refine va_upn (by decide) ?_
  refine va_upn (by decide) ?_
  unfold eW10
  refine va_upn (by decide) ?_
  refine (eSi_off (by decide) (by decide)).trans ?_
  refine va_upn (by decide) ?_
  unfold eW9
  refine va_upn (by decide) ?_
  refine va_upn (by decide) ?_
  unfold eW8
  refine va_upn (by decide) ?_
  refine (ePa_off (by decide) (by decide)).trans ?_
  refine va_upn (by decide) ?_
  unfold eW7
  refine va_upn (by decide) ?_
  refine (eNum_off (by decide) (by decide)).trans ?_
  refine va_upn (by decide) ?_
  unfold eW6
  refine va_upn (by decide) ?_
  refine (eGr_off (by decide) (by decide)).trans ?_
  refine va_upn (by decide) ?_
  unfold eW5
  refine va_upn (by decide) ?_
  unfold eSe
  refine va_upn (by decide) ?_
  refine va_upn (by decide) ?_
  refine va_upn (by decide) ?_
  refine va_upn (by decide) ?_
  refine va_upn (by decide) ?_
  refine va_upn (by decide) ?_
  exact va_ups.trans rfl
theorem we_28 (b : Nat) (D : va_G) (AI : FieldType → ClassId) : wEnd (wGm b D AI) 28 = wE (wGm b D AI) wS0 28 (.inr (1, [some 29, some 30, none, some 31])) := by
  unfold wEnd
  refine va_upn (by decide) ?_
  unfold wEb
  refine (eM_off (by decide) (by decide)).trans ?_
  refine va_upn (by decide) ?_
  unfold wEa eW
  refine (eSnaps_off 3 (by decide) (by decide)).trans ?_
  unfold eW11
  refine va_upn (by decide) ?_
  refine va_upn (by decide) ?_
  unfold eW10
  refine va_upn (by decide) ?_
  refine (eSi_off (by decide) (by decide)).trans ?_
  refine va_upn (by decide) ?_
  unfold eW9
  refine va_upn (by decide) ?_
  refine va_upn (by decide) ?_
  unfold eW8
  refine va_upn (by decide) ?_
  refine (ePa_off (by decide) (by decide)).trans ?_
  refine va_upn (by decide) ?_
  unfold eW7
  refine va_upn (by decide) ?_
  refine (eNum_off (by decide) (by decide)).trans ?_
  refine va_upn (by decide) ?_
  unfold eW6
  refine va_upn (by decide) ?_
  unfold eGr
  exact va_ups.trans rfl
theorem we_29 (b : Nat) (D : va_G) (AI : FieldType → ClassId) : wEnd (wGm b D AI) 29 = wE (wGm b D AI) wS0 29 (.inl (.int, 9, 0, 0)) := by
  unfold wEnd
  refine va_upn (by decide) ?_
  unfold wEb
  refine (eM_off (by decide) (by decide)).trans ?_
  refine va_upn (by decide) ?_
  unfold wEa eW
  refine (eSnaps_off 3 (by decide) (by decide)).trans ?_
  unfold eW11
  refine va_upn (by decide) ?_
  refine va_upn (by decide) ?_
  unfold eW10
  refine va_upn (by decide) ?_
  refine (eSi_off (by decide) (by decide)).trans ?_
  refine va_upn (by decide) ?_
  unfold eW9
  refine va_upn (by decide) ?_
  refine va_upn (by decide) ?_
  unfold eW8
  refine va_upn (by decide) ?_
  refine (ePa_off (by decide) (by decide)).trans ?_
  refine va_upn (by decide) ?_
  unfold eW7
  refine va_upn (by decide) ?_
  refine (eNum_off (by decide) (by decide)).trans ?_
  refine va_upn (by decide) ?_
  unfold eW6
  refine va_upn (by decide) ?_
  unfold eGr
  refine va_upn (by decide) ?_
  refine va_upn (by decide) ?_
  refine va_upn (by decide) ?_
  refine va_upn (by decide) ?_
  refine va_upn (by decide) ?_
  refine va_upn (by decide) ?_
  exact va_ups.trans rfl
theorem we_30 (b : Nat) (D : va_G) (AI : FieldType → ClassId) : wEnd (wGm b D AI) 30 = wE (wGm b D AI) wS0 30 (.inl (.int, 9, 0, 0)) := by
  unfold wEnd
  refine va_upn (by decide) ?_
  unfold wEb
  refine (eM_off (by decide) (by decide)).trans ?_
  refine va_upn (by decide) ?_
  unfold wEa eW
  refine (eSnaps_off 3 (by decide) (by decide)).trans ?_
  unfold eW11
  refine va_upn (by decide) ?_
  refine va_upn (by decide) ?_
  unfold eW10
  refine va_upn (by decide) ?_
  refine (eSi_off (by decide) (by decide)).trans ?_
  refine va_upn (by decide) ?_
  unfold eW9
  refine va_upn (by decide) ?_
  refine va_upn (by decide) ?_
  unfold eW8
  refine va_upn (by decide) ?_
  refine (ePa_off (by decide) (by decide)).trans ?_
  refine va_upn (by decide) ?_
  unfold eW7
  refine va_upn (by decide) ?_
  refine (eNum_off (by decide) (by decide)).trans ?_
  refine va_upn (by decide) ?_
  unfold eW6
  refine va_upn (by decide) ?_
  unfold eGr
  refine va_upn (by decide) ?_
  refine va_upn (by decide) ?_
  refine va_upn (by decide) ?_
  refine va_upn (by decide) ?_
  exact va_ups.trans rfl
theorem we_31 (b : Nat) (D : va_G) (AI : FieldType → ClassId) : wEnd (wGm b D AI) 31 = wE (wGm b D AI) wS0 31 (.inl (.int, 9, 0, 0)) := by
  unfold wEnd
  refine va_upn (by decide) ?_
  unfold wEb
  refine (eM_off (by decide) (by decide)).trans ?_
  refine va_upn (by decide) ?_
  unfold wEa eW
  refine (eSnaps_off 3 (by decide) (by decide)).trans ?_
  unfold eW11
  refine va_upn (by decide) ?_
  refine va_upn (by decide) ?_
  unfold eW10
  refine va_upn (by decide) ?_
  refine (eSi_off (by decide) (by decide)).trans ?_
  refine va_upn (by decide) ?_
  unfold eW9
  refine va_upn (by decide) ?_
  refine va_upn (by decide) ?_
  unfold eW8
  refine va_upn (by decide) ?_
  refine (ePa_off (by decide) (by decide)).trans ?_
  refine va_upn (by decide) ?_
  unfold eW7
  refine va_upn (by decide) ?_
  refine (eNum_off (by decide) (by decide)).trans ?_
  refine va_upn (by decide) ?_
  unfold eW6
  refine va_upn (by decide) ?_
  unfold eGr
  refine va_upn (by decide) ?_
  exact va_ups.trans rfl
theorem we_32 (b : Nat) (D : va_G) (AI : FieldType → ClassId) : wEnd (wGm b D AI) 32 = wE (wGm b D AI) wS0 32 (.inr (3, [some 33, none])) := by
  unfold wEnd
  refine va_upn (by decide) ?_
  unfold wEb
  refine (eM_off (by decide) (by decide)).trans ?_
  refine va_upn (by decide) ?_
  unfold wEa eW
  refine (eSnaps_off 3 (by decide) (by decide)).trans ?_
  unfold eW11
  refine va_upn (by decide) ?_
  refine va_upn (by decide) ?_
  unfold eW10
  refine va_upn (by decide) ?_
  refine (eSi_off (by decide) (by decide)).trans ?_
  refine va_upn (by decide) ?_
  unfold eW9
  refine va_upn (by decide) ?_
  refine va_upn (by decide) ?_
  unfold eW8
  refine va_upn (by decide) ?_
  refine (ePa_off (by decide) (by decide)).trans ?_
  refine va_upn (by decide) ?_
  unfold eW7
  refine va_upn (by decide) ?_
  unfold eNum
  exact va_ups.trans rfl
theorem we_33 (b : Nat) (D : va_G) (AI : FieldType → ClassId) : wEnd (wGm b D AI) 33 = wE (wGm b D AI) wS0 33 (.inl (.int, 10, 0, 0)) := by
  unfold wEnd
  refine va_upn (by decide) ?_
  unfold wEb
  refine (eM_off (by decide) (by decide)).trans ?_
  refine va_upn (by decide) ?_
  unfold wEa eW
  refine (eSnaps_off 3 (by decide) (by decide)).trans ?_
  unfold eW11
  refine va_upn (by decide) ?_
  refine va_upn (by decide) ?_
  unfold eW10
  refine va_upn (by decide) ?_
  refine (eSi_off (by decide) (by decide)).trans ?_
  refine va_upn (by decide) ?_
  unfold eW9
  refine va_upn (by decide) ?_
  refine va_upn (by decide) ?_
  unfold eW8
  refine va_upn (by decide) ?_
  refine (ePa_off (by decide) (by decide)).trans ?_
  refine va_upn (by decide) ?_
  unfold eW7
  refine va_upn (by decide) ?_
  unfold eNum
  refine va_upn (by decide) ?_
  refine va_upn (by decide) ?_
  exact va_ups.trans rfl
theorem we_34 (b : Nat) (D : va_G) (AI : FieldType → ClassId) : wEnd (wGm b D AI) 34 = wE (wGm b D AI) wS0 34 (.inr (4, [none, some 35, none])) := by
  unfold wEnd
  refine va_upn (by decide) ?_
  unfold wEb
  refine (eM_off (by decide) (by decide)).trans ?_
  refine va_upn (by decide) ?_
  unfold wEa eW
  refine (eSnaps_off 3 (by decide) (by decide)).trans ?_
  unfold eW11
  refine va_upn (by decide) ?_
  refine va_upn (by decide) ?_
  unfold eW10
  refine va_upn (by decide) ?_
  refine (eSi_off (by decide) (by decide)).trans ?_
  refine va_upn (by decide) ?_
  unfold eW9
  refine va_upn (by decide) ?_
  refine va_upn (by decide) ?_
  unfold eW8
  refine va_upn (by decide) ?_
  unfold ePa
  refine (eSnaps_off 21 (by decide) (by decide)).trans ?_
  unfold ePa0
  exact va_ups.trans rfl
theorem we_36 (b : Nat) (D : va_G) (AI : FieldType → ClassId) : wEnd (wGm b D AI) 36 = wE (wGm b D AI) wS0 36 (.inr (8, [some 37, some 38, some 39, some 40, none, none])) := by
  unfold wEnd
  refine va_upn (by decide) ?_
  unfold wEb
  refine (eM_off (by decide) (by decide)).trans ?_
  refine va_upn (by decide) ?_
  unfold wEa eW
  refine (eSnaps_off 3 (by decide) (by decide)).trans ?_
  unfold eW11
  refine va_upn (by decide) ?_
  refine va_upn (by decide) ?_
  unfold eW10
  refine va_upn (by decide) ?_
  refine (eSi_off (by decide) (by decide)).trans ?_
  refine va_upn (by decide) ?_
  unfold eW9
  refine va_upn (by decide) ?_
  refine va_upn (by decide) ?_
  unfold eW8
  refine va_upn (by decide) ?_
  unfold ePa
  unfold eSnaps
  refine va_upn (by decide) ?_
  refine (eSn_off (by decide) (by decide)).trans ?_
  refine va_upn (by decide) ?_
  unfold eSnaps
  refine va_upn (by decide) ?_
  refine (eSn_off (by decide) (by decide)).trans ?_
  refine va_upn (by decide) ?_
  unfold eSnaps
  refine va_upn (by decide) ?_
  refine (eSn_off (by decide) (by decide)).trans ?_
  refine va_upn (by decide) ?_
  unfold eSnaps
  refine va_upn (by decide) ?_
  refine (eSn_off (by decide) (by decide)).trans ?_
  refine va_upn (by decide) ?_
  unfold eSnaps
  refine va_upn (by decide) ?_
  refine (eSn_off (by decide) (by decide)).trans ?_
  refine va_upn (by decide) ?_
  unfold eSnaps
  refine va_upn (by decide) ?_
  refine (eSn_off (by decide) (by decide)).trans ?_
  refine va_upn (by decide) ?_
  unfold eSnaps
  refine va_upn (by decide) ?_
  refine (eSn_off (by decide) (by decide)).trans ?_
  refine va_upn (by decide) ?_
  unfold eSnaps
  refine va_upn (by decide) ?_
  refine (eSn_off (by decide) (by decide)).trans ?_
  refine va_upn (by decide) ?_
  unfold eSnaps
  refine va_upn (by decide) ?_
  refine (eSn_off (by decide) (by decide)).trans ?_
  refine va_upn (by decide) ?_
  unfold eSnaps
  refine va_upn (by decide) ?_
  refine (eSn_off (by decide) (by decide)).trans ?_
  refine va_upn (by decide) ?_
  unfold eSnaps
  refine va_upn (by decide) ?_
  refine (eSn_off (by decide) (by decide)).trans ?_
  refine va_upn (by decide) ?_
  unfold eSnaps
  refine va_upn (by decide) ?_
  refine (eSn_off (by decide) (by decide)).trans ?_
  refine va_upn (by decide) ?_
  unfold eSnaps
  refine va_upn (by decide) ?_
  refine (eSn_off (by decide) (by decide)).trans ?_
  refine va_upn (by decide) ?_
  unfold eSnaps
  refine va_upn (by decide) ?_
  refine (eSn_off (by decide) (by decide)).trans ?_
  refine va_upn (by decide) ?_
  unfold eSnaps
  refine va_upn (by decide) ?_
  refine (eSn_off (by decide) (by decide)).trans ?_
  refine va_upn (by decide) ?_
  unfold eSnaps
  refine va_upn (by decide) ?_
  refine (eSn_off (by decide) (by decide)).trans ?_
  refine va_upn (by decide) ?_
  unfold eSnaps
  refine va_upn (by decide) ?_
  refine (eSn_off (by decide) (by decide)).trans ?_
  refine va_upn (by decide) ?_
  unfold eSnaps
  refine va_upn (by decide) ?_
  refine (eSn_off (by decide) (by decide)).trans ?_
  refine va_upn (by decide) ?_
  unfold eSnaps
  refine va_upn (by decide) ?_
  refine (eSn_off (by decide) (by decide)).trans ?_
  refine va_upn (by decide) ?_
  unfold eSnaps
  refine va_upn (by decide) ?_
  refine (eSn_off (by decide) (by decide)).trans ?_
  refine va_upn (by decide) ?_
  unfold eSnaps
  refine va_upn (by decide) ?_
  unfold eSn
  exact va_ups.trans rfl
theorem we_37 (b : Nat) (D : va_G) (AI : FieldType → ClassId) : wEnd (wGm b D AI) 37 = wE (wGm b D AI) wS0 37 (.inl (.int, 9, 0, 0)) := by
  unfold wEnd
  refine va_upn (by decide) ?_
  unfold wEb
  refine (eM_off (by decide) (by decide)).trans ?_
  refine va_upn (by decide) ?_
  unfold wEa eW
  refine (eSnaps_off 3 (by decide) (by decide)).trans ?_
  unfold eW11
  refine va_upn (by decide) ?_
  refine va_upn (by decide) ?_
  unfold eW10
  refine va_upn (by decide) ?_
  refine (eSi_off (by decide) (by decide)).trans ?_
  refine va_upn (by decide) ?_
  unfold eW9
  refine va_upn (by decide) ?_
  refine va_upn (by decide) ?_
  unfold eW8
  refine va_upn (by decide) ?_
  unfold ePa
  unfold eSnaps
  refine va_upn (by decide) ?_
  refine (eSn_off (by decide) (by decide)).trans ?_
  refine va_upn (by decide) ?_
  unfold eSnaps
  refine va_upn (by decide) ?_
  refine (eSn_off (by decide) (by decide)).trans ?_
  refine va_upn (by decide) ?_
  unfold eSnaps
  refine va_upn (by decide) ?_
  refine (eSn_off (by decide) (by decide)).trans ?_
  refine va_upn (by decide) ?_
  unfold eSnaps
  refine va_upn (by decide) ?_
  refine (eSn_off (by decide) (by decide)).trans ?_
  refine va_upn (by decide) ?_
  unfold eSnaps
  refine va_upn (by decide) ?_
  refine (eSn_off (by decide) (by decide)).trans ?_
  refine va_upn (by decide) ?_
  unfold eSnaps
  refine va_upn (by decide) ?_
  refine (eSn_off (by decide) (by decide)).trans ?_
  refine va_upn (by decide) ?_
  unfold eSnaps
  refine va_upn (by decide) ?_
  refine (eSn_off (by decide) (by decide)).trans ?_
  refine va_upn (by decide) ?_
  unfold eSnaps
  refine va_upn (by decide) ?_
  refine (eSn_off (by decide) (by decide)).trans ?_
  refine va_upn (by decide) ?_
  unfold eSnaps
  refine va_upn (by decide) ?_
  refine (eSn_off (by decide) (by decide)).trans ?_
  refine va_upn (by decide) ?_
  unfold eSnaps
  refine va_upn (by decide) ?_
  refine (eSn_off (by decide) (by decide)).trans ?_
  refine va_upn (by decide) ?_
  unfold eSnaps
  refine va_upn (by decide) ?_
  refine (eSn_off (by decide) (by decide)).trans ?_
  refine va_upn (by decide) ?_
  unfold eSnaps
  refine va_upn (by decide) ?_
  refine (eSn_off (by decide) (by decide)).trans ?_
  refine va_upn (by decide) ?_
  unfold eSnaps
  refine va_upn (by decide) ?_
  refine (eSn_off (by decide) (by decide)).trans ?_
  refine va_upn (by decide) ?_
  unfold eSnaps
  refine va_upn (by decide) ?_
  refine (eSn_off (by decide) (by decide)).trans ?_
  refine va_upn (by decide) ?_
  unfold eSnaps
  refine va_upn (by decide) ?_
  refine (eSn_off (by decide) (by decide)).trans ?_
  refine va_upn (by decide) ?_
  unfold eSnaps
  refine va_upn (by decide) ?_
  refine (eSn_off (by decide) (by decide)).trans ?_
  refine va_upn (by decide) ?_
  unfold eSnaps
  refine va_upn (by decide) ?_
  refine (eSn_off (by decide) (by decide)).trans ?_
  refine va_upn (by decide) ?_
  unfold eSnaps
  refine va_upn (by decide) ?_
  refine (eSn_off (by decide) (by decide)).trans ?_
  refine va_upn (by decide) ?_
  unfold eSnaps
  refine va_upn (by decide) ?_
  refine (eSn_off (by decide) (by decide)).trans ?_
  refine va_upn (by decide) ?_
  unfold eSnaps
  refine va_upn (by decide) ?_
  refine (eSn_off (by decide) (by decide)).trans ?_
  refine va_upn (by decide) ?_
  unfold eSnaps
  refine va_upn (by decide) ?_
  unfold eSn
  refine va_upn (by decide) ?_
  refine va_upn (by decide) ?_
  refine va_upn (by decide) ?_
  refine va_upn (by decide) ?_
  refine va_upn (by decide) ?_
  refine va_upn (by decide) ?_
  refine va_upn (by decide) ?_
  refine va_upn (by decide) ?_
  refine va_upn (by decide) ?_
  exact va_ups.trans rfl
theorem we_38 (b : Nat) (D : va_G) (AI : FieldType → ClassId) : wEnd (wGm b D AI) 38 = wE (wGm b D AI) wS0 38 (.inl (.int, 9, 0, 0)) := by
  unfold wEnd
  refine va_upn (by decide) ?_
  unfold wEb
  refine (eM_off (by decide) (by decide)).trans ?_
  refine va_upn (by decide) ?_
  unfold wEa eW
  refine (eSnaps_off 3 (by decide) (by decide)).trans ?_
  unfold eW11
  refine va_upn (by decide) ?_
  refine va_upn (by decide) ?_
  unfold eW10
  refine va_upn (by decide) ?_
  refine (eSi_off (by decide) (by decide)).trans ?_
  refine va_upn (by decide) ?_
  unfold eW9
  refine va_upn (by decide) ?_
  refine va_upn (by decide) ?_
  unfold eW8
  refine va_upn (by decide) ?_
  unfold ePa
  unfold eSnaps
  refine va_upn (by decide) ?_
  refine (eSn_off (by decide) (by decide)).trans ?_
  refine va_upn (by decide) ?_
  unfold eSnaps
  refine va_upn (by decide) ?_
  refine (eSn_off (by decide) (by decide)).trans ?_
  refine va_upn (by decide) ?_
  unfold eSnaps
  refine va_upn (by decide) ?_
  refine (eSn_off (by decide) (by decide)).trans ?_
  refine va_upn (by decide) ?_
  unfold eSnaps
  refine va_upn (by decide) ?_
  refine (eSn_off (by decide) (by decide)).trans ?_
  refine va_upn (by decide) ?_
  unfold eSnaps
  refine va_upn (by decide) ?_
  refine (eSn_off (by decide) (by decide)).trans ?_
  refine va_upn (by decide) ?_
  unfold eSnaps
  refine va_upn (by decide) ?_
  refine (eSn_off (by decide) (by decide)).trans ?_
  refine va_upn (by decide) ?_
  unfold eSnaps
  refine va_upn (by decide) ?_
  refine (eSn_off (by decide) (by decide)).trans ?_
  refine va_upn (by decide) ?_
  unfold eSnaps
  refine va_upn (by decide) ?_
  refine (eSn_off (by decide) (by decide)).trans ?_
  refine va_upn (by decide) ?_
  unfold eSnaps
  refine va_upn (by decide) ?_
  refine (eSn_off (by decide) (by decide)).trans ?_
  refine va_upn (by decide) ?_
  unfold eSnaps
  refine va_upn (by decide) ?_
  refine (eSn_off (by decide) (by decide)).trans ?_
  refine va_upn (by decide) ?_
  unfold eSnaps
  refine va_upn (by decide) ?_
  refine (eSn_off (by decide) (by decide)).trans ?_
  refine va_upn (by decide) ?_
  unfold eSnaps
  refine va_upn (by decide) ?_
  refine (eSn_off (by decide) (by decide)).trans ?_
  refine va_upn (by decide) ?_
  unfold eSnaps
  refine va_upn (by decide) ?_
  refine (eSn_off (by decide) (by decide)).trans ?_
  refine va_upn (by decide) ?_
  unfold eSnaps
  refine va_upn (by decide) ?_
  refine (eSn_off (by decide) (by decide)).trans ?_
  refine va_upn (by decide) ?_
  unfold eSnaps
  refine va_upn (by decide) ?_
  refine (eSn_off (by decide) (by decide)).trans ?_
  refine va_upn (by decide) ?_
  unfold eSnaps
  refine va_upn (by decide) ?_
  refine (eSn_off (by decide) (by decide)).trans ?_
  refine va_upn (by decide) ?_
  unfold eSnaps
  refine va_upn (by decide) ?_
  refine (eSn_off (by decide) (by decide)).trans ?_
  refine va_upn (by decide) ?_
  unfold eSnaps
  refine va_upn (by decide) ?_
  refine (eSn_off (by decide) (by decide)).trans ?_
  refine va_upn (by decide) ?_
  unfold eSnaps
  refine va_upn (by decide) ?_
  refine (eSn_off (by decide) (by decide)).trans ?_
  refine va_upn (by decide) ?_
  unfold eSnaps
  refine va_upn (by decide) ?_
  refine (eSn_off (by decide) (by decide)).trans ?_
  refine va_upn (by decide) ?_
  unfold eSnaps
  refine va_upn (by decide) ?_
  unfold eSn
  refine va_upn (by decide) ?_
  refine va_upn (by decide) ?_
  refine va_upn (by decide) ?_
  refine va_upn (by decide) ?_
  refine va_upn (by decide) ?_
  refine va_upn (by decide) ?_
  refine va_upn (by decide) ?_
  exact va_ups.trans rfl
theorem we_39 (b : Nat) (D : va_G) (AI : FieldType → ClassId) : wEnd (wGm b D AI) 39 = wE (wGm b D AI) wS0 39 (.inl (.int, 9, 0, 0)) := by
  unfold wEnd
  refine va_upn (by decide) ?_
  unfold wEb
  refine (eM_off (by decide) (by decide)).trans ?_
  refine va_upn (by decide) ?_
  unfold wEa eW
  refine (eSnaps_off 3 (by decide) (by decide)).trans ?_
  unfold eW11
  refine va_upn (by decide) ?_
  refine va_upn (by decide) ?_
  unfold eW10
  refine va_upn (by decide) ?_
  refine (eSi_off (by decide) (by decide)).trans ?_
  refine va_upn (by decide) ?_
  unfold eW9
  refine va_upn (by decide) ?_
  refine va_upn (by decide) ?_
  unfold eW8
  refine va_upn (by decide) ?_
  unfold ePa
  unfold eSnaps
  refine va_upn (by decide) ?_
  refine (eSn_off (by decide) (by decide)).trans ?_
  refine va_upn (by decide) ?_
  unfold eSnaps
  refine va_upn (by decide) ?_
  refine (eSn_off (by decide) (by decide)).trans ?_
  refine va_upn (by decide) ?_
  unfold eSnaps
  refine va_upn (by decide) ?_
  refine (eSn_off (by decide) (by decide)).trans ?_
  refine va_upn (by decide) ?_
  unfold eSnaps
  refine va_upn (by decide) ?_
  refine (eSn_off (by decide) (by decide)).trans ?_
  refine va_upn (by decide) ?_
  unfold eSnaps
  refine va_upn (by decide) ?_
  refine (eSn_off (by decide) (by decide)).trans ?_
  refine va_upn (by decide) ?_
  unfold eSnaps
  refine va_upn (by decide) ?_
  refine (eSn_off (by decide) (by decide)).trans ?_
  refine va_upn (by decide) ?_
  unfold eSnaps
  refine va_upn (by decide) ?_
  refine (eSn_off (by decide) (by decide)).trans ?_
  refine va_upn (by decide) ?_
  unfold eSnaps
  refine va_upn (by decide) ?_
  refine (eSn_off (by decide) (by decide)).trans ?_
  refine va_upn (by decide) ?_
  unfold eSnaps
  refine va_upn (by decide) ?_
  refine (eSn_off (by decide) (by decide)).trans ?_
  refine va_upn (by decide) ?_
  unfold eSnaps
  refine va_upn (by decide) ?_
  refine (eSn_off (by decide) (by decide)).trans ?_
  refine va_upn (by decide) ?_
  unfold eSnaps
  refine va_upn (by decide) ?_
  refine (eSn_off (by decide) (by decide)).trans ?_
  refine va_upn (by decide) ?_
  unfold eSnaps
  refine va_upn (by decide) ?_
  refine (eSn_off (by decide) (by decide)).trans ?_
  refine va_upn (by decide) ?_
  unfold eSnaps
  refine va_upn (by decide) ?_
  refine (eSn_off (by decide) (by decide)).trans ?_
  refine va_upn (by decide) ?_
  unfold eSnaps
  refine va_upn (by decide) ?_
  refine (eSn_off (by decide) (by decide)).trans ?_
  refine va_upn (by decide) ?_
  unfold eSnaps
  refine va_upn (by decide) ?_
  refine (eSn_off (by decide) (by decide)).trans ?_
  refine va_upn (by decide) ?_
  unfold eSnaps
  refine va_upn (by decide) ?_
  refine (eSn_off (by decide) (by decide)).trans ?_
  refine va_upn (by decide) ?_
  unfold eSnaps
  refine va_upn (by decide) ?_
  refine (eSn_off (by decide) (by decide)).trans ?_
  refine va_upn (by decide) ?_
  unfold eSnaps
  refine va_upn (by decide) ?_
  refine (eSn_off (by decide) (by decide)).trans ?_
  refine va_upn (by decide) ?_
  unfold eSnaps
  refine va_upn (by decide) ?_
  refine (eSn_off (by decide) (by decide)).trans ?_
  refine va_upn (by decide) ?_
  unfold eSnaps
  refine va_upn (by decide) ?_
  refine (eSn_off (by decide) (by decide)).trans ?_
  refine va_upn (by decide) ?_
  unfold eSnaps
  refine va_upn (by decide) ?_
  unfold eSn
  refine va_upn (by decide) ?_
  refine va_upn (by decide) ?_
  refine va_upn (by decide) ?_
  refine va_upn (by decide) ?_
  refine va_upn (by decide) ?_
  exact va_ups.trans rfl
theorem we_40 (b : Nat) (D : va_G) (AI : FieldType → ClassId) : wEnd (wGm b D AI) 40 = wE (wGm b D AI) wS0 40 (.inl (.int, 3, 0, 0)) := by
  unfold wEnd
  refine va_upn (by decide) ?_
  unfold wEb
  refine (eM_off (by decide) (by decide)).trans ?_
  refine va_upn (by decide) ?_
  unfold wEa eW
  refine (eSnaps_off 3 (by decide) (by decide)).trans ?_
  unfold eW11
  refine va_upn (by decide) ?_
  refine va_upn (by decide) ?_
  unfold eW10
  refine va_upn (by decide) ?_
  refine (eSi_off (by decide) (by decide)).trans ?_
  refine va_upn (by decide) ?_
  unfold eW9
  refine va_upn (by decide) ?_
  refine va_upn (by decide) ?_
  unfold eW8
  refine va_upn (by decide) ?_
  unfold ePa
  unfold eSnaps
  refine va_upn (by decide) ?_
  refine (eSn_off (by decide) (by decide)).trans ?_
  refine va_upn (by decide) ?_
  unfold eSnaps
  refine va_upn (by decide) ?_
  refine (eSn_off (by decide) (by decide)).trans ?_
  refine va_upn (by decide) ?_
  unfold eSnaps
  refine va_upn (by decide) ?_
  refine (eSn_off (by decide) (by decide)).trans ?_
  refine va_upn (by decide) ?_
  unfold eSnaps
  refine va_upn (by decide) ?_
  refine (eSn_off (by decide) (by decide)).trans ?_
  refine va_upn (by decide) ?_
  unfold eSnaps
  refine va_upn (by decide) ?_
  refine (eSn_off (by decide) (by decide)).trans ?_
  refine va_upn (by decide) ?_
  unfold eSnaps
  refine va_upn (by decide) ?_
  refine (eSn_off (by decide) (by decide)).trans ?_
  refine va_upn (by decide) ?_
  unfold eSnaps
  refine va_upn (by decide) ?_
  refine (eSn_off (by decide) (by decide)).trans ?_
  refine va_upn (by decide) ?_
  unfold eSnaps
  refine va_upn (by decide) ?_
  refine (eSn_off (by decide) (by decide)).trans ?_
  refine va_upn (by decide) ?_
  unfold eSnaps
  refine va_upn (by decide) ?_
  refine (eSn_off (by decide) (by decide)).trans ?_
  refine va_upn (by decide) ?_
  unfold eSnaps
  refine va_upn (by decide) ?_
  refine (eSn_off (by decide) (by decide)).trans ?_
  refine va_upn (by decide) ?_
  unfold eSnaps
  refine va_upn (by decide) ?_
  refine (eSn_off (by decide) (by decide)).trans ?_
  refine va_upn (by decide) ?_
  unfold eSnaps
  refine va_upn (by decide) ?_
  refine (eSn_off (by decide) (by decide)).trans ?_
  refine va_upn (by decide) ?_
  unfold eSnaps
  refine va_upn (by decide) ?_
  refine (eSn_off (by decide) (by decide)).trans ?_
  refine va_upn (by decide) ?_
  unfold eSnaps
  refine va_upn (by decide) ?_
  refine (eSn_off (by decide) (by decide)).trans ?_
  refine va_upn (by decide) ?_
  unfold eSnaps
  refine va_upn (by decide) ?_
  refine (eSn_off (by decide) (by decide)).trans ?_
  refine va_upn (by decide) ?_
  unfold eSnaps
  refine va_upn (by decide) ?_
  refine (eSn_off (by decide) (by decide)).trans ?_
  refine va_upn (by decide) ?_
  unfold eSnaps
  refine va_upn (by decide) ?_
  refine (eSn_off (by decide) (by decide)).trans ?_
  refine va_upn (by decide) ?_
  unfold eSnaps
  refine va_upn (by decide) ?_
  refine (eSn_off (by decide) (by decide)).trans ?_
  refine va_upn (by decide) ?_
  unfold eSnaps
  refine va_upn (by decide) ?_
  refine (eSn_off (by decide) (by decide)).trans ?_
  refine va_upn (by decide) ?_
  unfold eSnaps
  refine va_upn (by decide) ?_
  refine (eSn_off (by decide) (by decide)).trans ?_
  refine va_upn (by decide) ?_
  unfold eSnaps
  refine va_upn (by decide) ?_
  unfold eSn
  refine va_upn (by decide) ?_
  refine va_upn (by decide) ?_
  refine va_upn (by decide) ?_
  exact va_ups.trans rfl
theorem we_41 (b : Nat) (D : va_G) (AI : FieldType → ClassId) : wEnd (wGm b D AI) 41 = wE (wGm b D AI) wS0 41 (.inr (8, [some 42, some 43, some 44, some 45, none, none])) := by
  unfold wEnd
  refine va_upn (by decide) ?_
  unfold wEb
  refine (eM_off (by decide) (by decide)).trans ?_
  refine va_upn (by decide) ?_
  unfold wEa eW
  refine (eSnaps_off 3 (by decide) (by decide)).trans ?_
  unfold eW11
  refine va_upn (by decide) ?_
  refine va_upn (by decide) ?_
  unfold eW10
  refine va_upn (by decide) ?_
  refine (eSi_off (by decide) (by decide)).trans ?_
  refine va_upn (by decide) ?_
  unfold eW9
  refine va_upn (by decide) ?_
  refine va_upn (by decide) ?_
  unfold eW8
  refine va_upn (by decide) ?_
  unfold ePa
  unfold eSnaps
  refine va_upn (by decide) ?_
  refine (eSn_off (by decide) (by decide)).trans ?_
  refine va_upn (by decide) ?_
  unfold eSnaps
  refine va_upn (by decide) ?_
  refine (eSn_off (by decide) (by decide)).trans ?_
  refine va_upn (by decide) ?_
  unfold eSnaps
  refine va_upn (by decide) ?_
  refine (eSn_off (by decide) (by decide)).trans ?_
  refine va_upn (by decide) ?_
  unfold eSnaps
  refine va_upn (by decide) ?_
  refine (eSn_off (by decide) (by decide)).trans ?_
  refine va_upn (by decide) ?_
  unfold eSnaps
  refine va_upn (by decide) ?_
  refine (eSn_off (by decide) (by decide)).trans ?_
  refine va_upn (by decide) ?_
  unfold eSnaps
  refine va_upn (by decide) ?_
  refine (eSn_off (by decide) (by decide)).trans ?_
  refine va_upn (by decide) ?_
  unfold eSnaps
  refine va_upn (by decide) ?_
  refine (eSn_off (by decide) (by decide)).trans ?_
  refine va_upn (by decide) ?_
  unfold eSnaps
  refine va_upn (by decide) ?_
  refine (eSn_off (by decide) (by decide)).trans ?_
  refine va_upn (by decide) ?_
  unfold eSnaps
  refine va_upn (by decide) ?_
  refine (eSn_off (by decide) (by decide)).trans ?_
  refine va_upn (by decide) ?_
  unfold eSnaps
  refine va_upn (by decide) ?_
  refine (eSn_off (by decide) (by decide)).trans ?_
  refine va_upn (by decide) ?_
  unfold eSnaps
  refine va_upn (by decide) ?_
  refine (eSn_off (by decide) (by decide)).trans ?_
  refine va_upn (by decide) ?_
  unfold eSnaps
  refine va_upn (by decide) ?_
  refine (eSn_off (by decide) (by decide)).trans ?_
  refine va_upn (by decide) ?_
  unfold eSnaps
  refine va_upn (by decide) ?_
  refine (eSn_off (by decide) (by decide)).trans ?_
  refine va_upn (by decide) ?_
  unfold eSnaps
  refine va_upn (by decide) ?_
  refine (eSn_off (by decide) (by decide)).trans ?_
  refine va_upn (by decide) ?_
  unfold eSnaps
  refine va_upn (by decide) ?_
  refine (eSn_off (by decide) (by decide)).trans ?_
  refine va_upn (by decide) ?_
  unfold eSnaps
  refine va_upn (by decide) ?_
  refine (eSn_off (by decide) (by decide)).trans ?_
  refine va_upn (by decide) ?_
  unfold eSnaps
  refine va_upn (by decide) ?_
  refine (eSn_off (by decide) (by decide)).trans ?_
  refine va_upn (by decide) ?_
  unfold eSnaps
  refine va_upn (by decide) ?_
  refine (eSn_off (by decide) (by decide)).trans ?_
  refine va_upn (by decide) ?_
  unfold eSnaps
  refine va_upn (by decide) ?_
  refine (eSn_off (by decide) (by decide)).trans ?_
  refine va_upn (by decide) ?_
  unfold eSnaps
  refine va_upn (by decide) ?_
  unfold eSn
  exact va_ups.trans rfl
theorem we_42 (b : Nat) (D : va_G) (AI : FieldType → ClassId) : wEnd (wGm b D AI) 42 = wE (wGm b D AI) wS0 42 (.inl (.int, 9, 0, 0)) := by
  unfold wEnd
  refine va_upn (by decide) ?_
  unfold wEb
  refine (eM_off (by decide) (by decide)).trans ?_
  refine va_upn (by decide) ?_
  unfold wEa eW
  refine (eSnaps_off 3 (by decide) (by decide)).trans ?_
  unfold eW11
  refine va_upn (by decide) ?_
  refine va_upn (by decide) ?_
  unfold eW10
  refine va_upn (by decide) ?_
  refine (eSi_off (by decide) (by decide)).trans ?_
  refine va_upn (by decide) ?_
  unfold eW9
  refine va_upn (by decide) ?_
  refine va_upn (by decide) ?_
  unfold eW8
  refine va_upn (by decide) ?_
  unfold ePa
  unfold eSnaps
  refine va_upn (by decide) ?_
  refine (eSn_off (by decide) (by decide)).trans ?_
  refine va_upn (by decide) ?_
  unfold eSnaps
  refine va_upn (by decide) ?_
  refine (eSn_off (by decide) (by decide)).trans ?_
  refine va_upn (by decide) ?_
  unfold eSnaps
  refine va_upn (by decide) ?_
  refine (eSn_off (by decide) (by decide)).trans ?_
  refine va_upn (by decide) ?_
  unfold eSnaps
  refine va_upn (by decide) ?_
  refine (eSn_off (by decide) (by decide)).trans ?_
  refine va_upn (by decide) ?_
  unfold eSnaps
  refine va_upn (by decide) ?_
  refine (eSn_off (by decide) (by decide)).trans ?_
  refine va_upn (by decide) ?_
  unfold eSnaps
  refine va_upn (by decide) ?_
  refine (eSn_off (by decide) (by decide)).trans ?_
  refine va_upn (by decide) ?_
  unfold eSnaps
  refine va_upn (by decide) ?_
  refine (eSn_off (by decide) (by decide)).trans ?_
  refine va_upn (by decide) ?_
  unfold eSnaps
  refine va_upn (by decide) ?_
  refine (eSn_off (by decide) (by decide)).trans ?_
  refine va_upn (by decide) ?_
  unfold eSnaps
  refine va_upn (by decide) ?_
  refine (eSn_off (by decide) (by decide)).trans ?_
  refine va_upn (by decide) ?_
  unfold eSnaps
  refine va_upn (by decide) ?_
  refine (eSn_off (by decide) (by decide)).trans ?_
  refine va_upn (by decide) ?_
  unfold eSnaps
  refine va_upn (by decide) ?_
  refine (eSn_off (by decide) (by decide)).trans ?_
  refine va_upn (by decide) ?_
  unfold eSnaps
  refine va_upn (by decide) ?_
  refine (eSn_off (by decide) (by decide)).trans ?_
  refine va_upn (by decide) ?_
  unfold eSnaps
  refine va_upn (by decide) ?_
  refine (eSn_off (by decide) (by decide)).trans ?_
  refine va_upn (by decide) ?_
  unfold eSnaps
  refine va_upn (by decide) ?_
  refine (eSn_off (by decide) (by decide)).trans ?_
  refine va_upn (by decide) ?_
  unfold eSnaps
  refine va_upn (by decide) ?_
  refine (eSn_off (by decide) (by decide)).trans ?_
  refine va_upn (by decide) ?_
  unfold eSnaps
  refine va_upn (by decide) ?_
  refine (eSn_off (by decide) (by decide)).trans ?_
  refine va_upn (by decide) ?_
  unfold eSnaps
  refine va_upn (by decide) ?_
  refine (eSn_off (by decide) (by decide)).trans ?_
  refine va_upn (by decide) ?_
  unfold eSnaps
  refine va_upn (by decide) ?_
  refine (eSn_off (by decide) (by decide)).trans ?_
  refine va_upn (by decide) ?_
  unfold eSnaps
  refine va_upn (by decide) ?_
  refine (eSn_off (by decide) (by decide)).trans ?_
  refine va_upn (by decide) ?_
  unfold eSnaps
  refine va_upn (by decide) ?_
  unfold eSn
  refine va_upn (by decide) ?_
  refine va_upn (by decide) ?_
  refine va_upn (by decide) ?_
  refine va_upn (by decide) ?_
  refine va_upn (by decide) ?_
  refine va_upn (by decide) ?_
  refine va_upn (by decide) ?_
  refine va_upn (by decide) ?_
  refine va_upn (by decide) ?_
  exact va_ups.trans rfl
theorem we_43 (b : Nat) (D : va_G) (AI : FieldType → ClassId) : wEnd (wGm b D AI) 43 = wE (wGm b D AI) wS0 43 (.inl (.int, 9, 0, 0)) := by
  unfold wEnd
  refine va_upn (by decide) ?_
  unfold wEb
  refine (eM_off (by decide) (by decide)).trans ?_
  refine va_upn (by decide) ?_
  unfold wEa eW
  refine (eSnaps_off 3 (by decide) (by decide)).trans ?_
  unfold eW11
  refine va_upn (by decide) ?_
  refine va_upn (by decide) ?_
  unfold eW10
  refine va_upn (by decide) ?_
  refine (eSi_off (by decide) (by decide)).trans ?_
  refine va_upn (by decide) ?_
  unfold eW9
  refine va_upn (by decide) ?_
  refine va_upn (by decide) ?_
  unfold eW8
  refine va_upn (by decide) ?_
  unfold ePa
  unfold eSnaps
  refine va_upn (by decide) ?_
  refine (eSn_off (by decide) (by decide)).trans ?_
  refine va_upn (by decide) ?_
  unfold eSnaps
  refine va_upn (by decide) ?_
  refine (eSn_off (by decide) (by decide)).trans ?_
  refine va_upn (by decide) ?_
  unfold eSnaps
  refine va_upn (by decide) ?_
  refine (eSn_off (by decide) (by decide)).trans ?_
  refine va_upn (by decide) ?_
  unfold eSnaps
  refine va_upn (by decide) ?_
  refine (eSn_off (by decide) (by decide)).trans ?_
  refine va_upn (by decide) ?_
  unfold eSnaps
  refine va_upn (by decide) ?_
  refine (eSn_off (by decide) (by decide)).trans ?_
  refine va_upn (by decide) ?_
  unfold eSnaps
  refine va_upn (by decide) ?_
  refine (eSn_off (by decide) (by decide)).trans ?_
  refine va_upn (by decide) ?_
  unfold eSnaps
  refine va_upn (by decide) ?_
  refine (eSn_off (by decide) (by decide)).trans ?_
  refine va_upn (by decide) ?_
  unfold eSnaps
  refine va_upn (by decide) ?_
  refine (eSn_off (by decide) (by decide)).trans ?_
  refine va_upn (by decide) ?_
  unfold eSnaps
  refine va_upn (by decide) ?_
  refine (eSn_off (by decide) (by decide)).trans ?_
  refine va_upn (by decide) ?_
  unfold eSnaps
  refine va_upn (by decide) ?_
  refine (eSn_off (by decide) (by decide)).trans ?_
  refine va_upn (by decide) ?_
  unfold eSnaps
  refine va_upn (by decide) ?_
  refine (eSn_off (by decide) (by decide)).trans ?_
  refine va_upn (by decide) ?_
  unfold eSnaps
  refine va_upn (by decide) ?_
  refine (eSn_off (by decide) (by decide)).trans ?_
  refine va_upn (by decide) ?_
  unfold eSnaps
  refine va_upn (by decide) ?_
  refine (eSn_off (by decide) (by decide)).trans ?_
  refine va_upn (by decide) ?_
  unfold eSnaps
  refine va_upn (by decide) ?_
  refine (eSn_off (by decide) (by decide)).trans ?_
  refine va_upn (by decide) ?_
  unfold eSnaps
  refine va_upn (by decide) ?_
  refine (eSn_off (by decide) (by decide)).trans ?_
  refine va_upn (by decide) ?_
  unfold eSnaps
  refine va_upn (by decide) ?_
  refine (eSn_off (by decide) (by decide)).trans ?_
  refine va_upn (by decide) ?_
  unfold eSnaps
  refine va_upn (by decide) ?_
  refine (eSn_off (by decide) (by decide)).trans ?_
  refine va_upn (by decide) ?_
  unfold eSnaps
  refine va_upn (by decide) ?_
  refine (eSn_off (by decide) (by decide)).trans ?_
  refine va_upn (by decide) ?_
  unfold eSnaps
  refine va_upn (by decide) ?_
  refine (eSn_off (by decide) (by decide)).trans ?_
  refine va_upn (by decide) ?_
  unfold eSnaps
  refine va_upn (by decide) ?_
  unfold eSn
  refine va_upn (by decide) ?_
  refine va_upn (by decide) ?_
  refine va_upn (by decide) ?_
  refine va_upn (by decide) ?_
  refine va_upn (by decide) ?_
  refine va_upn (by decide) ?_
  refine va_upn (by decide) ?_
  exact va_ups.trans rfl
theorem we_44 (b : Nat) (D : va_G) (AI : FieldType → ClassId) : wEnd (wGm b D AI) 44 = wE (wGm b D AI) wS0 44 (.inl (.int, 9, 0, 0)) := by
  unfold wEnd
  refine va_upn (by decide) ?_
  unfold wEb
  refine (eM_off (by decide) (by decide)).trans ?_
  refine va_upn (by decide) ?_
  unfold wEa eW
  refine (eSnaps_off 3 (by decide) (by decide)).trans ?_
  unfold eW11
  refine va_upn (by decide) ?_
  refine va_upn (by decide) ?_
  unfold eW10
  refine va_upn (by decide) ?_
  refine (eSi_off (by decide) (by decide)).trans ?_
  refine va_upn (by decide) ?_
  unfold eW9
  refine va_upn (by decide) ?_
  refine va_upn (by decide) ?_
  unfold eW8
  refine va_upn (by decide) ?_
  unfold ePa
  unfold eSnaps
  refine va_upn (by decide) ?_
  refine (eSn_off (by decide) (by decide)).trans ?_
  refine va_upn (by decide) ?_
  unfold eSnaps
  refine va_upn (by decide) ?_
  refine (eSn_off (by decide) (by decide)).trans ?_
  refine va_upn (by decide) ?_
  unfold eSnaps
  refine va_upn (by decide) ?_
  refine (eSn_off (by decide) (by decide)).trans ?_
  refine va_upn (by decide) ?_
  unfold eSnaps
  refine va_upn (by decide) ?_
  refine (eSn_off (by decide) (by decide)).trans ?_
  refine va_upn (by decide) ?_
  unfold eSnaps
  refine va_upn (by decide) ?_
  refine (eSn_off (by decide) (by decide)).trans ?_
  refine va_upn (by decide) ?_
  unfold eSnaps
  refine va_upn (by decide) ?_
  refine (eSn_off (by decide) (by decide)).trans ?_
  refine va_upn (by decide) ?_
  unfold eSnaps
  refine va_upn (by decide) ?_
  refine (eSn_off (by decide) (by decide)).trans ?_
  refine va_upn (by decide) ?_
  unfold eSnaps
  refine va_upn (by decide) ?_
  refine (eSn_off (by decide) (by decide)).trans ?_
  refine va_upn (by decide) ?_
  unfold eSnaps
  refine va_upn (by decide) ?_
  refine (eSn_off (by decide) (by decide)).trans ?_
  refine va_upn (by decide) ?_
  unfold eSnaps
  refine va_upn (by decide) ?_
  refine (eSn_off (by decide) (by decide)).trans ?_
  refine va_upn (by decide) ?_
  unfold eSnaps
  refine va_upn (by decide) ?_
  refine (eSn_off (by decide) (by decide)).trans ?_
  refine va_upn (by decide) ?_
  unfold eSnaps
  refine va_upn (by decide) ?_
  refine (eSn_off (by decide) (by decide)).trans ?_
  refine va_upn (by decide) ?_
  unfold eSnaps
  refine va_upn (by decide) ?_
  refine (eSn_off (by decide) (by decide)).trans ?_
  refine va_upn (by decide) ?_
  unfold eSnaps
  refine va_upn (by decide) ?_
  refine (eSn_off (by decide) (by decide)).trans ?_
  refine va_upn (by decide) ?_
  unfold eSnaps
  refine va_upn (by decide) ?_
  refine (eSn_off (by decide) (by decide)).trans ?_
  refine va_upn (by decide) ?_
  unfold eSnaps
  refine va_upn (by decide) ?_
  refine (eSn_off (by decide) (by decide)).trans ?_
  refine va_upn (by decide) ?_
  unfold eSnaps
  refine va_upn (by decide) ?_
  refine (eSn_off (by decide) (by decide)).trans ?_
  refine va_upn (by decide) ?_
  unfold eSnaps
  refine va_upn (by decide) ?_
  refine (eSn_off (by decide) (by decide)).trans ?_
  refine va_upn (by decide) ?_
  unfold eSnaps
  refine va_upn (by decide) ?_
  refine (eSn_off (by decide) (by decide)).trans ?_
  refine va_upn (by decide) ?_
  unfold eSnaps
  refine va_upn (by decide) ?_
  unfold eSn
  refine va_upn (by decide) ?_
  refine va_upn (by decide) ?_
  refine va_upn (by decide) ?_
  refine va_upn (by decide) ?_
  refine va_upn (by decide) ?_
  exact va_ups.trans rfl
theorem we_45 (b : Nat) (D : va_G) (AI : FieldType → ClassId) : wEnd (wGm b D AI) 45 = wE (wGm b D AI) wS0 45 (.inl (.int, 3, 0, 0)) := by
  unfold wEnd
  refine va_upn (by decide) ?_
  unfold wEb
  refine (eM_off (by decide) (by decide)).trans ?_
  refine va_upn (by decide) ?_
  unfold wEa eW
  refine (eSnaps_off 3 (by decide) (by decide)).trans ?_
  unfold eW11
  refine va_upn (by decide) ?_
  refine va_upn (by decide) ?_
  unfold eW10
  refine va_upn (by decide) ?_
  refine (eSi_off (by decide) (by decide)).trans ?_
  refine va_upn (by decide) ?_
  unfold eW9
  refine va_upn (by decide) ?_
  refine va_upn (by decide) ?_
  unfold eW8
  refine va_upn (by decide) ?_
  unfold ePa
  unfold eSnaps
  refine va_upn (by decide) ?_
  refine (eSn_off (by decide) (by decide)).trans ?_
  refine va_upn (by decide) ?_
  unfold eSnaps
  refine va_upn (by decide) ?_
  refine (eSn_off (by decide) (by decide)).trans ?_
  refine va_upn (by decide) ?_
  unfold eSnaps
  refine va_upn (by decide) ?_
  refine (eSn_off (by decide) (by decide)).trans ?_
  refine va_upn (by decide) ?_
  unfold eSnaps
  refine va_upn (by decide) ?_
  refine (eSn_off (by decide) (by decide)).trans ?_
  refine va_upn (by decide) ?_
  unfold eSnaps
  refine va_upn (by decide) ?_
  refine (eSn_off (by decide) (by decide)).trans ?_
  refine va_upn (by decide) ?_
  unfold eSnaps
  refine va_upn (by decide) ?_
  refine (eSn_off (by decide) (by decide)).trans ?_
  refine va_upn (by decide) ?_
  unfold eSnaps
  refine va_upn (by decide) ?_
  refine (eSn_off (by decide) (by decide)).trans ?_
  refine va_upn (by decide) ?_
  unfold eSnaps
  refine va_upn (by decide) ?_
  refine (eSn_off (by decide) (by decide)).trans ?_
  refine va_upn (by decide) ?_
  unfold eSnaps
  refine va_upn (by decide) ?_
  refine (eSn_off (by decide) (by decide)).trans ?_
  refine va_upn (by decide) ?_
  unfold eSnaps
  refine va_upn (by decide) ?_
  refine (eSn_off (by decide) (by decide)).trans ?_
  refine va_upn (by decide) ?_
  unfold eSnaps
  refine va_upn (by decide) ?_
  refine (eSn_off (by decide) (by decide)).trans ?_
  refine va_upn (by decide) ?_
  unfold eSnaps
  refine va_upn (by decide) ?_
  refine (eSn_off (by decide) (by decide)).trans ?_
  refine va_upn (by decide) ?_
  unfold eSnaps
  refine va_upn (by decide) ?_
  refine (eSn_off (by decide) (by decide)).trans ?_
  refine va_upn (by decide) ?_
  unfold eSnaps
  refine va_upn (by decide) ?_
  refine (eSn_off (by decide) (by decide)).trans ?_
  refine va_upn (by decide) ?_
  unfold eSnaps
  refine va_upn (by decide) ?_
  refine (eSn_off (by decide) (by decide)).trans ?_
  refine va_upn (by decide) ?_
  unfold eSnaps
  refine va_upn (by decide) ?_
  refine (eSn_off (by decide) (by decide)).trans ?_
  refine va_upn (by decide) ?_
  unfold eSnaps
  refine va_upn (by decide) ?_
  refine (eSn_off (by decide) (by decide)).trans ?_
  refine va_upn (by decide) ?_
  unfold eSnaps
  refine va_upn (by decide) ?_
  refine (eSn_off (by decide) (by decide)).trans ?_
  refine va_upn (by decide) ?_
  unfold eSnaps
  refine va_upn (by decide) ?_
  refine (eSn_off (by decide) (by decide)).trans ?_
  refine va_upn (by decide) ?_
  unfold eSnaps
  refine va_upn (by decide) ?_
  unfold eSn
  refine va_upn (by decide) ?_
  refine va_upn (by decide) ?_
  refine va_upn (by decide) ?_
  exact va_ups.trans rfl
theorem we_46 (b : Nat) (D : va_G) (AI : FieldType → ClassId) : wEnd (wGm b D AI) 46 = wE (wGm b D AI) wS0 46 (.inr (8, [some 47, some 48, some 49, some 50, none, none])) := by
  unfold wEnd
  refine va_upn (by decide) ?_
  unfold wEb
  refine (eM_off (by decide) (by decide)).trans ?_
  refine va_upn (by decide) ?_
  unfold wEa eW
  refine (eSnaps_off 3 (by decide) (by decide)).trans ?_
  unfold eW11
  refine va_upn (by decide) ?_
  refine va_upn (by decide) ?_
  unfold eW10
  refine va_upn (by decide) ?_
  refine (eSi_off (by decide) (by decide)).trans ?_
  refine va_upn (by decide) ?_
  unfold eW9
  refine va_upn (by decide) ?_
  refine va_upn (by decide) ?_
  unfold eW8
  refine va_upn (by decide) ?_
  unfold ePa
  unfold eSnaps
  refine va_upn (by decide) ?_
  refine (eSn_off (by decide) (by decide)).trans ?_
  refine va_upn (by decide) ?_
  unfold eSnaps
  refine va_upn (by decide) ?_
  refine (eSn_off (by decide) (by decide)).trans ?_
  refine va_upn (by decide) ?_
  unfold eSnaps
  refine va_upn (by decide) ?_
  refine (eSn_off (by decide) (by decide)).trans ?_
  refine va_upn (by decide) ?_
  unfold eSnaps
  refine va_upn (by decide) ?_
  refine (eSn_off (by decide) (by decide)).trans ?_
  refine va_upn (by decide) ?_
  unfold eSnaps
  refine va_upn (by decide) ?_
  refine (eSn_off (by decide) (by decide)).trans ?_
  refine va_upn (by decide) ?_
  unfold eSnaps
  refine va_upn (by decide) ?_
  refine (eSn_off (by decide) (by decide)).trans ?_
  refine va_upn (by decide) ?_
  unfold eSnaps
  refine va_upn (by decide) ?_
  refine (eSn_off (by decide) (by decide)).trans ?_
  refine va_upn (by decide) ?_
  unfold eSnaps
  refine va_upn (by decide) ?_
  refine (eSn_off (by decide) (by decide)).trans ?_
  refine va_upn (by decide) ?_
  unfold eSnaps
  refine va_upn (by decide) ?_
  refine (eSn_off (by decide) (by decide)).trans ?_
  refine va_upn (by decide) ?_
  unfold eSnaps
  refine va_upn (by decide) ?_
  refine (eSn_off (by decide) (by decide)).trans ?_
  refine va_upn (by decide) ?_
  unfold eSnaps
  refine va_upn (by decide) ?_
  refine (eSn_off (by decide) (by decide)).trans ?_
  refine va_upn (by decide) ?_
  unfold eSnaps
  refine va_upn (by decide) ?_
  refine (eSn_off (by decide) (by decide)).trans ?_
  refine va_upn (by decide) ?_
  unfold eSnaps
  refine va_upn (by decide) ?_
  refine (eSn_off (by decide) (by decide)).trans ?_
  refine va_upn (by decide) ?_
  unfold eSnaps
  refine va_upn (by decide) ?_
  refine (eSn_off (by decide) (by decide)).trans ?_
  refine va_upn (by decide) ?_
  unfold eSnaps
  refine va_upn (by decide) ?_
  refine (eSn_off (by decide) (by decide)).trans ?_
  refine va_upn (by decide) ?_
  unfold eSnaps
  refine va_upn (by decide) ?_
  refine (eSn_off (by decide) (by decide)).trans ?_
  refine va_upn (by decide) ?_
  unfold eSnaps
  refine va_upn (by decide) ?_
  refine (eSn_off (by decide) (by decide)).trans ?_
  refine va_upn (by decide) ?_
  unfold eSnaps
  refine va_upn (by decide) ?_
  refine (eSn_off (by decide) (by decide)).trans ?_
  refine va_upn (by decide) ?_
  unfold eSnaps
  refine va_upn (by decide) ?_
  unfold eSn
  exact va_ups.trans rfl
theorem we_47 (b : Nat) (D : va_G) (AI : FieldType → ClassId) : wEnd (wGm b D AI) 47 = wE (wGm b D AI) wS0 47 (.inl (.int, 9, 0, 0)) := by
  unfold wEnd
  refine va_upn (by decide) ?_
  unfold wEb
  refine (eM_off (by decide) (by decide)).trans ?_
  refine va_upn (by decide) ?_
  unfold wEa eW
  refine (eSnaps_off 3 (by decide) (by decide)).trans ?_
  unfold eW11
  refine va_upn (by decide) ?_
  refine va_upn (by decide) ?_
  unfold eW10
  refine va_upn (by decide) ?_
  refine (eSi_off (by decide) (by decide)).trans ?_
  refine va_upn (by decide) ?_
  unfold eW9
  refine va_upn (by decide) ?_
  refine va_upn (by decide) ?_
  unfold eW8
  refine va_upn (by decide) ?_
  unfold ePa
  unfold eSnaps
  refine va_upn (by decide) ?_
  refine (eSn_off (by decide) (by decide)).trans ?_
  refine va_upn (by decide) ?_
  unfold eSnaps
  refine va_upn (by decide) ?_
  refine (eSn_off (by decide) (by decide)).trans ?_
  refine va_upn (by decide) ?_
  unfold eSnaps
  refine va_upn (by decide) ?_
  refine (eSn_off (by decide) (by decide)).trans ?_
  refine va_upn (by decide) ?_
  unfold eSnaps
  refine va_upn (by decide) ?_
  refine (eSn_off (by decide) (by decide)).trans ?_
  refine va_upn (by decide) ?_
  unfold eSnaps
  refine va_upn (by decide) ?_
  refine (eSn_off (by decide) (by decide)).trans ?_
  refine va_upn (by decide) ?_
  unfold eSnaps
  refine va_upn (by decide) ?_
  refine (eSn_off (by decide) (by decide)).trans ?_
  refine va_upn (by decide) ?_
  unfold eSnaps
  refine va_upn (by decide) ?_
  refine (eSn_off (by decide) (by decide)).trans ?_
  refine va_upn (by decide) ?_
  unfold eSnaps
  refine va_upn (by decide) ?_
  refine (eSn_off (by decide) (by decide)).trans ?_
  refine va_upn (by decide) ?_
  unfold eSnaps
  refine va_upn (by decide) ?_
  refine (eSn_off (by decide) (by decide)).trans ?_
  refine va_upn (by decide) ?_
  unfold eSnaps
  refine va_upn (by decide) ?_
  refine (eSn_off (by decide) (by decide)).trans ?_
  refine va_upn (by decide) ?_
  unfold eSnaps
  refine va_upn (by decide) ?_
  refine (eSn_off (by decide) (by decide)).trans ?_
  refine va_upn (by decide) ?_
  unfold eSnaps
  refine va_upn (by decide) ?_
  refine (eSn_off (by decide) (by decide)).trans ?_
  refine va_upn (by decide) ?_
  unfold eSnaps
  refine va_upn (by decide) ?_
  refine (eSn_off (by decide) (by decide)).trans ?_
  refine va_upn (by decide) ?_
  unfold eSnaps
  refine va_upn (by decide) ?_
  refine (eSn_off (by decide) (by decide)).trans ?_
  refine va_upn (by decide) ?_
  unfold eSnaps
  refine va_upn (by decide) ?_
  refine (eSn_off (by decide) (by decide)).trans ?_
  refine va_upn (by decide) ?_
  unfold eSnaps
  refine va_upn (by decide) ?_
  refine (eSn_off (by decide) (by decide)).trans ?_
  refine va_upn (by decide) ?_
  unfold eSnaps
  refine va_upn (by decide) ?_
  refine (eSn_off (by decide) (by decide)).trans ?_
  refine va_upn (by decide) ?_
  unfold eSnaps
  refine va_upn (by decide) ?_
  refine (eSn_off (by decide) (by decide)).trans ?_
  refine va_upn (by decide) ?_
  unfold eSnaps
  refine va_upn (by decide) ?_
  unfold eSn
  refine va_upn (by decide) ?_
  refine va_upn (by decide) ?_
  refine va_upn (by decide) ?_
  refine va_upn (by decide) ?_
  refine va_upn (by decide) ?_
  refine va_upn (by decide) ?_
  refine va_upn (by decide) ?_
  refine va_upn (by decide) ?_
  refine va_upn (by decide) ?_
  exact va_ups.trans rfl
theorem we_48 (b : Nat) (D : va_G) (AI : FieldType → ClassId) : wEnd (wGm b D AI) 48 = wE (wGm b D AI) wS0 48 (.inl (.int, 9, 0, 0)) := by
  unfold wEnd
  refine va_upn (by decide) ?_
  unfold wEb
  refine (eM_off (by decide) (by decide)).trans ?_
  refine va_upn (by decide) ?_
  unfold wEa eW
  refine (eSnaps_off 3 (by decide) (by decide)).trans ?_
  unfold eW11
  refine va_upn (by decide) ?_
  refine va_upn (by decide) ?_
  unfold eW10
  refine va_upn (by decide) ?_
  refine (eSi_off (by decide) (by decide)).trans ?_
  refine va_upn (by decide) ?_
  unfold eW9
  refine va_upn (by decide) ?_
  refine va_upn (by decide) ?_
  unfold eW8
  refine va_upn (by decide) ?_
  unfold ePa
  unfold eSnaps
  refine va_upn (by decide) ?_
  refine (eSn_off (by decide) (by decide)).trans ?_
  refine va_upn (by decide) ?_
  unfold eSnaps
  refine va_upn (by decide) ?_
  refine (eSn_off (by decide) (by decide)).trans ?_
  refine va_upn (by decide) ?_
  unfold eSnaps
  refine va_upn (by decide) ?_
  refine (eSn_off (by decide) (by decide)).trans ?_
  refine va_upn (by decide) ?_
  unfold eSnaps
  refine va_upn (by decide) ?_
  refine (eSn_off (by decide) (by decide)).trans ?_
  refine va_upn (by decide) ?_
  unfold eSnaps
  refine va_upn (by decide) ?_
  refine (eSn_off (by decide) (by decide)).trans ?_
  refine va_upn (by decide) ?_
  unfold eSnaps
  refine va_upn (by decide) ?_
  refine (eSn_off (by decide) (by decide)).trans ?_
  refine va_upn (by decide) ?_
  unfold eSnaps
  refine va_upn (by decide) ?_
  refine (eSn_off (by decide) (by decide)).trans ?_
  refine va_upn (by decide) ?_
  unfold eSnaps
  refine va_upn (by decide) ?_
  refine (eSn_off (by decide) (by decide)).trans ?_
  refine va_upn (by decide) ?_
  unfold eSnaps
  refine va_upn (by decide) ?_
  refine (eSn_off (by decide) (by decide)).trans ?_
  refine va_upn (by decide) ?_
  unfold eSnaps
  refine va_upn (by decide) ?_
  refine (eSn_off (by decide) (by decide)).trans ?_
  refine va_upn (by decide) ?_
  unfold eSnaps
  refine va_upn (by decide) ?_
  refine (eSn_off (by decide) (by decide)).trans ?_
  refine va_upn (by decide) ?_
  unfold eSnaps
  refine va_upn (by decide) ?_
  refine (eSn_off (by decide) (by decide)).trans ?_
  refine va_upn (by decide) ?_
  unfold eSnaps
  refine va_upn (by decide) ?_
  refine (eSn_off (by decide) (by decide)).trans ?_
  refine va_upn (by decide) ?_
  unfold eSnaps
  refine va_upn (by decide) ?_
  refine (eSn_off (by decide) (by decide)).trans ?_
  refine va_upn (by decide) ?_
  unfold eSnaps
  refine va_upn (by decide) ?_
  refine (eSn_off (by decide) (by decide)).trans ?_
  refine va_upn (by decide) ?_
  unfold eSnaps
  refine va_upn (by decide) ?_
  refine (eSn_off (by decide) (by decide)).trans ?_
  refine va_upn (by decide) ?_
  unfold eSnaps
  refine va_upn (by decide) ?_
  refine (eSn_off (by decide) (by decide)).trans ?_
  refine va_upn (by decide) ?_
  unfold eSnaps
  refine va_upn (by decide) ?_
  refine (eSn_off (by decide) (by decide)).trans ?_
  refine va_upn (by decide) ?_
  unfold eSnaps
  refine va_upn (by decide) ?_
  unfold eSn
  refine va_upn (by decide) ?_
  refine va_upn (by decide) ?_
  refine va_upn (by decide) ?_
  refine va_upn (by decide) ?_
  refine va_upn (by decide) ?_
  refine va_upn (by decide) ?_
  refine va_upn (by decide) ?_
  exact va_ups.trans rfl
theorem we_49 (b : Nat) (D : va_G) (AI : FieldType → ClassId) : wEnd (wGm b D AI) 49 = wE (wGm b D AI) wS0 49 (.inl (.int, 9, 0, 0)) := by
  unfold wEnd
  refine va_upn (by decide) ?_
  unfold wEb
  refine (eM_off (by decide) (by decide)).trans ?_
  refine va_upn (by decide) ?_
  unfold wEa eW
  refine (eSnaps_off 3 (by decide) (by decide)).trans ?_
  unfold eW11
  refine va_upn (by decide) ?_
  refine va_upn (by decide) ?_
  unfold eW10
  refine va_upn (by decide) ?_
  refine (eSi_off (by decide) (by decide)).trans ?_
  refine va_upn (by decide) ?_
  unfold eW9
  refine va_upn (by decide) ?_
  refine va_upn (by decide) ?_
  unfold eW8
  refine va_upn (by decide) ?_
  unfold ePa
  unfold eSnaps
  refine va_upn (by decide) ?_
  refine (eSn_off (by decide) (by decide)).trans ?_
  refine va_upn (by decide) ?_
  unfold eSnaps
  refine va_upn (by decide) ?_
  refine (eSn_off (by decide) (by decide)).trans ?_
  refine va_upn (by decide) ?_
  unfold eSnaps
  refine va_upn (by decide) ?_
  refine (eSn_off (by decide) (by decide)).trans ?_
  refine va_upn (by decide) ?_
  unfold eSnaps
  refine va_upn (by decide) ?_
  refine (eSn_off (by decide) (by decide)).trans ?_
  refine va_upn (by decide) ?_
  unfold eSnaps
  refine va_upn (by decide) ?_
  refine (eSn_off (by decide) (by decide)).trans ?_
  refine va_upn (by decide) ?_
  unfold eSnaps
  refine va_upn (by decide) ?_
  refine (eSn_off (by decide) (by decide)).trans ?_
  refine va_upn (by decide) ?_
  unfold eSnaps
  refine va_upn (by decide) ?_
  refine (eSn_off (by decide) (by decide)).trans ?_
  refine va_upn (by decide) ?_
  unfold eSnaps
  refine va_upn (by decide) ?_
  refine (eSn_off (by decide) (by decide)).trans ?_
  refine va_upn (by decide) ?_
  unfold eSnaps
  refine va_upn (by decide) ?_
  refine (eSn_off (by decide) (by decide)).trans ?_
  refine va_upn (by decide) ?_
  unfold eSnaps
  refine va_upn (by decide) ?_
  refine (eSn_off (by decide) (by decide)).trans ?_
  refine va_upn (by decide) ?_
  unfold eSnaps
  refine va_upn (by decide) ?_
  refine (eSn_off (by decide) (by decide)).trans ?_
  refine va_upn (by decide) ?_
  unfold eSnaps
  refine va_upn (by decide) ?_
  refine (eSn_off (by decide) (by decide)).trans ?_
  refine va_upn (by decide) ?_
  unfold eSnaps
  refine va_upn (by decide) ?_
  refine (eSn_off (by decide) (by decide)).trans ?_
  refine va_upn (by decide) ?_
  unfold eSnaps
  refine va_upn (by decide) ?_
  refine (eSn_off (by decide) (by decide)).trans ?_
  refine va_upn (by decide) ?_
  unfold eSnaps
  refine va_upn (by decide) ?_
  refine (eSn_off (by decide) (by decide)).trans ?_
  refine va_upn (by decide) ?_
  unfold eSnaps
  refine va_upn (by decide) ?_
  refine (eSn_off (by decide) (by decide)).trans ?_
  refine va_upn (by decide) ?_
  unfold eSnaps
  refine va_upn (by decide) ?_
  refine (eSn_off (by decide) (by decide)).trans ?_
  refine va_upn (by decide) ?_
  unfold eSnaps
  refine va_upn (by decide) ?_
  refine (eSn_off (by decide) (by decide)).trans ?_
  refine va_upn (by decide) ?_
  unfold eSnaps
  refine va_upn (by decide) ?_
  unfold eSn
  refine va_upn (by decide) ?_
  refine va_upn (by decide) ?_
  refine va_upn (by decide) ?_
  refine va_upn (by decide) ?_
  refine va_upn (by decide) ?_
  exact va_ups.trans rfl
theorem we_50 (b : Nat) (D : va_G) (AI : FieldType → ClassId) : wEnd (wGm b D AI) 50 = wE (wGm b D AI) wS0 50 (.inl (.int, 3, 0, 0)) := by
  unfold wEnd
  refine va_upn (by decide) ?_
  unfold wEb
  refine (eM_off (by decide) (by decide)).trans ?_
  refine va_upn (by decide) ?_
  unfold wEa eW
  refine (eSnaps_off 3 (by decide) (by decide)).trans ?_
  unfold eW11
  refine va_upn (by decide) ?_
  refine va_upn (by decide) ?_
  unfold eW10
  refine va_upn (by decide) ?_
  refine (eSi_off (by decide) (by decide)).trans ?_
  refine va_upn (by decide) ?_
  unfold eW9
  refine va_upn (by decide) ?_
  refine va_upn (by decide) ?_
  unfold eW8
  refine va_upn (by decide) ?_
  unfold ePa
  unfold eSnaps
  refine va_upn (by decide) ?_
  refine (eSn_off (by decide) (by decide)).trans ?_
  refine va_upn (by decide) ?_
  unfold eSnaps
  refine va_upn (by decide) ?_
  refine (eSn_off (by decide) (by decide)).trans ?_
  refine va_upn (by decide) ?_
  unfold eSnaps
  refine va_upn (by decide) ?_
  refine (eSn_off (by decide) (by decide)).trans ?_
  refine va_upn (by decide) ?_
  unfold eSnaps
  refine va_upn (by decide) ?_
  refine (eSn_off (by decide) (by decide)).trans ?_
  refine va_upn (by decide) ?_
  unfold eSnaps
  refine va_upn (by decide) ?_
  refine (eSn_off (by decide) (by decide)).trans ?_
  refine va_upn (by decide) ?_
  unfold eSnaps
  refine va_upn (by decide) ?_
  refine (eSn_off (by decide) (by decide)).trans ?_
  refine va_upn (by decide) ?_
  unfold eSnaps
  refine va_upn (by decide) ?_
  refine (eSn_off (by decide) (by decide)).trans ?_
  refine va_upn (by decide) ?_
  unfold eSnaps
  refine va_upn (by decide) ?_
  refine (eSn_off (by decide) (by decide)).trans ?_
  refine va_upn (by decide) ?_
  unfold eSnaps
  refine va_upn (by decide) ?_
  refine (eSn_off (by decide) (by decide)).trans ?_
  refine va_upn (by decide) ?_
  unfold eSnaps
  refine va_upn (by decide) ?_
  refine (eSn_off (by decide) (by decide)).trans ?_
  refine va_upn (by decide) ?_
  unfold eSnaps
  refine va_upn (by decide) ?_
  refine (eSn_off (by decide) (by decide)).trans ?_
  refine va_upn (by decide) ?_
  unfold eSnaps
  refine va_upn (by decide) ?_
  refine (eSn_off (by decide) (by decide)).trans ?_
  refine va_upn (by decide) ?_
  unfold eSnaps
  refine va_upn (by decide) ?_
  refine (eSn_off (by decide) (by decide)).trans ?_
  refine va_upn (by decide) ?_
  unfold eSnaps
  refine va_upn (by decide) ?_
  refine (eSn_off (by decide) (by decide)).trans ?_
  refine va_upn (by decide) ?_
  unfold eSnaps
  refine va_upn (by decide) ?_
  refine (eSn_off (by decide) (by decide)).trans ?_
  refine va_upn (by decide) ?_
  unfold eSnaps
  refine va_upn (by decide) ?_
  refine (eSn_off (by decide) (by decide)).trans ?_
  refine va_upn (by decide) ?_
  unfold eSnaps
  refine va_upn (by decide) ?_
  refine (eSn_off (by decide) (by decide)).trans ?_
  refine va_upn (by decide) ?_
  unfold eSnaps
  refine va_upn (by decide) ?_
  refine (eSn_off (by decide) (by decide)).trans ?_
  refine va_upn (by decide) ?_
  unfold eSnaps
  refine va_upn (by decide) ?_
  unfold eSn
  refine va_upn (by decide) ?_
  refine va_upn (by decide) ?_
  refine va_upn (by decide) ?_
  exact va_ups.trans rfl
theorem we_51 (b : Nat) (D : va_G) (AI : FieldType → ClassId) : wEnd (wGm b D AI) 51 = wE (wGm b D AI) wS0 51 (.inr (8, [some 52, some 53, some 54, some 55, none, none])) := by
  unfold wEnd
  refine va_upn (by decide) ?_
  unfold wEb
  refine (eM_off (by decide) (by decide)).trans ?_
  refine va_upn (by decide) ?_
  unfold wEa eW
  refine (eSnaps_off 3 (by decide) (by decide)).trans ?_
  unfold eW11
  refine va_upn (by decide) ?_
  refine va_upn (by decide) ?_
  unfold eW10
  refine va_upn (by decide) ?_
  refine (eSi_off (by decide) (by decide)).trans ?_
  refine va_upn (by decide) ?_
  unfold eW9
  refine va_upn (by decide) ?_
  refine va_upn (by decide) ?_
  unfold eW8
  refine va_upn (by decide) ?_
  unfold ePa
  unfold eSnaps
  refine va_upn (by decide) ?_
  refine (eSn_off (by decide) (by decide)).trans ?_
  refine va_upn (by decide) ?_
  unfold eSnaps
  refine va_upn (by decide) ?_
  refine (eSn_off (by decide) (by decide)).trans ?_
  refine va_upn (by decide) ?_
  unfold eSnaps
  refine va_upn (by decide) ?_
  refine (eSn_off (by decide) (by decide)).trans ?_
  refine va_upn (by decide) ?_
  unfold eSnaps
  refine va_upn (by decide) ?_
  refine (eSn_off (by decide) (by decide)).trans ?_
  refine va_upn (by decide) ?_
  unfold eSnaps
  refine va_upn (by decide) ?_
  refine (eSn_off (by decide) (by decide)).trans ?_
  refine va_upn (by decide) ?_
  unfold eSnaps
  refine va_upn (by decide) ?_
  refine (eSn_off (by decide) (by decide)).trans ?_
  refine va_upn (by decide) ?_
  unfold eSnaps
  refine va_upn (by decide) ?_
  refine (eSn_off (by decide) (by decide)).trans ?_
  refine va_upn (by decide) ?_
  unfold eSnaps
  refine va_upn (by decide) ?_
  refine (eSn_off (by decide) (by decide)).trans ?_
  refine va_upn (by decide) ?_
  unfold eSnaps
  refine va_upn (by decide) ?_
  refine (eSn_off (by decide) (by decide)).trans ?_
  refine va_upn (by decide) ?_
  unfold eSnaps
  refine va_upn (by decide) ?_
  refine (eSn_off (by decide) (by decide)).trans ?_
  refine va_upn (by decide) ?_
  unfold eSnaps
  refine va_upn (by decide) ?_
  refine (eSn_off (by decide) (by decide)).trans ?_
  refine va_upn (by decide) ?_
  unfold eSnaps
  refine va_upn (by decide) ?_
  refine (eSn_off (by decide) (by decide)).trans ?_
  refine va_upn (by decide) ?_
  unfold eSnaps
  refine va_upn (by decide) ?_
  refine (eSn_off (by decide) (by decide)).trans ?_
  refine va_upn (by decide) ?_
  unfold eSnaps
  refine va_upn (by decide) ?_
  refine (eSn_off (by decide) (by decide)).trans ?_
  refine va_upn (by decide) ?_
  unfold eSnaps
  refine va_upn (by decide) ?_
  refine (eSn_off (by decide) (by decide)).trans ?_
  refine va_upn (by decide) ?_
  unfold eSnaps
  refine va_upn (by decide) ?_
  refine (eSn_off (by decide) (by decide)).trans ?_
  refine va_upn (by decide) ?_
  unfold eSnaps
  refine va_upn (by decide) ?_
  refine (eSn_off (by decide) (by decide)).trans ?_
  refine va_upn (by decide) ?_
  unfold eSnaps
  refine va_upn (by decide) ?_
  unfold eSn
  exact va_ups.trans rfl
theorem we_52 (b : Nat) (D : va_G) (AI : FieldType → ClassId) : wEnd (wGm b D AI) 52 = wE (wGm b D AI) wS0 52 (.inl (.int, 9, 0, 0)) := by
  unfold wEnd
  refine va_upn (by decide) ?_
  unfold wEb
  refine (eM_off (by decide) (by decide)).trans ?_
  refine va_upn (by decide) ?_
  unfold wEa eW
  refine (eSnaps_off 3 (by decide) (by decide)).trans ?_
  unfold eW11
  refine va_upn (by decide) ?_
  refine va_upn (by decide) ?_
  unfold eW10
  refine va_upn (by decide) ?_
  refine (eSi_off (by decide) (by decide)).trans ?_
  refine va_upn (by decide) ?_
  unfold eW9
  refine va_upn (by decide) ?_
  refine va_upn (by decide) ?_
  unfold eW8
  refine va_upn (by decide) ?_
  unfold ePa
  unfold eSnaps
  refine va_upn (by decide) ?_
  refine (eSn_off (by decide) (by decide)).trans ?_
  refine va_upn (by decide) ?_
  unfold eSnaps
  refine va_upn (by decide) ?_
  refine (eSn_off (by decide) (by decide)).trans ?_
  refine va_upn (by decide) ?_
  unfold eSnaps
  refine va_upn (by decide) ?_
  refine (eSn_off (by decide) (by decide)).trans ?_
  refine va_upn (by decide) ?_
  unfold eSnaps
  refine va_upn (by decide) ?_
  refine (eSn_off (by decide) (by decide)).trans ?_
  refine va_upn (by decide) ?_
  unfold eSnaps
  refine va_upn (by decide) ?_
  refine (eSn_off (by decide) (by decide)).trans ?_
  refine va_upn (by decide) ?_
  unfold eSnaps
  refine va_upn (by decide) ?_
  refine (eSn_off (by decide) (by decide)).trans ?_
  refine va_upn (by decide) ?_
  unfold eSnaps
  refine va_upn (by decide) ?_
  refine (eSn_off (by decide) (by decide)).trans ?_
  refine va_upn (by decide) ?_
  unfold eSnaps
  refine va_upn (by decide) ?_
  refine (eSn_off (by decide) (by decide)).trans ?_
  refine va_upn (by decide) ?_
  unfold eSnaps
  refine va_upn (by decide) ?_
  refine (eSn_off (by decide) (by decide)).trans ?_
  refine va_upn (by decide) ?_
  unfold eSnaps
  refine va_upn (by decide) ?_
  refine (eSn_off (by decide) (by decide)).trans ?_
  refine va_upn (by decide) ?_
  unfold eSnaps
  refine va_upn (by decide) ?_
  refine (eSn_off (by decide) (by decide)).trans ?_
  refine va_upn (by decide) ?_
  unfold eSnaps
  refine va_upn (by decide) ?_
  refine (eSn_off (by decide) (by decide)).trans ?_
  refine va_upn (by decide) ?_
  unfold eSnaps
  refine va_upn (by decide) ?_
  refine (eSn_off (by decide) (by decide)).trans ?_
  refine va_upn (by decide) ?_
  unfold eSnaps
  refine va_upn (by decide) ?_
  refine (eSn_off (by decide) (by decide)).trans ?_
  refine va_upn (by decide) ?_
  unfold eSnaps
  refine va_upn (by decide) ?_
  refine (eSn_off (by decide) (by decide)).trans ?_
  refine va_upn (by decide) ?_
  unfold eSnaps
  refine va_upn (by decide) ?_
  refine (eSn_off (by decide) (by decide)).trans ?_
  refine va_upn (by decide) ?_
  unfold eSnaps
  refine va_upn (by decide) ?_
  refine (eSn_off (by decide) (by decide)).trans ?_
  refine va_upn (by decide) ?_
  unfold eSnaps
  refine va_upn (by decide) ?_
  unfold eSn
  refine va_upn (by decide) ?_
  refine va_upn (by decide) ?_
  refine va_upn (by decide) ?_
  refine va_upn (by decide) ?_
  refine va_upn (by decide) ?_
  refine va_upn (by decide) ?_
  refine va_upn (by decide) ?_
  refine va_upn (by decide) ?_
  refine va_upn (by decide) ?_
  exact va_ups.trans rfl
theorem we_53 (b : Nat) (D : va_G) (AI : FieldType → ClassId) : wEnd (wGm b D AI) 53 = wE (wGm b D AI) wS0 53 (.inl (.int, 9, 0, 0)) := by
  unfold wEnd
  refine va_upn (by decide) ?_
  unfold wEb
  refine (eM_off (by decide) (by decide)).trans ?_
  refine va_upn (by decide) ?_
  unfold wEa eW
  refine (eSnaps_off 3 (by decide) (by decide)).trans ?_
  unfold eW11
  refine va_upn (by decide) ?_
  refine va_upn (by decide) ?_
  unfold eW10
  refine va_upn (by decide) ?_
  refine (eSi_off (by decide) (by decide)).trans ?_
  refine va_upn (by decide) ?_
  unfold eW9
  refine va_upn (by decide) ?_
  refine va_upn (by decide) ?_
  unfold eW8
  refine va_upn (by decide) ?_
  unfold ePa
  unfold eSnaps
  refine va_upn (by decide) ?_
  refine (eSn_off (by decide) (by decide)).trans ?_
  refine va_upn (by decide) ?_
  unfold eSnaps
  refine va_upn (by decide) ?_
  refine (eSn_off (by decide) (by decide)).trans ?_
  refine va_upn (by decide) ?_
  unfold eSnaps
  refine va_upn (by decide) ?_
  refine (eSn_off (by decide) (by decide)).trans ?_
  refine va_upn (by decide) ?_
  unfold eSnaps
  refine va_upn (by decide) ?_
  refine (eSn_off (by decide) (by decide)).trans ?_
  refine va_upn (by decide) ?_
  unfold eSnaps
  refine va_upn (by decide) ?_
  refine (eSn_off (by decide) (by decide)).trans ?_
  refine va_upn (by decide) ?_
  unfold eSnaps
  refine va_upn (by decide) ?_
  refine (eSn_off (by decide) (by decide)).trans ?_
  refine va_upn (by decide) ?_
  unfold eSnaps
  refine va_upn (by decide) ?_
  refine (eSn_off (by decide) (by decide)).trans ?_
  refine va_upn (by decide) ?_
  unfold eSnaps
  refine va_upn (by decide) ?_
  refine (eSn_off (by decide) (by decide)).trans ?_
  refine va_upn (by decide) ?_
  unfold eSnaps
  refine va_upn (by decide) ?_
  refine (eSn_off (by decide) (by decide)).trans ?_
  refine va_upn (by decide) ?_
  unfold eSnaps
  refine va_upn (by decide) ?_
  refine (eSn_off (by decide) (by decide)).trans ?_
  refine va_upn (by decide) ?_
  unfold eSnaps
  refine va_upn (by decide) ?_
  refine (eSn_off (by decide) (by decide)).trans ?_
  refine va_upn (by decide) ?_
  unfold eSnaps
  refine va_upn (by decide) ?_
  refine (eSn_off (by decide) (by decide)).trans ?_
  refine va_upn (by decide) ?_
  unfold eSnaps
  refine va_upn (by decide) ?_
  refine (eSn_off (by decide) (by decide)).trans ?_
  refine va_upn (by decide) ?_
  unfold eSnaps
  refine va_upn (by decide) ?_
  refine (eSn_off (by decide) (by decide)).trans ?_
  refine va_upn (by decide) ?_
  unfold eSnaps
  refine va_upn (by decide) ?_
  refine (eSn_off (by decide) (by decide)).trans ?_
  refine va_upn (by decide) ?_
  unfold eSnaps
  refine va_upn (by decide) ?_
  refine (eSn_off (by decide) (by decide)).trans ?_
  refine va_upn (by decide) ?_
  unfold eSnaps
  refine va_upn (by decide) ?_
  refine (eSn_off (by decide) (by decide)).trans ?_
  refine va_upn (by decide) ?_
  unfold eSnaps
  refine va_upn (by decide) ?_
  unfold eSn
  refine va_upn (by decide) ?_
  refine va_upn (by decide) ?_
  refine va_upn (by decide) ?_
  refine va_upn (by decide) ?_
  refine va_upn (by decide) ?_
  refine va_upn (by decide) ?_
  refine va_upn (by decide) ?_
  exact va_ups.trans rfl
theorem we_54 (b : Nat) (D : va_G) (AI : FieldType → ClassId) : wEnd (wGm b D AI) 54 = wE (wGm b D AI) wS0 54 (.inl (.int, 9, 0, 0)) := by
  unfold wEnd
  refine va_upn (by decide) ?_
  unfold wEb
  refine (eM_off (by decide) (by decide)).trans ?_
  refine va_upn (by decide) ?_
  unfold wEa eW
  refine (eSnaps_off 3 (by decide) (by decide)).trans ?_
  unfold eW11
  refine va_upn (by decide) ?_
  refine va_upn (by decide) ?_
  unfold eW10
  refine va_upn (by decide) ?_
  refine (eSi_off (by decide) (by decide)).trans ?_
  refine va_upn (by decide) ?_
  unfold eW9
  refine va_upn (by decide) ?_
  refine va_upn (by decide) ?_
  unfold eW8
  refine va_upn (by decide) ?_
  unfold ePa
  unfold eSnaps
  refine va_upn (by decide) ?_
  refine (eSn_off (by decide) (by decide)).trans ?_
  refine va_upn (by decide) ?_
  unfold eSnaps
  refine va_upn (by decide) ?_
  refine (eSn_off (by decide) (by decide)).trans ?_
  refine va_upn (by decide) ?_
  unfold eSnaps
  refine va_upn (by decide) ?_
  refine (eSn_off (by decide) (by decide)).trans ?_
  refine va_upn (by decide) ?_
  unfold eSnaps
  refine va_upn (by decide) ?_
  refine (eSn_off (by decide) (by decide)).trans ?_
  refine va_upn (by decide) ?_
  unfold eSnaps
  refine va_upn (by decide) ?_
  refine (eSn_off (by decide) (by decide)).trans ?_
  refine va_upn (by decide) ?_
  unfold eSnaps
  refine va_upn (by decide) ?_
  refine (eSn_off (by decide) (by decide)).trans ?_
  refine va_upn (by decide) ?_
  unfold eSnaps
  refine va_upn (by decide) ?_
  refine (eSn_off (by decide) (by decide)).trans ?_
  refine va_upn (by decide) ?_
  unfold eSnaps
  refine va_upn (by decide) ?_
  refine (eSn_off (by decide) (by decide)).trans ?_
  refine va_upn (by decide) ?_
  unfold eSnaps
  refine va_upn (by decide) ?_
  refine (eSn_off (by decide) (by decide)).trans ?_
  refine va_upn (by decide) ?_
  unfold eSnaps
  refine va_upn (by decide) ?_
  refine (eSn_off (by decide) (by decide)).trans ?_
  refine va_upn (by decide) ?_
  unfold eSnaps
  refine va_upn (by decide) ?_
  refine (eSn_off (by decide) (by decide)).trans ?_
  refine va_upn (by decide) ?_
  unfold eSnaps
  refine va_upn (by decide) ?_
  refine (eSn_off (by decide) (by decide)).trans ?_
  refine va_upn (by decide) ?_
  unfold eSnaps
  refine va_upn (by decide) ?_
  refine (eSn_off (by decide) (by decide)).trans ?_
  refine va_upn (by decide) ?_
  unfold eSnaps
  refine va_upn (by decide) ?_
  refine (eSn_off (by decide) (by decide)).trans ?_
  refine va_upn (by decide) ?_
  unfold eSnaps
  refine va_upn (by decide) ?_
  refine (eSn_off (by decide) (by decide)).trans ?_
  refine va_upn (by decide) ?_
  unfold eSnaps
  refine va_upn (by decide) ?_
  refine (eSn_off (by decide) (by decide)).trans ?_
  refine va_upn (by decide) ?_
  unfold eSnaps
  refine va_upn (by decide) ?_
  refine (eSn_off (by decide) (by decide)).trans ?_
  refine va_upn (by decide) ?_
  unfold eSnaps
  refine va_upn (by decide) ?_
  unfold eSn
  refine va_upn (by decide) ?_
  refine va_upn (by decide) ?_
  refine va_upn (by decide) ?_
  refine va_upn (by decide) ?_
  refine va_upn (by decide) ?_
  exact va_ups.trans rfl
theorem we_55 (b : Nat) (D : va_G) (AI : FieldType → ClassId) : wEnd (wGm b D AI) 55 = wE (wGm b D AI) wS0 55 (.inl (.int, 3, 0, 0)) := by
  unfold wEnd
  refine va_upn (by decide) ?_
  unfold wEb
  refine (eM_off (by decide) (by decide)).trans ?_
  refine va_upn (by decide) ?_
  unfold wEa eW
  refine (eSnaps_off 3 (by decide) (by decide)).trans ?_
  unfold eW11
  refine va_upn (by decide) ?_
  refine va_upn (by decide) ?_
  unfold eW10
  refine va_upn (by decide) ?_
  refine (eSi_off (by decide) (by decide)).trans ?_
  refine va_upn (by decide) ?_
  unfold eW9
  refine va_upn (by decide) ?_
  refine va_upn (by decide) ?_
  unfold eW8
  refine va_upn (by decide) ?_
  unfold ePa
  unfold eSnaps
  refine va_upn (by decide) ?_
  refine (eSn_off (by decide) (by decide)).trans ?_
  refine va_upn (by decide) ?_
  unfold eSnaps
  refine va_upn (by decide) ?_
  refine (eSn_off (by decide) (by decide)).trans ?_
  refine va_upn (by decide) ?_
  unfold eSnaps
  refine va_upn (by decide) ?_
  refine (eSn_off (by decide) (by decide)).trans ?_
  refine va_upn (by decide) ?_
  unfold eSnaps
  refine va_upn (by decide) ?_
  refine (eSn_off (by decide) (by decide)).trans ?_
  refine va_upn (by decide) ?_
  unfold eSnaps
  refine va_upn (by decide) ?_
  refine (eSn_off (by decide) (by decide)).trans ?_
  refine va_upn (by decide) ?_
  unfold eSnaps
  refine va_upn (by decide) ?_
  refine (eSn_off (by decide) (by decide)).trans ?_
  refine va_upn (by decide) ?_
  unfold eSnaps
  refine va_upn (by decide) ?_
  refine (eSn_off (by decide) (by decide)).trans ?_
  refine va_upn (by decide) ?_
  unfold eSnaps
  refine va_upn (by decide) ?_
  refine (eSn_off (by decide) (by decide)).trans ?_
  refine va_upn (by decide) ?_
  unfold eSnaps
  refine va_upn (by decide) ?_
  refine (eSn_off (by decide) (by decide)).trans ?_
  refine va_upn (by decide) ?_
  unfold eSnaps
  refine va_upn (by decide) ?_
  refine (eSn_off (by decide) (by decide)).trans ?_
  refine va_upn (by decide) ?_
  unfold eSnaps
  refine va_upn (by decide) ?_
  refine (eSn_off (by decide) (by decide)).trans ?_
  refine va_upn (by decide) ?_
  unfold eSnaps
  refine va_upn (by decide) ?_
  refine (eSn_off (by decide) (by decide)).trans ?_
  refine va_upn (by decide) ?_
  unfold eSnaps
  refine va_upn (by decide) ?_
  refine (eSn_off (by decide) (by decide)).trans ?_
  refine va_upn (by decide) ?_
  unfold eSnaps
  refine va_upn (by decide) ?_
  refine (eSn_off (by decide) (by decide)).trans ?_
  refine va_upn (by decide) ?_
  unfold eSnaps
  refine va_upn (by decide) ?_
  refine (eSn_off (by decide) (by decide)).trans ?_
  refine va_upn (by decide) ?_
  unfold eSnaps
  refine va_upn (by decide) ?_
  refine (eSn_off (by decide) (by decide)).trans ?_
  refine va_upn (by decide) ?_
  unfold eSnaps
  refine va_upn (by decide) ?_
  refine (eSn_off (by decide) (by decide)).trans ?_
  refine va_upn (by decide) ?_
  unfold eSnaps
  refine va_upn (by decide) ?_
  unfold eSn
  refine va_upn (by decide) ?_
  refine va_upn (by decide) ?_
  refine va_upn (by decide) ?_
  exact va_ups.trans rfl
theorem we_56 (b : Nat) (D : va_G) (AI : FieldType → ClassId) : wEnd (wGm b D AI) 56 = wE (wGm b D AI) wS0 56 (.inr (8, [some 57, some 58, some 59, some 60, none, none])) := by
  unfold wEnd
  refine va_upn (by decide) ?_
  unfold wEb
  refine (eM_off (by decide) (by decide)).trans ?_
  refine va_upn (by decide) ?_
  unfold wEa eW
  refine (eSnaps_off 3 (by decide) (by decide)).trans ?_
  unfold eW11
  refine va_upn (by decide) ?_
  refine va_upn (by decide) ?_
  unfold eW10
  refine va_upn (by decide) ?_
  refine (eSi_off (by decide) (by decide)).trans ?_
  refine va_upn (by decide) ?_
  unfold eW9
  refine va_upn (by decide) ?_
  refine va_upn (by decide) ?_
  unfold eW8
  refine va_upn (by decide) ?_
  unfold ePa
  unfold eSnaps
  refine va_upn (by decide) ?_
  refine (eSn_off (by decide) (by decide)).trans ?_
  refine va_upn (by decide) ?_
  unfold eSnaps
  refine va_upn (by decide) ?_
  refine (eSn_off (by decide) (by decide)).trans ?_
  refine va_upn (by decide) ?_
  unfold eSnaps
  refine va_upn (by decide) ?_
  refine (eSn_off (by decide) (by decide)).trans ?_
  refine va_upn (by decide) ?_
  unfold eSnaps
  refine va_upn (by decide) ?_
  refine (eSn_off (by decide) (by decide)).trans ?_
  refine va_upn (by decide) ?_
  unfold eSnaps
  refine va_upn (by decide) ?_
  refine (eSn_off (by decide) (by decide)).trans ?_
  refine va_upn (by decide) ?_
  unfold eSnaps
  refine va_upn (by decide) ?_
  refine (eSn_off (by decide) (by decide)).trans ?_
  refine va_upn (by decide) ?_
  unfold eSnaps
  refine va_upn (by decide) ?_
  refine (eSn_off (by decide) (by decide)).trans ?_
  refine va_upn (by decide) ?_
  unfold eSnaps
  refine va_upn (by decide) ?_
  refine (eSn_off (by decide) (by decide)).trans ?_
  refine va_upn (by decide) ?_
  unfold eSnaps
  refine va_upn (by decide) ?_
  refine (eSn_off (by decide) (by decide)).trans ?_
  refine va_upn (by decide) ?_
  unfold eSnaps
  refine va_upn (by decide) ?_
  refine (eSn_off (by decide) (by decide)).trans ?_
  refine va_upn (by decide) ?_
  unfold eSnaps
  refine va_upn (by decide) ?_
  refine (eSn_off (by decide) (by decide)).trans ?_
  refine va_upn (by decide) ?_
  unfold eSnaps
  refine va_upn (by decide) ?_
  refine (eSn_off (by decide) (by decide)).trans ?_
  refine va_upn (by decide) ?_
  unfold eSnaps
  refine va_upn (by decide) ?_
  refine (eSn_off (by decide) (by decide)).trans ?_
  refine va_upn (by decide) ?_
  unfold eSnaps
  refine va_upn (by decide) ?_
  refine (eSn_off (by decide) (by decide)).trans ?_
  refine va_upn (by decide) ?_
  unfold eSnaps
  refine va_upn (by decide) ?_
  refine (eSn_off (by decide) (by decide)).trans ?_
  refine va_upn (by decide) ?_
  unfold eSnaps
  refine va_upn (by decide) ?_
  refine (eSn_off (by decide) (by decide)).trans ?_
  refine va_upn (by decide) ?_
  unfold eSnaps
  refine va_upn (by decide) ?_
  unfold eSn
  exact va_ups.trans rfl
theorem we_57 (b : Nat) (D : va_G) (AI : FieldType → ClassId) : wEnd (wGm b D AI) 57 = wE (wGm b D AI) wS0 57 (.inl (.int, 9, 0, 0)) := by
  unfold wEnd
  refine va_upn (by decide) ?_
  unfold wEb
  refine (eM_off (by decide) (by decide)).trans ?_
  refine va_upn (by decide) ?_
  unfold wEa eW
  refine (eSnaps_off 3 (by decide) (by decide)).trans ?_
  unfold eW11
  refine va_upn (by decide) ?_
  refine va_upn (by decide) ?_
  unfold eW10
  refine va_upn (by decide) ?_
  refine (eSi_off (by decide) (by decide)).trans ?_
  refine va_upn (by decide) ?_
  unfold eW9
  refine va_upn (by decide) ?_
  refine va_upn (by decide) ?_
  unfold eW8
  refine va_upn (by decide) ?_
  unfold ePa
  unfold eSnaps
  refine va_upn (by decide) ?_
  refine (eSn_off (by decide) (by decide)).trans ?_
  refine va_upn (by decide) ?_
  unfold eSnaps
  refine va_upn (by decide) ?_
  refine (eSn_off (by decide) (by decide)).trans ?_
  refine va_upn (by decide) ?_
  unfold eSnaps
  refine va_upn (by decide) ?_
  refine (eSn_off (by decide) (by decide)).trans ?_
  refine va_upn (by decide) ?_
  unfold eSnaps
  refine va_upn (by decide) ?_
  refine (eSn_off (by decide) (by decide)).trans ?_
  refine va_upn (by decide) ?_
  unfold eSnaps
  refine va_upn (by decide) ?_
  refine (eSn_off (by decide) (by decide)).trans ?_
  refine va_upn (by decide) ?_
  unfold eSnaps
  refine va_upn (by decide) ?_
  refine (eSn_off (by decide) (by decide)).trans ?_
  refine va_upn (by decide) ?_
  unfold eSnaps
  refine va_upn (by decide) ?_
  refine (eSn_off (by decide) (by decide)).trans ?_
  refine va_upn (by decide) ?_
  unfold eSnaps
  refine va_upn (by decide) ?_
  refine (eSn_off (by decide) (by decide)).trans ?_
  refine va_upn (by decide) ?_
  unfold eSnaps
  refine va_upn (by decide) ?_
  refine (eSn_off (by decide) (by decide)).trans ?_
  refine va_upn (by decide) ?_
  unfold eSnaps
  refine va_upn (by decide) ?_
  refine (eSn_off (by decide) (by decide)).trans ?_
  refine va_upn (by decide) ?_
  unfold eSnaps
  refine va_upn (by decide) ?_
  refine (eSn_off (by decide) (by decide)).trans ?_
  refine va_upn (by decide) ?_
  unfold eSnaps
  refine va_upn (by decide) ?_
  refine (eSn_off (by decide) (by decide)).trans ?_
  refine va_upn (by decide) ?_
  unfold eSnaps
  refine va_upn (by decide) ?_
  refine (eSn_off (by decide) (by decide)).trans ?_
  refine va_upn (by decide) ?_
  unfold eSnaps
  refine va_upn (by decide) ?_
  refine (eSn_off (by decide) (by decide)).trans ?_
  refine va_upn (by decide) ?_
  unfold eSnaps
  refine va_upn (by decide) ?_
  refine (eSn_off (by decide) (by decide)).trans ?_
  refine va_upn (by decide) ?_
  unfold eSnaps
  refine va_upn (by decide) ?_
  refine (eSn_off (by decide) (by decide)).trans ?_
  refine va_upn (by decide) ?_
  unfold eSnaps
  refine va_upn (by decide) ?_
  unfold eSn
  refine va_upn (by decide) ?_
  refine va_upn (by decide) ?_
  refine va_upn (by decide) ?_
  refine va_upn (by decide) ?_
  refine va_upn (by decide) ?_
  refine va_upn (by decide) ?_
  refine va_upn (by decide) ?_
  refine va_upn (by decide) ?_
  refine va_upn (by decide) ?_
  exact va_ups.trans rfl
theorem we_58 (b : Nat) (D : va_G) (AI : FieldType → ClassId) : wEnd (wGm b D AI) 58 = wE (wGm b D AI) wS0 58 (.inl (.int, 9, 0, 0)) := by
  unfold wEnd
  refine va_upn (by decide) ?_
  unfold wEb
  refine (eM_off (by decide) (by decide)).trans ?_
  refine va_upn (by decide) ?_
  unfold wEa eW
  refine (eSnaps_off 3 (by decide) (by decide)).trans ?_
  unfold eW11
  refine va_upn (by decide) ?_
  refine va_upn (by decide) ?_
  unfold eW10
  refine va_upn (by decide) ?_
  refine (eSi_off (by decide) (by decide)).trans ?_
  refine va_upn (by decide) ?_
  unfold eW9
  refine va_upn (by decide) ?_
  refine va_upn (by decide) ?_
  unfold eW8
  refine va_upn (by decide) ?_
  unfold ePa
  unfold eSnaps
  refine va_upn (by decide) ?_
  refine (eSn_off (by decide) (by decide)).trans ?_
  refine va_upn (by decide) ?_
  unfold eSnaps
  refine va_upn (by decide) ?_
  refine (eSn_off (by decide) (by decide)).trans ?_
  refine va_upn (by decide) ?_
  unfold eSnaps
  refine va_upn (by decide) ?_
  refine (eSn_off (by decide) (by decide)).trans ?_
  refine va_upn (by decide) ?_
  unfold eSnaps
  refine va_upn (by decide) ?_
  refine (eSn_off (by decide) (by decide)).trans ?_
  refine va_upn (by decide) ?_
  unfold eSnaps
  refine va_upn (by decide) ?_
  refine (eSn_off (by decide) (by decide)).trans ?_
  refine va_upn (by decide) ?_
  unfold eSnaps
  refine va_upn (by decide) ?_
  refine (eSn_off (by decide) (by decide)).trans ?_
  refine va_upn (by decide) ?_
  unfold eSnaps
  refine va_upn (by decide) ?_
  refine (eSn_off (by decide) (by decide)).trans ?_
  refine va_upn (by decide) ?_
  unfold eSnaps
  refine va_upn (by decide) ?_
  refine (eSn_off (by decide) (by decide)).trans ?_
  refine va_upn (by decide) ?_
  unfold eSnaps
  refine va_upn (by decide) ?_
  refine (eSn_off (by decide) (by decide)).trans ?_
  refine va_upn (by decide) ?_
  unfold eSnaps
  refine va_upn (by decide) ?_
  refine (eSn_off (by decide) (by decide)).trans ?_
  refine va_upn (by decide) ?_
  unfold eSnaps
  refine va_upn (by decide) ?_
  refine (eSn_off (by decide) (by decide)).trans ?_
  refine va_upn (by decide) ?_
  unfold eSnaps
  refine va_upn (by decide) ?_
  refine (eSn_off (by decide) (by decide)).trans ?_
  refine va_upn (by decide) ?_
  unfold eSnaps
  refine va_upn (by decide) ?_
  refine (eSn_off (by decide) (by decide)).trans ?_
  refine va_upn (by decide) ?_
  unfold eSnaps
  refine va_upn (by decide) ?_
  refine (eSn_off (by decide) (by decide)).trans ?_
  refine va_upn (by decide) ?_
  unfold eSnaps
  refine va_upn (by decide) ?_
  refine (eSn_off (by decide) (by decide)).trans ?_
  refine va_upn (by decide) ?_
  unfold eSnaps
  refine va_upn (by decide) ?_
  refine (eSn_off (by decide) (by decide)).trans ?_
  refine va_upn (by decide) ?_
  unfold eSnaps
  refine va_upn (by decide) ?_
  unfold eSn
  refine va_upn (by decide) ?_
  refine va_upn (by decide) ?_
  refine va_upn (by decide) ?_
  refine va_upn (by decide) ?_
  refine va_upn (by decide) ?_
  refine va_upn (by decide) ?_
  refine va_upn (by decide) ?_
  exact va_ups.trans rfl
theorem we_59 (b : Nat) (D : va_G) (AI : FieldType → ClassId) : wEnd (wGm b D AI) 59 = wE (wGm b D AI) wS0 59 (.inl (.int, 9, 0, 0)) := by
  unfold wEnd
  refine va_upn (by decide) ?_
  unfold wEb
  refine (eM_off (by decide) (by decide)).trans ?_
  refine va_upn (by decide) ?_
  unfold wEa eW
  refine (eSnaps_off 3 (by decide) (by decide)).trans ?_
  unfold eW11
  refine va_upn (by decide) ?_
  refine va_upn (by decide) ?_
  unfold eW10
  refine va_upn (by decide) ?_
  refine (eSi_off (by decide) (by decide)).trans ?_
  refine va_upn (by decide) ?_
  unfold eW9
  refine va_upn (by decide) ?_
  refine va_upn (by decide) ?_
  unfold eW8
  refine va_upn (by decide) ?_
  unfold ePa
  unfold eSnaps
  refine va_upn (by decide) ?_
  refine (eSn_off (by decide) (by decide)).trans ?_
  refine va_upn (by decide) ?_
  unfold eSnaps
  refine va_upn (by decide) ?_
  refine (eSn_off (by decide) (by decide)).trans ?_
  refine va_upn (by decide) ?_
  unfold eSnaps
  refine va_upn (by decide) ?_
  refine (eSn_off (by decide) (by decide)).trans ?_
  refine va_upn (by decide) ?_
  unfold eSnaps
  refine va_upn (by decide) ?_
  refine (eSn_off (by decide) (by decide)).trans ?_
  refine va_upn (by decide) ?_
  unfold eSnaps
  refine va_upn (by decide) ?_
  refine (eSn_off (by decide) (by decide)).trans ?_
  refine va_upn (by decide) ?_
  unfold eSnaps
  refine va_upn (by decide) ?_
  refine (eSn_off (by decide) (by decide)).trans ?_
  refine va_upn (by decide) ?_
  unfold eSnaps
  refine va_upn (by decide) ?_
  refine (eSn_off (by decide) (by decide)).trans ?_
  refine va_upn (by decide) ?_
  unfold eSnaps
  refine va_upn (by decide) ?_
  refine (eSn_off (by decide) (by decide)).trans ?_
  refine va_upn (by decide) ?_
  unfold eSnaps
  refine va_upn (by decide) ?_
  refine (eSn_off (by decide) (by decide)).trans ?_
  refine va_upn (by decide) ?_
  unfold eSnaps
  refine va_upn (by decide) ?_
  refine (eSn_off (by decide) (by decide)).trans ?_
  refine va_upn (by decide) ?_
  unfold eSnaps
  refine va_upn (by decide) ?_
  refine (eSn_off (by decide) (by decide)).trans ?_
  refine va_upn (by decide) ?_
  unfold eSnaps
  refine va_upn (by decide) ?_
  refine (eSn_off (by decide) (by decide)).trans ?_
  refine va_upn (by decide) ?_
  unfold eSnaps
  refine va_upn (by decide) ?_
  refine (eSn_off (by decide) (by decide)).trans ?_
  refine va_upn (by decide) ?_
  unfold eSnaps
  refine va_upn (by decide) ?_
  refine (eSn_off (by decide) (by decide)).trans ?_
  refine va_upn (by decide) ?_
  unfold eSnaps
  refine va_upn (by decide) ?_
  refine (eSn_off (by decide) (by decide)).trans ?_
  refine va_upn (by decide) ?_
  unfold eSnaps
  refine va_upn (by decide) ?_
  refine (eSn_off (by decide) (by decide)).trans ?_
  refine va_upn (by decide) ?_
  unfold eSnaps
  refine va_upn (by decide) ?_
  unfold eSn
  refine va_upn (by decide) ?_
  refine va_upn (by decide) ?_
  refine va_upn (by decide) ?_
  refine va_upn (by decide) ?_
  refine va_upn (by decide) ?_
  exact va_ups.trans rfl
theorem we_60 (b : Nat) (D : va_G) (AI : FieldType → ClassId) : wEnd (wGm b D AI) 60 = wE (wGm b D AI) wS0 60 (.inl (.int, 3, 0, 0)) := by
  unfold wEnd
  refine va_upn (by decide) ?_
  unfold wEb
  refine (eM_off (by decide) (by decide)).trans ?_
  refine va_upn (by decide) ?_
  unfold wEa eW
  refine (eSnaps_off 3 (by decide) (by decide)).trans ?_
  unfold eW11
  refine va_upn (by decide) ?_
  refine va_upn (by decide) ?_
  unfold eW10
  refine va_upn (by decide) ?_
  refine (eSi_off (by decide) (by decide)).trans ?_
  refine va_upn (by decide) ?_
  unfold eW9
  refine va_upn (by decide) ?_
  refine va_upn (by decide) ?_
  unfold eW8
  refine va_upn (by decide) ?_
  unfold ePa
  unfold eSnaps
  refine va_upn (by decide) ?_
  refine (eSn_off (by decide) (by decide)).trans ?_
  refine va_upn (by decide) ?_
  unfold eSnaps
  refine va_upn (by decide) ?_
  refine (eSn_off (by decide) (by decide)).trans ?_
  refine va_upn (by decide) ?_
  unfold eSnaps
  refine va_upn (by decide) ?_
  refine (eSn_off (by decide) (by decide)).trans ?_
  refine va_upn (by decide) ?_
  unfold eSnaps
  refine va_upn (by decide) ?_
  refine (eSn_off (by decide) (by decide)).trans ?_
  refine va_upn (by decide) ?_
  unfold eSnaps
  refine va_upn (by decide) ?_
  refine (eSn_off (by decide) (by decide)).trans ?_
  refine va_upn (by decide) ?_
  unfold eSnaps
  refine va_upn (by decide) ?_
  refine (eSn_off (by decide) (by decide)).trans ?_
  refine va_upn (by decide) ?_
  unfold eSnaps
  refine va_upn (by decide) ?_
  refine (eSn_off (by decide) (by decide)).trans ?_
  refine va_upn (by decide) ?_
  unfold eSnaps
  refine va_upn (by decide) ?_
  refine (eSn_off (by decide) (by decide)).trans ?_
  refine va_upn (by decide) ?_
  unfold eSnaps
  refine va_upn (by decide) ?_
  refine (eSn_off (by decide) (by decide)).trans ?_
  refine va_upn (by decide) ?_
  unfold eSnaps
  refine va_upn (by decide) ?_
  refine (eSn_off (by decide) (by decide)).trans ?_
  refine va_upn (by decide) ?_
  unfold eSnaps
  refine va_upn (by decide) ?_
  refine (eSn_off (by decide) (by decide)).trans ?_
  refine va_upn (by decide) ?_
  unfold eSnaps
  refine va_upn (by decide) ?_
  refine (eSn_off (by decide) (by decide)).trans ?_
  refine va_upn (by decide) ?_
  unfold eSnaps
  refine va_upn (by decide) ?_
  refine (eSn_off (by decide) (by decide)).trans ?_
  refine va_upn (by decide) ?_
  unfold eSnaps
  refine va_upn (by decide) ?_
  refine (eSn_off (by decide) (by decide)).trans ?_
  refine va_upn (by decide) ?_
  unfold eSnaps
  refine va_upn (by decide) ?_
  refine (eSn_off (by decide) (by decide)).trans ?_
  refine va_upn (by decide) ?_
  unfold eSnaps
  refine va_upn (by decide) ?_
  refine (eSn_off (by decide) (by decide)).trans ?_
  refine va_upn (by decide) ?_
  unfold eSnaps
  refine va_upn (by decide) ?_
  unfold eSn
  refine va_upn (by decide) ?_
  refine va_upn (by decide) ?_
  refine va_upn (by decide) ?_
  exact va_ups.trans rfl
theorem we_61 (b : Nat) (D : va_G) (AI : FieldType → ClassId) : wEnd (wGm b D AI) 61 = wE (wGm b D AI) wS0 61 (.inr (8, [some 62, some 63, some 64, some 65, none, none])) := by
  unfold wEnd
  refine va_upn (by decide) ?_
  unfold wEb
  refine (eM_off (by decide) (by decide)).trans ?_
  refine va_upn (by decide) ?_
  unfold wEa eW
  refine (eSnaps_off 3 (by decide) (by decide)).trans ?_
  unfold eW11
  refine va_upn (by decide) ?_
  refine va_upn (by decide) ?_
  unfold eW10
  refine va_upn (by decide) ?_
  refine (eSi_off (by decide) (by decide)).trans ?_
  refine va_upn (by decide) ?_
  unfold eW9
  refine va_upn (by decide) ?_
  refine va_upn (by decide) ?_
  unfold eW8
  refine va_upn (by decide) ?_
  unfold ePa
  unfold eSnaps
  refine va_upn (by decide) ?_
  refine (eSn_off (by decide) (by decide)).trans ?_
  refine va_upn (by decide) ?_
  unfold eSnaps
  refine va_upn (by decide) ?_
  refine (eSn_off (by decide) (by decide)).trans ?_
  refine va_upn (by decide) ?_
  unfold eSnaps
  refine va_upn (by decide) ?_
  refine (eSn_off (by decide) (by decide)).trans ?_
  refine va_upn (by decide) ?_
  unfold eSnaps
  refine va_upn (by decide) ?_
  refine (eSn_off (by decide) (by decide)).trans ?_
  refine va_upn (by decide) ?_
  unfold eSnaps
  refine va_upn (by decide) ?_
  refine (eSn_off (by decide) (by decide)).trans ?_
  refine va_upn (by decide) ?_
  unfold eSnaps
  refine va_upn (by decide) ?_
  refine (eSn_off (by decide) (by decide)).trans ?_
  refine va_upn (by decide) ?_
  unfold eSnaps
  refine va_upn (by decide) ?_
  refine (eSn_off (by decide) (by decide)).trans ?_
  refine va_upn (by decide) ?_
  unfold eSnaps
  refine va_upn (by decide) ?_
  refine (eSn_off (by decide) (by decide)).trans ?_
  refine va_upn (by decide) ?_
  unfold eSnaps
  refine va_upn (by decide) ?_
  refine (eSn_off (by decide) (by decide)).trans ?_
  refine va_upn (by decide) ?_
  unfold eSnaps
  refine va_upn (by decide) ?_
  refine (eSn_off (by decide) (by decide)).trans ?_
  refine va_upn (by decide) ?_
  unfold eSnaps
  refine va_upn (by decide) ?_
  refine (eSn_off (by decide) (by decide)).trans ?_
  refine va_upn (by decide) ?_
  unfold eSnaps
  refine va_upn (by decide) ?_
  refine (eSn_off (by decide) (by decide)).trans ?_
  refine va_upn (by decide) ?_
  unfold eSnaps
  refine va_upn (by decide) ?_
  refine (eSn_off (by decide) (by decide)).trans ?_
  refine va_upn (by decide) ?_
  unfold eSnaps
  refine va_upn (by decide) ?_
  refine (eSn_off (by decide) (by decide)).trans ?_
  refine va_upn (by decide) ?_
  unfold eSnaps
  refine va_upn (by decide) ?_
  refine (eSn_off (by decide) (by decide)).trans ?_
  refine va_upn (by decide) ?_
  unfold eSnaps
  refine va_upn (by decide) ?_
  unfold eSn
  exact va_ups.trans rfl
theorem we_62 (b : Nat) (D : va_G) (AI : FieldType → ClassId) : wEnd (wGm b D AI) 62 = wE (wGm b D AI) wS0 62 (.inl (.int, 9, 0, 0)) := by
  unfold wEnd
  refine va_upn (by decide) ?_
  unfold wEb
  refine (eM_off (by decide) (by decide)).trans ?_
  refine va_upn (by decide) ?_
  unfold wEa eW
  refine (eSnaps_off 3 (by decide) (by decide)).trans ?_
  unfold eW11
  refine va_upn (by decide) ?_
  refine va_upn (by decide) ?_
  unfold eW10
  refine va_upn (by decide) ?_
  refine (eSi_off (by decide) (by decide)).trans ?_
  refine va_upn (by decide) ?_
  unfold eW9
  refine va_upn (by decide) ?_
  refine va_upn (by decide) ?_
  unfold eW8
  refine va_upn (by decide) ?_
  unfold ePa
  unfold eSnaps
  refine va_upn (by decide) ?_
  refine (eSn_off (by decide) (by decide)).trans ?_
  refine va_upn (by decide) ?_
  unfold eSnaps
  refine va_upn (by decide) ?_
  refine (eSn_off (by decide) (by decide)).trans ?_
  refine va_upn (by decide) ?_
  unfold eSnaps
  refine va_upn (by decide) ?_
  refine (eSn_off (by decide) (by decide)).trans ?_
  refine va_upn (by decide) ?_
  unfold eSnaps
  refine va_upn (by decide) ?_
  refine (eSn_off (by decide) (by decide)).trans ?_
  refine va_upn (by decide) ?_
  unfold eSnaps
  refine va_upn (by decide) ?_
  refine (eSn_off (by decide) (by decide)).trans ?_
  refine va_upn (by decide) ?_
  unfold eSnaps
  refine va_upn (by decide) ?_
  refine (eSn_off (by decide) (by decide)).trans ?_
  refine va_upn (by decide) ?_
  unfold eSnaps
  refine va_upn (by decide) ?_
  refine (eSn_off (by decide) (by decide)).trans ?_
  refine va_upn (by decide) ?_
  unfold eSnaps
  refine va_upn (by decide) ?_
  refine (eSn_off (by decide) (by decide)).trans ?_
  refine va_upn (by decide) ?_
  unfold eSnaps
  refine va_upn (by decide) ?_
  refine (eSn_off (by decide) (by decide)).trans ?_
  refine va_upn (by decide) ?_
  unfold eSnaps
  refine va_upn (by decide) ?_
  refine (eSn_off (by decide) (by decide)).trans ?_
  refine va_upn (by decide) ?_
  unfold eSnaps
  refine va_upn (by decide) ?_
  refine (eSn_off (by decide) (by decide)).trans ?_
  refine va_upn (by decide) ?_
  unfold eSnaps
  refine va_upn (by decide) ?_
  refine (eSn_off (by decide) (by decide)).trans ?_
  refine va_upn (by decide) ?_
  unfold eSnaps
  refine va_upn (by decide) ?_
  refine (eSn_off (by decide) (by decide)).trans ?_
  refine va_upn (by decide) ?_
  unfold eSnaps
  refine va_upn (by decide) ?_
  refine (eSn_off (by decide) (by decide)).trans ?_
  refine va_upn (by decide) ?_
  unfold eSnaps
  refine va_upn (by decide) ?_
  refine (eSn_off (by decide) (by decide)).trans ?_
  refine va_upn (by decide) ?_
  unfold eSnaps
  refine va_upn (by decide) ?_
  unfold eSn
  refine va_upn (by decide) ?_
  refine va_upn (by decide) ?_
  refine va_upn (by decide) ?_
  refine va_upn (by decide) ?_
  refine va_upn (by decide) ?_
  refine va_upn (by decide) ?_
  refine va_upn (by decide) ?_
  refine va_upn (by decide) ?_
  refine va_upn (by decide) ?_
  exact va_ups.trans rfl
theorem we_63 (b : Nat) (D : va_G) (AI : FieldType → ClassId) : wEnd (wGm b D AI) 63 = wE (wGm b D AI) wS0 63 (.inl (.int, 9, 0, 0)) := by
  unfold wEnd
  refine va_upn (by decide) ?_
  unfold wEb
  refine (eM_off (by decide) (by decide)).trans ?_
  refine va_upn (by decide) ?_
  unfold wEa eW
  refine (eSnaps_off 3 (by decide) (by decide)).trans ?_
  unfold eW11
  refine va_upn (by decide) ?_
  refine va_upn (by decide) ?_
  unfold eW10
  refine va_upn (by decide) ?_
  refine (eSi_off (by decide) (by decide)).trans ?_
  refine va_upn (by decide) ?_
  unfold eW9
  refine va_upn (by decide) ?_
  refine va_upn (by decide) ?_
  unfold eW8
  refine va_upn (by decide) ?_
  unfold ePa
  unfold eSnaps
  refine va_upn (by decide) ?_
  refine (eSn_off (by decide) (by decide)).trans ?_
  refine va_upn (by decide) ?_
  unfold eSnaps
  refine va_upn (by decide) ?_
  refine (eSn_off (by decide) (by decide)).trans ?_
  refine va_upn (by decide) ?_
  unfold eSnaps
  refine va_upn (by decide) ?_
  refine (eSn_off (by decide) (by decide)).trans ?_
  refine va_upn (by decide) ?_
  unfold eSnaps
  refine va_upn (by decide) ?_
  refine (eSn_off (by decide) (by decide)).trans ?_
  refine va_upn (by decide) ?_
  unfold eSnaps
  refine va_upn (by decide) ?_
  refine (eSn_off (by decide) (by decide)).trans ?_
  refine va_upn (by decide) ?_
  unfold eSnaps
  refine va_upn (by decide) ?_
  refine (eSn_off (by decide) (by decide)).trans ?_
  refine va_upn (by decide) ?_
  unfold eSnaps
  refine va_upn (by decide) ?_
  refine (eSn_off (by decide) (by decide)).trans ?_
  refine va_upn (by decide) ?_
  unfold eSnaps
  refine va_upn (by decide) ?_
  refine (eSn_off (by decide) (by decide)).trans ?_
  refine va_upn (by decide) ?_
  unfold eSnaps
  refine va_upn (by decide) ?_
  refine (eSn_off (by decide) (by decide)).trans ?_
  refine va_upn (by decide) ?_
  unfold eSnaps
  refine va_upn (by decide) ?_
  refine (eSn_off (by decide) (by decide)).trans ?_
  refine va_upn (by decide) ?_
  unfold eSnaps
  refine va_upn (by decide) ?_
  refine (eSn_off (by decide) (by decide)).trans ?_
  refine va_upn (by decide) ?_
  unfold eSnaps
  refine va_upn (by decide) ?_
  refine (eSn_off (by decide) (by decide)).trans ?_
  refine va_upn (by decide) ?_
  unfold eSnaps
  refine va_upn (by decide) ?_
  refine (eSn_off (by decide) (by decide)).trans ?_
  refine va_upn (by decide) ?_
  unfold eSnaps
  refine va_upn (by decide) ?_
  refine (eSn_off (by decide) (by decide)).trans ?_
  refine va_upn (by decide) ?_
  unfold eSnaps
  refine va_upn (by decide) ?_
  refine (eSn_off (by decide) (by decide)).trans ?_
  refine va_upn (by decide) ?_
  unfold eSnaps
  refine va_upn (by decide) ?_
  unfold eSn
  refine va_upn (by decide) ?_
  refine va_upn (by decide) ?_
  refine va_upn (by decide) ?_
  refine va_upn (by decide) ?_
  refine va_upn (by decide) ?_
  refine va_upn (by decide) ?_
  refine va_upn (by decide) ?_
  exact va_ups.trans rfl
theorem we_64 (b : Nat) (D : va_G) (AI : FieldType → ClassId) : wEnd (wGm b D AI) 64 = wE (wGm b D AI) wS0 64 (.inl (.int, 9, 0, 0)) := by
  unfold wEnd
  refine va_upn (by decide) ?_
  unfold wEb
  refine (eM_off (by decide) (by decide)).trans ?_
  refine va_upn (by decide) ?_
  unfold wEa eW
  refine (eSnaps_off 3 (by decide) (by decide)).trans ?_
  unfold eW11
  refine va_upn (by decide) ?_
  refine va_upn (by decide) ?_
  unfold eW10
  refine va_upn (by decide) ?_
  refine (eSi_off (by decide) (by decide)).trans ?_
  refine va_upn (by decide) ?_
  unfold eW9
  refine va_upn (by decide) ?_
  refine va_upn (by decide) ?_
  unfold eW8
  refine va_upn (by decide) ?_
  unfold ePa
  unfold eSnaps
  refine va_upn (by decide) ?_
  refine (eSn_off (by decide) (by decide)).trans ?_
  refine va_upn (by decide) ?_
  unfold eSnaps
  refine va_upn (by decide) ?_
  refine (eSn_off (by decide) (by decide)).trans ?_
  refine va_upn (by decide) ?_
  unfold eSnaps
  refine va_upn (by decide) ?_
  refine (eSn_off (by decide) (by decide)).trans ?_
  refine va_upn (by decide) ?_
  unfold eSnaps
  refine va_upn (by decide) ?_
  refine (eSn_off (by decide) (by decide)).trans ?_
  refine va_upn (by decide) ?_
  unfold eSnaps
  refine va_upn (by decide) ?_
  refine (eSn_off (by decide) (by decide)).trans ?_
  refine va_upn (by decide) ?_
  unfold eSnaps
  refine va_upn (by decide) ?_
  refine (eSn_off (by decide) (by decide)).trans ?_
  refine va_upn (by decide) ?_
  unfold eSnaps
  refine va_upn (by decide) ?_
  refine (eSn_off (by decide) (by decide)).trans ?_
  refine va_upn (by decide) ?_
  unfold eSnaps
  refine va_upn (by decide) ?_
  refine (eSn_off (by decide) (by decide)).trans ?_
  refine va_upn (by decide) ?_
  unfold eSnaps
  refine va_upn (by decide) ?_
  refine (eSn_off (by decide) (by decide)).trans ?_
  refine va_upn (by decide) ?_
  unfold eSnaps
  refine va_upn (by decide) ?_
  refine (eSn_off (by decide) (by decide)).trans ?_
  refine va_upn (by decide) ?_
  unfold eSnaps
  refine va_upn (by decide) ?_
  refine (eSn_off (by decide) (by decide)).trans ?_
  refine va_upn (by decide) ?_
  unfold eSnaps
  refine va_upn (by decide) ?_
  refine (eSn_off (by decide) (by decide)).trans ?_
  refine va_upn (by decide) ?_
  unfold eSnaps
  refine va_upn (by decide) ?_
  refine (eSn_off (by decide) (by decide)).trans ?_
  refine va_upn (by decide) ?_
  unfold eSnaps
  refine va_upn (by decide) ?_
  refine (eSn_off (by decide) (by decide)).trans ?_
  refine va_upn (by decide) ?_
  unfold eSnaps
  refine va_upn (by decide) ?_
  refine (eSn_off (by decide) (by decide)).trans ?_
  refine va_upn (by decide) ?_
  unfold eSnaps
  refine va_upn (by decide) ?_
  unfold eSn
  refine va_upn (by decide) ?_
  refine va_upn (by decide) ?_
  refine va_upn (by decide) ?_
  refine va_upn (by decide) ?_
  refine va_upn (by decide) ?_
  exact va_ups.trans rfl
theorem we_65 (b : Nat) (D : va_G) (AI : FieldType → ClassId) : wEnd (wGm b D AI) 65 = wE (wGm b D AI) wS0 65 (.inl (.int, 3, 0, 0)) := by
  unfold wEnd
  refine va_upn (by decide) ?_
  unfold wEb
  refine (eM_off (by decide) (by decide)).trans ?_
  refine va_upn (by decide) ?_
  unfold wEa eW
  refine (eSnaps_off 3 (by decide) (by decide)).trans ?_
  unfold eW11
  refine va_upn (by decide) ?_
  refine va_upn (by decide) ?_
  unfold eW10
  refine va_upn (by decide) ?_
  refine (eSi_off (by decide) (by decide)).trans ?_
  refine va_upn (by decide) ?_
  unfold eW9
  refine va_upn (by decide) ?_
  refine va_upn (by decide) ?_
  unfold eW8
  refine va_upn (by decide) ?_
  unfold ePa
  unfold eSnaps
  refine va_upn (by decide) ?_
  refine (eSn_off (by decide) (by decide)).trans ?_
  refine va_upn (by decide) ?_
  unfold eSnaps
  refine va_upn (by decide) ?_
  refine (eSn_off (by decide) (by decide)).trans ?_
  refine va_upn (by decide) ?_
  unfold eSnaps
  refine va_upn (by decide) ?_
  refine (eSn_off (by decide) (by decide)).trans ?_
  refine va_upn (by decide) ?_
  unfold eSnaps
  refine va_upn (by decide) ?_
  refine (eSn_off (by decide) (by decide)).trans ?_
  refine va_upn (by decide) ?_
  unfold eSnaps
  refine va_upn (by decide) ?_
  refine (eSn_off (by decide) (by decide)).trans ?_
  refine va_upn (by decide) ?_
  unfold eSnaps
  refine va_upn (by decide) ?_
  refine (eSn_off (by decide) (by decide)).trans ?_
  refine va_upn (by decide) ?_
  unfold eSnaps
  refine va_upn (by decide) ?_
  refine (eSn_off (by decide) (by decide)).trans ?_
  refine va_upn (by decide) ?_
  unfold eSnaps
  refine va_upn (by decide) ?_
  refine (eSn_off (by decide) (by decide)).trans ?_
  refine va_upn (by decide) ?_
  unfold eSnaps
  refine va_upn (by decide) ?_
  refine (eSn_off (by decide) (by decide)).trans ?_
  refine va_upn (by decide) ?_
  unfold eSnaps
  refine va_upn (by decide) ?_
  refine (eSn_off (by decide) (by decide)).trans ?_
  refine va_upn (by decide) ?_
  unfold eSnaps
  refine va_upn (by decide) ?_
  refine (eSn_off (by decide) (by decide)).trans ?_
  refine va_upn (by decide) ?_
  unfold eSnaps
  refine va_upn (by decide) ?_
  refine (eSn_off (by decide) (by decide)).trans ?_
  refine va_upn (by decide) ?_
  unfold eSnaps
  refine va_upn (by decide) ?_
  refine (eSn_off (by decide) (by decide)).trans ?_
  refine va_upn (by decide) ?_
  unfold eSnaps
  refine va_upn (by decide) ?_
  refine (eSn_off (by decide) (by decide)).trans ?_
  refine va_upn (by decide) ?_
  unfold eSnaps
  refine va_upn (by decide) ?_
  refine (eSn_off (by decide) (by decide)).trans ?_
  refine va_upn (by decide) ?_
  unfold eSnaps
  refine va_upn (by decide) ?_
  unfold eSn
  refine va_upn (by decide) ?_
  refine va_upn (by decide) ?_
  refine va_upn (by decide) ?_
  exact va_ups.trans rfl
theorem we_66 (b : Nat) (D : va_G) (AI : FieldType → ClassId) : wEnd (wGm b D AI) 66 = wE (wGm b D AI) wS0 66 (.inr (8, [some 67, some 68, some 69, some 70, none, none])) := by
  unfold wEnd
  refine va_upn (by decide) ?_
  unfold wEb
  refine (eM_off (by decide) (by decide)).trans ?_
  refine va_upn (by decide) ?_
  unfold wEa eW
  refine (eSnaps_off 3 (by decide) (by decide)).trans ?_
  unfold eW11
  refine va_upn (by decide) ?_
  refine va_upn (by decide) ?_
  unfold eW10
  refine va_upn (by decide) ?_
  refine (eSi_off (by decide) (by decide)).trans ?_
  refine va_upn (by decide) ?_
  unfold eW9
  refine va_upn (by decide) ?_
  refine va_upn (by decide) ?_
  unfold eW8
  refine va_upn (by decide) ?_
  unfold ePa
  unfold eSnaps
  refine va_upn (by decide) ?_
  refine (eSn_off (by decide) (by decide)).trans ?_
  refine va_upn (by decide) ?_
  unfold eSnaps
  refine va_upn (by decide) ?_
  refine (eSn_off (by decide) (by decide)).trans ?_
  refine va_upn (by decide) ?_
  unfold eSnaps
  refine va_upn (by decide) ?_
  refine (eSn_off (by decide) (by decide)).trans ?_
  refine va_upn (by decide) ?_
  unfold eSnaps
  refine va_upn (by decide) ?_
  refine (eSn_off (by decide) (by decide)).trans ?_
  refine va_upn (by decide) ?_
  unfold eSnaps
  refine va_upn (by decide) ?_
  refine (eSn_off (by decide) (by decide)).trans ?_
  refine va_upn (by decide) ?_
  unfold eSnaps
  refine va_upn (by decide) ?_
  refine (eSn_off (by decide) (by decide)).trans ?_
  refine va_upn (by decide) ?_
  unfold eSnaps
  refine va_upn (by decide) ?_
  refine (eSn_off (by decide) (by decide)).trans ?_
  refine va_upn (by decide) ?_
  unfold eSnaps
  refine va_upn (by decide) ?_
  refine (eSn_off (by decide) (by decide)).trans ?_
  refine va_upn (by decide) ?_
  unfold eSnaps
  refine va_upn (by decide) ?_
  refine (eSn_off (by decide) (by decide)).trans ?_
  refine va_upn (by decide) ?_
  unfold eSnaps
  refine va_upn (by decide) ?_
  refine (eSn_off (by decide) (by decide)).trans ?_
  refine va_upn (by decide) ?_
  unfold eSnaps
  refine va_upn (by decide) ?_
  refine (eSn_off (by decide) (by decide)).trans ?_
  refine va_upn (by decide) ?_
  unfold eSnaps
  refine va_upn (by decide) ?_
  refine (eSn_off (by decide) (by decide)).trans ?_
  refine va_upn (by decide) ?_
  unfold eSnaps
  refine va_upn (by decide) ?_
  refine (eSn_off (by decide) (by decide)).trans ?_
  refine va_upn (by decide) ?_
  unfold eSnaps
  refine va_upn (by decide) ?_
  refine (eSn_off (by decide) (by decide)).trans ?_
  refine va_upn (by decide) ?_
  unfold eSnaps
  refine va_upn (by decide) ?_
  unfold eSn
  exact va_ups.trans rfl
theorem we_67 (b : Nat) (D : va_G) (AI : FieldType → ClassId) : wEnd (wGm b D AI) 67 = wE (wGm b D AI) wS0 67 (.inl (.int, 9, 0, 0)) := by
  unfold wEnd
  refine va_upn (by decide) ?_
  unfold wEb
  refine (eM_off (by decide) (by decide)).trans ?_
  refine va_upn (by decide) ?_
  unfold wEa eW
  refine (eSnaps_off 3 (by decide) (by decide)).trans ?_
  unfold eW11
  refine va_upn (by decide) ?_
  refine va_upn (by decide) ?_
  unfold eW10
  refine va_upn (by decide) ?_
  refine (eSi_off (by decide) (by decide)).trans ?_
  refine va_upn (by decide) ?_
  unfold eW9
  refine va_upn (by decide) ?_
  refine va_upn (by decide) ?_
  unfold eW8
  refine va_upn (by decide) ?_
  unfold ePa
  unfold eSnaps
  refine va_upn (by decide) ?_
  refine (eSn_off (by decide) (by decide)).trans ?_
  refine va_upn (by decide) ?_
  unfold eSnaps
  refine va_upn (by decide) ?_
  refine (eSn_off (by decide) (by decide)).trans ?_
  refine va_upn (by decide) ?_
  unfold eSnaps
  refine va_upn (by decide) ?_
  refine (eSn_off (by decide) (by decide)).trans ?_
  refine va_upn (by decide) ?_
  unfold eSnaps
  refine va_upn (by decide) ?_
  refine (eSn_off (by decide) (by decide)).trans ?_
  refine va_upn (by decide) ?_
  unfold eSnaps
  refine va_upn (by decide) ?_
  refine (eSn_off (by decide) (by decide)).trans ?_
  refine va_upn (by decide) ?_
  unfold eSnaps
  refine va_upn (by decide) ?_
  refine (eSn_off (by decide) (by decide)).trans ?_
  refine va_upn (by decide) ?_
  unfold eSnaps
  refine va_upn (by decide) ?_
  refine (eSn_off (by decide) (by decide)).trans ?_
  refine va_upn (by decide) ?_
  unfold eSnaps
  refine va_upn (by decide) ?_
  refine (eSn_off (by decide) (by decide)).trans ?_
  refine va_upn (by decide) ?_
  unfold eSnaps
  refine va_upn (by decide) ?_
  refine (eSn_off (by decide) (by decide)).trans ?_
  refine va_upn (by decide) ?_
  unfold eSnaps
  refine va_upn (by decide) ?_
  refine (eSn_off (by decide) (by decide)).trans ?_
  refine va_upn (by decide) ?_
  unfold eSnaps
  refine va_upn (by decide) ?_
  refine (eSn_off (by decide) (by decide)).trans ?_
  refine va_upn (by decide) ?_
  unfold eSnaps
  refine va_upn (by decide) ?_
  refine (eSn_off (by decide) (by decide)).trans ?_
  refine va_upn (by decide) ?_
  unfold eSnaps
  refine va_upn (by decide) ?_
  refine (eSn_off (by decide) (by decide)).trans ?_
  refine va_upn (by decide) ?_
  unfold eSnaps
  refine va_upn (by decide) ?_
  refine (eSn_off (by decide) (by decide)).trans ?_
  refine va_upn (by decide) ?_
  unfold eSnaps
  refine va_upn (by decide) ?_
  unfold eSn
  refine va_upn (by decide) ?_
  refine va_upn (by decide) ?_
  refine va_upn (by decide) ?_
  refine va_upn (by decide) ?_
  refine va_upn (by decide) ?_
  refine va_upn (by decide) ?_
  refine va_upn (by decide) ?_
  refine va_upn (by decide) ?_
  refine va_upn (by decide) ?_
  exact va_ups.trans rfl
theorem we_68 (b : Nat) (D : va_G) (AI : FieldType → ClassId) : wEnd (wGm b D AI) 68 = wE (wGm b D AI) wS0 68 (.inl (.int, 9, 0, 0)) := by
  unfold wEnd
  refine va_upn (by decide) ?_
  unfold wEb
  refine (eM_off (by decide) (by decide)).trans ?_
  refine va_upn (by decide) ?_
  unfold wEa eW
  refine (eSnaps_off 3 (by decide) (by decide)).trans ?_
  unfold eW11
  refine va_upn (by decide) ?_
  refine va_upn (by decide) ?_
  unfold eW10
  refine va_upn (by decide) ?_
  refine (eSi_off (by decide) (by decide)).trans ?_
  refine va_upn (by decide) ?_
  unfold eW9
  refine va_upn (by decide) ?_
  refine va_upn (by decide) ?_
  unfold eW8
  refine va_upn (by decide) ?_
  unfold ePa
  unfold eSnaps
  refine va_upn (by decide) ?_
  refine (eSn_off (by decide) (by decide)).trans ?_
  refine va_upn (by decide) ?_
  unfold eSnaps
  refine va_upn (by decide) ?_
  refine (eSn_off (by decide) (by decide)).trans ?_
  refine va_upn (by decide) ?_
  unfold eSnaps
  refine va_upn (by decide) ?_
  refine (eSn_off (by decide) (by decide)).trans ?_
  refine va_upn (by decide) ?_
  unfold eSnaps
  refine va_upn (by decide) ?_
  refine (eSn_off (by decide) (by decide)).trans ?_
  refine va_upn (by decide) ?_
  unfold eSnaps
  refine va_upn (by decide) ?_
  refine (eSn_off (by decide) (by decide)).trans ?_
  refine va_upn (by decide) ?_
  unfold eSnaps
  refine va_upn (by decide) ?_
  refine (eSn_off (by decide) (by decide)).trans ?_
  refine va_upn (by decide) ?_
  unfold eSnaps
  refine va_upn (by decide) ?_
  refine (eSn_off (by decide) (by decide)).trans ?_
  refine va_upn (by decide) ?_
  unfold eSnaps
  refine va_upn (by decide) ?_
  refine (eSn_off (by decide) (by decide)).trans ?_
  refine va_upn (by decide) ?_
  unfold eSnaps
  refine va_upn (by decide) ?_
  refine (eSn_off (by decide) (by decide)).trans ?_
  refine va_upn (by decide) ?_
  unfold eSnaps
  refine va_upn (by decide) ?_
  refine (eSn_off (by decide) (by decide)).trans ?_
  refine va_upn (by decide) ?_
  unfold eSnaps
  refine va_upn (by decide) ?_
  refine (eSn_off (by decide) (by decide)).trans ?_
  refine va_upn (by decide) ?_
  unfold eSnaps
  refine va_upn (by decide) ?_
  refine (eSn_off (by decide) (by decide)).trans ?_
  refine va_upn (by decide) ?_
  unfold eSnaps
  refine va_upn (by decide) ?_
  refine (eSn_off (by decide) (by decide)).trans ?_
  refine va_upn (by decide) ?_
  unfold eSnaps
  refine va_upn (by decide) ?_
  refine (eSn_off (by decide) (by decide)).trans ?_
  refine va_upn (by decide) ?_
  unfold eSnaps
  refine va_upn (by decide) ?_
  unfold eSn
  refine va_upn (by decide) ?_
  refine va_upn (by decide) ?_
  refine va_upn (by decide) ?_
  refine va_upn (by decide) ?_
  refine va_upn (by decide) ?_
  refine va_upn (by decide) ?_
  refine va_upn (by decide) ?_
  exact va_ups.trans rfl
theorem we_69 (b : Nat) (D : va_G) (AI : FieldType → ClassId) : wEnd (wGm b D AI) 69 = wE (wGm b D AI) wS0 69 (.inl (.int, 9, 0, 0)) := by
  unfold wEnd
  refine va_upn (by decide) ?_
  unfold wEb
  refine (eM_off (by decide) (by decide)).trans ?_
  refine va_upn (by decide) ?_
  unfold wEa eW
  refine (eSnaps_off 3 (by decide) (by decide)).trans ?_
  unfold eW11
  refine va_upn (by decide) ?_
  refine va_upn (by decide) ?_
  unfold eW10
  refine va_upn (by decide) ?_
  refine (eSi_off (by decide) (by decide)).trans ?_
  refine va_upn (by decide) ?_
  unfold eW9
  refine va_upn (by decide) ?_
  refine va_upn (by decide) ?_
  unfold eW8
  refine va_upn (by decide) ?_
  unfold ePa
  unfold eSnaps
  refine va_upn (by decide) ?_
  refine (eSn_off (by decide) (by decide)).trans ?_
  refine va_upn (by decide) ?_
  unfold eSnaps
  refine va_upn (by decide) ?_
  refine (eSn_off (by decide) (by decide)).trans ?_
  refine va_upn (by decide) ?_
  unfold eSnaps
  refine va_upn (by decide) ?_
  refine (eSn_off (by decide) (by decide)).trans ?_
  refine va_upn (by decide) ?_
  unfold eSnaps
  refine va_upn (by decide) ?_
  refine (eSn_off (by decide) (by decide)).trans ?_
  refine va_upn (by decide) ?_
  unfold eSnaps
  refine va_upn (by decide) ?_
  refine (eSn_off (by decide) (by decide)).trans ?_
  refine va_upn (by decide) ?_
  unfold eSnaps
  refine va_upn (by decide) ?_
  refine (eSn_off (by decide) (by decide)).trans ?_
  refine va_upn (by decide) ?_
  unfold eSnaps
  refine va_upn (by decide) ?_
  refine (eSn_off (by decide) (by decide)).trans ?_
  refine va_upn (by decide) ?_
  unfold eSnaps
  refine va_upn (by decide) ?_
  refine (eSn_off (by decide) (by decide)).trans ?_
  refine va_upn (by decide) ?_
  unfold eSnaps
  refine va_upn (by decide) ?_
  refine (eSn_off (by decide) (by decide)).trans ?_
  refine va_upn (by decide) ?_
  unfold eSnaps
  refine va_upn (by decide) ?_
  refine (eSn_off (by decide) (by decide)).trans ?_
  refine va_upn (by decide) ?_
  unfold eSnaps
  refine va_upn (by decide) ?_
  refine (eSn_off (by decide) (by decide)).trans ?_
  refine va_upn (by decide) ?_
  unfold eSnaps
  refine va_upn (by decide) ?_
  refine (eSn_off (by decide) (by decide)).trans ?_
  refine va_upn (by decide) ?_
  unfold eSnaps
  refine va_upn (by decide) ?_
  refine (eSn_off (by decide) (by decide)).trans ?_
  refine va_upn (by decide) ?_
  unfold eSnaps
  refine va_upn (by decide) ?_
  refine (eSn_off (by decide) (by decide)).trans ?_
  refine va_upn (by decide) ?_
  unfold eSnaps
  refine va_upn (by decide) ?_
  unfold eSn
  refine va_upn (by decide) ?_
  refine va_upn (by decide) ?_
  refine va_upn (by decide) ?_
  refine va_upn (by decide) ?_
  refine va_upn (by decide) ?_
  exact va_ups.trans rfl
theorem we_70 (b : Nat) (D : va_G) (AI : FieldType → ClassId) : wEnd (wGm b D AI) 70 = wE (wGm b D AI) wS0 70 (.inl (.int, 3, 0, 0)) := by
  unfold wEnd
  refine va_upn (by decide) ?_
  unfold wEb
  refine (eM_off (by decide) (by decide)).trans ?_
  refine va_upn (by decide) ?_
  unfold wEa eW
  refine (eSnaps_off 3 (by decide) (by decide)).trans ?_
  unfold eW11
  refine va_upn (by decide) ?_
  refine va_upn (by decide) ?_
  unfold eW10
  refine va_upn (by decide) ?_
  refine (eSi_off (by decide) (by decide)).trans ?_
  refine va_upn (by decide) ?_
  unfold eW9
  refine va_upn (by decide) ?_
  refine va_upn (by decide) ?_
  unfold eW8
  refine va_upn (by decide) ?_
  unfold ePa
  unfold eSnaps
  refine va_upn (by decide) ?_
  refine (eSn_off (by decide) (by decide)).trans ?_
  refine va_upn (by decide) ?_
  unfold eSnaps
  refine va_upn (by decide) ?_
  refine (eSn_off (by decide) (by decide)).trans ?_
  refine va_upn (by decide) ?_
  unfold eSnaps
  refine va_upn (by decide) ?_
  refine (eSn_off (by decide) (by decide)).trans ?_
  refine va_upn (by decide) ?_
  unfold eSnaps
  refine va_upn (by decide) ?_
  refine (eSn_off (by decide) (by decide)).trans ?_
  refine va_upn (by decide) ?_
  unfold eSnaps
  refine va_upn (by decide) ?_
  refine (eSn_off (by decide) (by decide)).trans ?_
  refine va_upn (by decide) ?_
  unfold eSnaps
  refine va_upn (by decide) ?_
  refine (eSn_off (by decide) (by decide)).trans ?_
  refine va_upn (by decide) ?_
  unfold eSnaps
  refine va_upn (by decide) ?_
  refine (eSn_off (by decide) (by decide)).trans ?_
  refine va_upn (by decide) ?_
  unfold eSnaps
  refine va_upn (by decide) ?_
  refine (eSn_off (by decide) (by decide)).trans ?_
  refine va_upn (by decide) ?_
  unfold eSnaps
  refine va_upn (by decide) ?_
  refine (eSn_off (by decide) (by decide)).trans ?_
  refine va_upn (by decide) ?_
  unfold eSnaps
  refine va_upn (by decide) ?_
  refine (eSn_off (by decide) (by decide)).trans ?_
  refine va_upn (by decide) ?_
  unfold eSnaps
  refine va_upn (by decide) ?_
  refine (eSn_off (by decide) (by decide)).trans ?_
  refine va_upn (by decide) ?_
  unfold eSnaps
  refine va_upn (by decide) ?_
  refine (eSn_off (by decide) (by decide)).trans ?_
  refine va_upn (by decide) ?_
  unfold eSnaps
  refine va_upn (by decide) ?_
  refine (eSn_off (by decide) (by decide)).trans ?_
  refine va_upn (by decide) ?_
  unfold eSnaps
  refine va_upn (by decide) ?_
  refine (eSn_off (by decide) (by decide)).trans ?_
  refine va_upn (by decide) ?_
  unfold eSnaps
  refine va_upn (by decide) ?_
  unfold eSn
  refine va_upn (by decide) ?_
  refine va_upn (by decide) ?_
  refine va_upn (by decide) ?_
  exact va_ups.trans rfl
theorem we_71 (b : Nat) (D : va_G) (AI : FieldType → ClassId) : wEnd (wGm b D AI) 71 = wE (wGm b D AI) wS0 71 (.inr (8, [some 72, some 73, some 74, some 75, none, none])) := by
  unfold wEnd
  refine va_upn (by decide) ?_
  unfold wEb
  refine (eM_off (by decide) (by decide)).trans ?_
  refine va_upn (by decide) ?_
  unfold wEa eW
  refine (eSnaps_off 3 (by decide) (by decide)).trans ?_
  unfold eW11
  refine va_upn (by decide) ?_
  refine va_upn (by decide) ?_
  unfold eW10
  refine va_upn (by decide) ?_
  refine (eSi_off (by decide) (by decide)).trans ?_
  refine va_upn (by decide) ?_
  unfold eW9
  refine va_upn (by decide) ?_
  refine va_upn (by decide) ?_
  unfold eW8
  refine va_upn (by decide) ?_
  unfold ePa
  unfold eSnaps
  refine va_upn (by decide) ?_
  refine (eSn_off (by decide) (by decide)).trans ?_
  refine va_upn (by decide) ?_
  unfold eSnaps
  refine va_upn (by decide) ?_
  refine (eSn_off (by decide) (by decide)).trans ?_
  refine va_upn (by decide) ?_
  unfold eSnaps
  refine va_upn (by decide) ?_
  refine (eSn_off (by decide) (by decide)).trans ?_
  refine va_upn (by decide) ?_
  unfold eSnaps
  refine va_upn (by decide) ?_
  refine (eSn_off (by decide) (by decide)).trans ?_
  refine va_upn (by decide) ?_
  unfold eSnaps
  refine va_upn (by decide) ?_
  refine (eSn_off (by decide) (by decide)).trans ?_
  refine va_upn (by decide) ?_
  unfold eSnaps
  refine va_upn (by decide) ?_
  refine (eSn_off (by decide) (by decide)).trans ?_
  refine va_upn (by decide) ?_
  unfold eSnaps
  refine va_upn (by decide) ?_
  refine (eSn_off (by decide) (by decide)).trans ?_
  refine va_upn (by decide) ?_
  unfold eSnaps
  refine va_upn (by decide) ?_
  refine (eSn_off (by decide) (by decide)).trans ?_
  refine va_upn (by decide) ?_
  unfold eSnaps
  refine va_upn (by decide) ?_
  refine (eSn_off (by decide) (by decide)).trans ?_
  refine va_upn (by decide) ?_
  unfold eSnaps
  refine va_upn (by decide) ?_
  refine (eSn_off (by decide) (by decide)).trans ?_
  refine va_upn (by decide) ?_
  unfold eSnaps
  refine va_upn (by decide) ?_
  refine (eSn_off (by decide) (by decide)).trans ?_
  refine va_upn (by decide) ?_
  unfold eSnaps
  refine va_upn (by decide) ?_
  refine (eSn_off (by decide) (by decide)).trans ?_
  refine va_upn (by decide) ?_
  unfold eSnaps
  refine va_upn (by decide) ?_
  refine (eSn_off (by decide) (by decide)).trans ?_
  refine va_upn (by decide) ?_
  unfold eSnaps
  refine va_upn (by decide) ?_
  unfold eSn
  exact va_ups.trans rfl
theorem we_72 (b : Nat) (D : va_G) (AI : FieldType → ClassId) : wEnd (wGm b D AI) 72 = wE (wGm b D AI) wS0 72 (.inl (.int, 9, 0, 0)) := by
  unfold wEnd
  refine va_upn (by decide) ?_
  unfold wEb
  refine (eM_off (by decide) (by decide)).trans ?_
  refine va_upn (by decide) ?_
  unfold wEa eW
  refine (eSnaps_off 3 (by decide) (by decide)).trans ?_
  unfold eW11
  refine va_upn (by decide) ?_
  refine va_upn (by decide) ?_
  unfold eW10
  refine va_upn (by decide) ?_
  refine (eSi_off (by decide) (by decide)).trans ?_
  refine va_upn (by decide) ?_
  unfold eW9
  refine va_upn (by decide) ?_
  refine va_upn (by decide) ?_
  unfold eW8
  refine va_upn (by decide) ?_
  unfold ePa
  unfold eSnaps
  refine va_upn (by decide) ?_
  refine (eSn_off (by decide) (by decide)).trans ?_
  refine va_upn (by decide) ?_
  unfold eSnaps
  refine va_upn (by decide) ?_
  refine (eSn_off (by decide) (by decide)).trans ?_
  refine va_upn (by decide) ?_
  unfold eSnaps
  refine va_upn (by decide) ?_
  refine (eSn_off (by decide) (by decide)).trans ?_
  refine va_upn (by decide) ?_
  unfold eSnaps
  refine va_upn (by decide) ?_
  refine (eSn_off (by decide) (by decide)).trans ?_
  refine va_upn (by decide) ?_
  unfold eSnaps
  refine va_upn (by decide) ?_
  refine (eSn_off (by decide) (by decide)).trans ?_
  refine va_upn (by decide) ?_
  unfold eSnaps
  refine va_upn (by decide) ?_
  refine (eSn_off (by decide) (by decide)).trans ?_
  refine va_upn (by decide) ?_
  unfold eSnaps
  refine va_upn (by decide) ?_
  refine (eSn_off (by decide) (by decide)).trans ?_
  refine va_upn (by decide) ?_
  unfold eSnaps
  refine va_upn (by decide) ?_
  refine (eSn_off (by decide) (by decide)).trans ?_
  refine va_upn (by decide) ?_
  unfold eSnaps
  refine va_upn (by decide) ?_
  refine (eSn_off (by decide) (by decide)).trans ?_
  refine va_upn (by decide) ?_
  unfold eSnaps
  refine va_upn (by decide) ?_
  refine (eSn_off (by decide) (by decide)).trans ?_
  refine va_upn (by decide) ?_
  unfold eSnaps
  refine va_upn (by decide) ?_
  refine (eSn_off (by decide) (by decide)).trans ?_
  refine va_upn (by decide) ?_
  unfold eSnaps
  refine va_upn (by decide) ?_
  refine (eSn_off (by decide) (by decide)).trans ?_
  refine va_upn (by decide) ?_
  unfold eSnaps
  refine va_upn (by decide) ?_
  refine (eSn_off (by decide) (by decide)).trans ?_
  refine va_upn (by decide) ?_
  unfold eSnaps
  refine va_upn (by decide) ?_
  unfold eSn
  refine va_upn (by decide) ?_
  refine va_upn (by decide) ?_
  refine va_upn (by decide) ?_
  refine va_upn (by decide) ?_
  refine va_upn (by decide) ?_
  refine va_upn (by decide) ?_
  refine va_upn (by decide) ?_
  refine va_upn (by decide) ?_
  refine va_upn (by decide) ?_
  exact va_ups.trans rfl
theorem we_73 (b : Nat) (D : va_G) (AI : FieldType → ClassId) : wEnd (wGm b D AI) 73 = wE (wGm b D AI) wS0 73 (.inl (.int, 9, 0, 0)) := by
  unfold wEnd
  refine va_upn (by decide) ?_
  unfold wEb
  refine (eM_off (by decide) (by decide)).trans ?_
  refine va_upn (by decide) ?_
  unfold wEa eW
  refine (eSnaps_off 3 (by decide) (by decide)).trans ?_
  unfold eW11
  refine va_upn (by decide) ?_
  refine va_upn (by decide) ?_
  unfold eW10
  refine va_upn (by decide) ?_
  refine (eSi_off (by decide) (by decide)).trans ?_
  refine va_upn (by decide) ?_
  unfold eW9
  refine va_upn (by decide) ?_
  refine va_upn (by decide) ?_
  unfold eW8
  refine va_upn (by decide) ?_
  unfold ePa
  unfold eSnaps
  refine va_upn (by decide) ?_
  refine (eSn_off (by decide) (by decide)).trans ?_
  refine va_upn (by decide) ?_
  unfold eSnaps
  refine va_upn (by decide) ?_
  refine (eSn_off (by decide) (by decide)).trans ?_
  refine va_upn (by decide) ?_
  unfold eSnaps
  refine va_upn (by decide) ?_
  refine (eSn_off (by decide) (by decide)).trans ?_
  refine va_upn (by decide) ?_
  unfold eSnaps
  refine va_upn (by decide) ?_
  refine (eSn_off (by decide) (by decide)).trans ?_
  refine va_upn (by decide) ?_
  unfold eSnaps
  refine va_upn (by decide) ?_
  refine (eSn_off (by decide) (by decide)).trans ?_
  refine va_upn (by decide) ?_
  unfold eSnaps
  refine va_upn (by decide) ?_
  refine (eSn_off (by decide) (by decide)).trans ?_
  refine va_upn (by decide) ?_
  unfold eSnaps
  refine va_upn (by decide) ?_
  refine (eSn_off (by decide) (by decide)).trans ?_
  refine va_upn (by decide) ?_
  unfold eSnaps
  refine va_upn (by decide) ?_
  refine (eSn_off (by decide) (by decide)).trans ?_
  refine va_upn (by decide) ?_
  unfold eSnaps
  refine va_upn (by decide) ?_
  refine (eSn_off (by decide) (by decide)).trans ?_
  refine va_upn (by decide) ?_
  unfold eSnaps
  refine va_upn (by decide) ?_
  refine (eSn_off (by decide) (by decide)).trans ?_
  refine va_upn (by decide) ?_
  unfold eSnaps
  refine va_upn (by decide) ?_
  refine (eSn_off (by decide) (by decide)).trans ?_
  refine va_upn (by decide) ?_
  unfold eSnaps
  refine va_upn (by decide) ?_
  refine (eSn_off (by decide) (by decide)).trans ?_
  refine va_upn (by decide) ?_
  unfold eSnaps
  refine va_upn (by decide) ?_
  refine (eSn_off (by decide) (by decide)).trans ?_
  refine va_upn (by decide) ?_
  unfold eSnaps
  refine va_upn (by decide) ?_
  unfold eSn
  refine va_upn (by decide) ?_
  refine va_upn (by decide) ?_
  refine va_upn (by decide) ?_
  refine va_upn (by decide) ?_
  refine va_upn (by decide) ?_
  refine va_upn (by decide) ?_
  refine va_upn (by decide) ?_
  exact va_ups.trans rfl
theorem we_74 (b : Nat) (D : va_G) (AI : FieldType → ClassId) : wEnd (wGm b D AI) 74 = wE (wGm b D AI) wS0 74 (.inl (.int, 9, 0, 0)) := by
  unfold wEnd
  refine va_upn (by decide) ?_
  unfold wEb
  refine (eM_off (by decide) (by decide)).trans ?_
  refine va_upn (by decide) ?_
  unfold wEa eW
  refine (eSnaps_off 3 (by decide) (by decide)).trans ?_
  unfold eW11
  refine va_upn (by decide) ?_
  refine va_upn (by decide) ?_
  unfold eW10
  refine va_upn (by decide) ?_
  refine (eSi_off (by decide) (by decide)).trans ?_
  refine va_upn (by decide) ?_
  unfold eW9
  refine va_upn (by decide) ?_
  refine va_upn (by decide) ?_
  unfold eW8
  refine va_upn (by decide) ?_
  unfold ePa
  unfold eSnaps
  refine va_upn (by decide) ?_
  refine (eSn_off (by decide) (by decide)).trans ?_
  refine va_upn (by decide) ?_
  unfold eSnaps
  refine va_upn (by decide) ?_
  refine (eSn_off (by decide) (by decide)).trans ?_
  refine va_upn (by decide) ?_
  unfold eSnaps
  refine va_upn (by decide) ?_
  refine (eSn_off (by decide) (by decide)).trans ?_
  refine va_upn (by decide) ?_
  unfold eSnaps
  refine va_upn (by decide) ?_
  refine (eSn_off (by decide) (by decide)).trans ?_
  refine va_upn (by decide) ?_
  unfold eSnaps
  refine va_upn (by decide) ?_
  refine (eSn_off (by decide) (by decide)).trans ?_
  refine va_upn (by decide) ?_
  unfold eSnaps
  refine va_upn (by decide) ?_
  refine (eSn_off (by decide) (by decide)).trans ?_
  refine va_upn (by decide) ?_
  unfold eSnaps
  refine va_upn (by decide) ?_
  refine (eSn_off (by decide) (by decide)).trans ?_
  refine va_upn (by decide) ?_
  unfold eSnaps
  refine va_upn (by decide) ?_
  refine (eSn_off (by decide) (by decide)).trans ?_
  refine va_upn (by decide) ?_
  unfold eSnaps
  refine va_upn (by decide) ?_
  refine (eSn_off (by decide) (by decide)).trans ?_
  refine va_upn (by decide) ?_
  unfold eSnaps
  refine va_upn (by decide) ?_
  refine (eSn_off (by decide) (by decide)).trans ?_
  refine va_upn (by decide) ?_
  unfold eSnaps
  refine va_upn (by decide) ?_
  refine (eSn_off (by decide) (by decide)).trans ?_
  refine va_upn (by decide) ?_
  unfold eSnaps
  refine va_upn (by decide) ?_
  refine (eSn_off (by decide) (by decide)).trans ?_
  refine va_upn (by decide) ?_
  unfold eSnaps
  refine va_upn (by decide) ?_
  refine (eSn_off (by decide) (by decide)).trans ?_
  refine va_upn (by decide) ?_
  unfold eSnaps
  refine va_upn (by decide) ?_
  unfold eSn
  refine va_upn (by decide) ?_
  refine va_upn (by decide) ?_
  refine va_upn (by decide) ?_
  refine va_upn (by decide) ?_
  refine va_upn (by decide) ?_
  exact va_ups.trans rfl
theorem we_75 (b : Nat) (D : va_G) (AI : FieldType → ClassId) : wEnd (wGm b D AI) 75 = wE (wGm b D AI) wS0 75 (.inl (.int, 3, 0, 0)) := by
  unfold wEnd
  refine va_upn (by decide) ?_
  unfold wEb
  refine (eM_off (by decide) (by decide)).trans ?_
  refine va_upn (by decide) ?_
  unfold wEa eW
  refine (eSnaps_off 3 (by decide) (by decide)).trans ?_
  unfold eW11
  refine va_upn (by decide) ?_
  refine va_upn (by decide) ?_
  unfold eW10
  refine va_upn (by decide) ?_
  refine (eSi_off (by decide) (by decide)).trans ?_
  refine va_upn (by decide) ?_
  unfold eW9
  refine va_upn (by decide) ?_
  refine va_upn (by decide) ?_
  unfold eW8
  refine va_upn (by decide) ?_
  unfold ePa
  unfold eSnaps
  refine va_upn (by decide) ?_
  refine (eSn_off (by decide) (by decide)).trans ?_
  refine va_upn (by decide) ?_
  unfold eSnaps
  refine va_upn (by decide) ?_
  refine (eSn_off (by decide) (by decide)).trans ?_
  refine va_upn (by decide) ?_
  unfold eSnaps
  refine va_upn (by decide) ?_
  refine (eSn_off (by decide) (by decide)).trans ?_
  refine va_upn (by decide) ?_
  unfold eSnaps
  refine va_upn (by decide) ?_
  refine (eSn_off (by decide) (by decide)).trans ?_
  refine va_upn (by decide) ?_
  unfold eSnaps
  refine va_upn (by decide) ?_
  refine (eSn_off (by decide) (by decide)).trans ?_
  refine va_upn (by decide) ?_
  unfold eSnaps
  refine va_upn (by decide) ?_
  refine (eSn_off (by decide) (by decide)).trans ?_
  refine va_upn (by decide) ?_
  unfold eSnaps
  refine va_upn (by decide) ?_
  refine (eSn_off (by decide) (by decide)).trans ?_
  refine va_upn (by decide) ?_
  unfold eSnaps
  refine va_upn (by decide) ?_
  refine (eSn_off (by decide) (by decide)).trans ?_
  refine va_upn (by decide) ?_
  unfold eSnaps
  refine va_upn (by decide) ?_
  refine (eSn_off (by decide) (by decide)).trans ?_
  refine va_upn (by decide) ?_
  unfold eSnaps
  refine va_upn (by decide) ?_
  refine (eSn_off (by decide) (by decide)).trans ?_
  refine va_upn (by decide) ?_
  unfold eSnaps
  refine va_upn (by decide) ?_
  refine (eSn_off (by decide) (by decide)).trans ?_
  refine va_upn (by decide) ?_
  unfold eSnaps
  refine va_upn (by decide) ?_
  refine (eSn_off (by decide) (by decide)).trans ?_
  refine va_upn (by decide) ?_
  unfold eSnaps
  refine va_upn (by decide) ?_
  refine (eSn_off (by decide) (by decide)).trans ?_
  refine va_upn (by decide) ?_
  unfold eSnaps
  refine va_upn (by decide) ?_
  unfold eSn
  refine va_upn (by decide) ?_
  refine va_upn (by decide) ?_
  refine va_upn (by decide) ?_
  exact va_ups.trans rfl
theorem we_76 (b : Nat) (D : va_G) (AI : FieldType → ClassId) : wEnd (wGm b D AI) 76 = wE (wGm b D AI) wS0 76 (.inr (8, [some 77, some 78, some 79, some 80, none, none])) := by
  unfold wEnd
  refine va_upn (by decide) ?_
  unfold wEb
  refine (eM_off (by decide) (by decide)).trans ?_
  refine va_upn (by decide) ?_
  unfold wEa eW
  refine (eSnaps_off 3 (by decide) (by decide)).trans ?_
  unfold eW11
  refine va_upn (by decide) ?_
  refine va_upn (by decide) ?_
  unfold eW10
  refine va_upn (by decide) ?_
  refine (eSi_off (by decide) (by decide)).trans ?_
  refine va_upn (by decide) ?_
  unfold eW9
  refine va_upn (by decide) ?_
  refine va_upn (by decide) ?_
  unfold eW8
  refine va_upn (by decide) ?_
  unfold ePa
  unfold eSnaps
  refine va_upn (by decide) ?_
  refine (eSn_off (by decide) (by decide)).trans ?_
  refine va_upn (by decide) ?_
  unfold eSnaps
  refine va_upn (by decide) ?_
  refine (eSn_off (by decide) (by decide)).trans ?_
  refine va_upn (by decide) ?_
  unfold eSnaps
  refine va_upn (by decide) ?_
  refine (eSn_off (by decide) (by decide)).trans ?_
  refine va_upn (by decide) ?_
  unfold eSnaps
  refine va_upn (by decide) ?_
  refine (eSn_off (by decide) (by decide)).trans ?_
  refine va_upn (by decide) ?_
  unfold eSnaps
  refine va_upn (by decide) ?_
  refine (eSn_off (by decide) (by decide)).trans ?_
  refine va_upn (by decide) ?_
  unfold eSnaps
  refine va_upn (by decide) ?_
  refine (eSn_off (by decide) (by decide)).trans ?_
  refine va_upn (by decide) ?_
  unfold eSnaps
  refine va_upn (by decide) ?_
  refine (eSn_off (by decide) (by decide)).trans ?_
  refine va_upn (by decide) ?_
  unfold eSnaps
  refine va_upn (by decide) ?_
  refine (eSn_off (by decide) (by decide)).trans ?_
  refine va_upn (by decide) ?_
  unfold eSnaps
  refine va_upn (by decide) ?_
  refine (eSn_off (by decide) (by decide)).trans ?_
  refine va_upn (by decide) ?_
  unfold eSnaps
  refine va_upn (by decide) ?_
  refine (eSn_off (by decide) (by decide)).trans ?_
  refine va_upn (by decide) ?_
  unfold eSnaps
  refine va_upn (by decide) ?_
  refine (eSn_off (by decide) (by decide)).trans ?_
  refine va_upn (by decide) ?_
  unfold eSnaps
  refine va_upn (by decide) ?_
  refine (eSn_off (by decide) (by decide)).trans ?_
  refine va_upn (by decide) ?_
  unfold eSnaps
  refine va_upn (by decide) ?_
  unfold eSn
  exact va_ups.trans rfl
theorem we_77 (b : Nat) (D : va_G) (AI : FieldType → ClassId) : wEnd (wGm b D AI) 77 = wE (wGm b D AI) wS0 77 (.inl (.int, 9, 0, 0)) := by
  unfold wEnd
  refine va_upn (by decide) ?_
  unfold wEb
  refine (eM_off (by decide) (by decide)).trans ?_
  refine va_upn (by decide) ?_
  unfold wEa eW
  refine (eSnaps_off 3 (by decide) (by decide)).trans ?_
  unfold eW11
  refine va_upn (by decide) ?_
  refine va_upn (by decide) ?_
  unfold eW10
  refine va_upn (by decide) ?_
  refine (eSi_off (by decide) (by decide)).trans ?_
  refine va_upn (by decide) ?_
  unfold eW9
  refine va_upn (by decide) ?_
  refine va_upn (by decide) ?_
  unfold eW8
  refine va_upn (by decide) ?_
  unfold ePa
  unfold eSnaps
  refine va_upn (by decide) ?_
  refine (eSn_off (by decide) (by decide)).trans ?_
  refine va_upn (by decide) ?_
  unfold eSnaps
  refine va_upn (by decide) ?_
  refine (eSn_off (by decide) (by decide)).trans ?_
  refine va_upn (by decide) ?_
  unfold eSnaps
  refine va_upn (by decide) ?_
  refine (eSn_off (by decide) (by decide)).trans ?_
  refine va_upn (by decide) ?_
  unfold eSnaps
  refine va_upn (by decide) ?_
  refine (eSn_off (by decide) (by decide)).trans ?_
  refine va_upn (by decide) ?_
  unfold eSnaps
  refine va_upn (by decide) ?_
  refine (eSn_off (by decide) (by decide)).trans ?_
  refine va_upn (by decide) ?_
  unfold eSnaps
  refine va_upn (by decide) ?_
  refine (eSn_off (by decide) (by decide)).trans ?_
  refine va_upn (by decide) ?_
  unfold eSnaps
  refine va_upn (by decide) ?_
  refine (eSn_off (by decide) (by decide)).trans ?_
  refine va_upn (by decide) ?_
  unfold eSnaps
  refine va_upn (by decide) ?_
  refine (eSn_off (by decide) (by decide)).trans ?_
  refine va_upn (by decide) ?_
  unfold eSnaps
  refine va_upn (by decide) ?_
  refine (eSn_off (by decide) (by decide)).trans ?_
  refine va_upn (by decide) ?_
  unfold eSnaps
  refine va_upn (by decide) ?_
  refine (eSn_off (by decide) (by decide)).trans ?_
  refine va_upn (by decide) ?_
  unfold eSnaps
  refine va_upn (by decide) ?_
  refine (eSn_off (by decide) (by decide)).trans ?_
  refine va_upn (by decide) ?_
  unfold eSnaps
  refine va_upn (by decide) ?_
  refine (eSn_off (by decide) (by decide)).trans ?_
  refine va_upn (by decide) ?_
  unfold eSnaps
  refine va_upn (by decide) ?_
  unfold eSn
  refine va_upn (by decide) ?_
  refine va_upn (by decide) ?_
  refine va_upn (by decide) ?_
  refine va_upn (by decide) ?_
  refine va_upn (by decide) ?_
  refine va_upn (by decide) ?_
  refine va_upn (by decide) ?_
  refine va_upn (by decide) ?_
  refine va_upn (by decide) ?_
  exact va_ups.trans rfl
theorem we_78 (b : Nat) (D : va_G) (AI : FieldType → ClassId) : wEnd (wGm b D AI) 78 = wE (wGm b D AI) wS0 78 (.inl (.int, 9, 0, 0)) := by
  unfold wEnd
  refine va_upn (by decide) ?_
  unfold wEb
  refine (eM_off (by decide) (by decide)).trans ?_
  refine va_upn (by decide) ?_
  unfold wEa eW
  refine (eSnaps_off 3 (by decide) (by decide)).trans ?_
  unfold eW11
  refine va_upn (by decide) ?_
  refine va_upn (by decide) ?_
  unfold eW10
  refine va_upn (by decide) ?_
  refine (eSi_off (by decide) (by decide)).trans ?_
  refine va_upn (by decide) ?_
  unfold eW9
  refine va_upn (by decide) ?_
  refine va_upn (by decide) ?_
  unfold eW8
  refine va_upn (by decide) ?_
  unfold ePa
  unfold eSnaps
  refine va_upn (by decide) ?_
  refine (eSn_off (by decide) (by decide)).trans ?_
  refine va_upn (by decide) ?_
  unfold eSnaps
  refine va_upn (by decide) ?_
  refine (eSn_off (by decide) (by decide)).trans ?_
  refine va_upn (by decide) ?_
  unfold eSnaps
  refine va_upn (by decide) ?_
  refine (eSn_off (by decide) (by decide)).trans ?_
  refine va_upn (by decide) ?_
  unfold eSnaps
  refine va_upn (by decide) ?_
  refine (eSn_off (by decide) (by decide)).trans ?_
  refine va_upn (by decide) ?_
  unfold eSnaps
  refine va_upn (by decide) ?_
  refine (eSn_off (by decide) (by decide)).trans ?_
  refine va_upn (by decide) ?_
  unfold eSnaps
  refine va_upn (by decide) ?_
  refine (eSn_off (by decide) (by decide)).trans ?_
  refine va_upn (by decide) ?_
  unfold eSnaps
  refine va_upn (by decide) ?_
  refine (eSn_off (by decide) (by decide)).trans ?_
  refine va_upn (by decide) ?_
  unfold eSnaps
  refine va_upn (by decide) ?_
  refine (eSn_off (by decide) (by decide)).trans ?_
  refine va_upn (by decide) ?_
  unfold eSnaps
  refine va_upn (by decide) ?_
  refine (eSn_off (by decide) (by decide)).trans ?_
  refine va_upn (by decide) ?_
  unfold eSnaps
  refine va_upn (by decide) ?_
  refine (eSn_off (by decide) (by decide)).trans ?_
  refine va_upn (by decide) ?_
  unfold eSnaps
  refine va_upn (by decide) ?_
  refine (eSn_off (by decide) (by decide)).trans ?_
  refine va_upn (by decide) ?_
  unfold eSnaps
  refine va_upn (by decide) ?_
  refine (eSn_off (by decide) (by decide)).trans ?_
  refine va_upn (by decide) ?_
  unfold eSnaps
  refine va_upn (by decide) ?_
  unfold eSn
  refine va_upn (by decide) ?_
  refine va_upn (by decide) ?_
  refine va_upn (by decide) ?_
  refine va_upn (by decide) ?_
  refine va_upn (by decide) ?_
  refine va_upn (by decide) ?_
  refine va_upn (by decide) ?_
  exact va_ups.trans rfl
theorem we_79 (b : Nat) (D : va_G) (AI : FieldType → ClassId) : wEnd (wGm b D AI) 79 = wE (wGm b D AI) wS0 79 (.inl (.int, 9, 0, 0)) := by
  unfold wEnd
  refine va_upn (by decide) ?_
  unfold wEb
  refine (eM_off (by decide) (by decide)).trans ?_
  refine va_upn (by decide) ?_
  unfold wEa eW
  refine (eSnaps_off 3 (by decide) (by decide)).trans ?_
  unfold eW11
  refine va_upn (by decide) ?_
  refine va_upn (by decide) ?_
  unfold eW10
  refine va_upn (by decide) ?_
  refine (eSi_off (by decide) (by decide)).trans ?_
  refine va_upn (by decide) ?_
  unfold eW9
  refine va_upn (by decide) ?_
  refine va_upn (by decide) ?_
  unfold eW8
  refine va_upn (by decide) ?_
  unfold ePa
  unfold eSnaps
  refine va_upn (by decide) ?_
  refine (eSn_off (by decide) (by decide)).trans ?_
  refine va_upn (by decide) ?_
  unfold eSnaps
  refine va_upn (by decide) ?_
  refine (eSn_off (by decide) (by decide)).trans ?_
  refine va_upn (by decide) ?_
  unfold eSnaps
  refine va_upn (by decide) ?_
  refine (eSn_off (by decide) (by decide)).trans ?_
  refine va_upn (by decide) ?_
  unfold eSnaps
  refine va_upn (by decide) ?_
  refine (eSn_off (by decide) (by decide)).trans ?_
  refine va_upn (by decide) ?_
  unfold eSnaps
  refine va_upn (by decide) ?_
  refine (eSn_off (by decide) (by decide)).trans ?_
  refine va_upn (by decide) ?_
  unfold eSnaps
  refine va_upn (by decide) ?_
  refine (eSn_off (by decide) (by decide)).trans ?_
  refine va_upn (by decide) ?_
  unfold eSnaps
  refine va_upn (by decide) ?_
  refine (eSn_off (by decide) (by decide)).trans ?_
  refine va_upn (by decide) ?_
  unfold eSnaps
  refine va_upn (by decide) ?_
  refine (eSn_off (by decide) (by decide)).trans ?_
  refine va_upn (by decide) ?_
  unfold eSnaps
  refine va_upn (by decide) ?_
  refine (eSn_off (by decide) (by decide)).trans ?_
  refine va_upn (by decide) ?_
  unfold eSnaps
  refine va_upn (by decide) ?_
  refine (eSn_off (by decide) (by decide)).trans ?_
  refine va_upn (by decide) ?_
  unfold eSnaps
  refine va_upn (by decide) ?_
  refine (eSn_off (by decide) (by decide)).trans ?_
  refine va_upn (by decide) ?_
  unfold eSnaps
  refine va_upn (by decide) ?_
  refine (eSn_off (by decide) (by decide)).trans ?_
  refine va_upn (by decide) ?_
  unfold eSnaps
  refine va_upn (by decide) ?_
  unfold eSn
  refine va_upn (by decide) ?_
  refine va_upn (by decide) ?_
  refine va_upn (by decide) ?_
  refine va_upn (by decide) ?_
  refine va_upn (by decide) ?_
  exact va_ups.trans rfl
theorem we_80 (b : Nat) (D : va_G) (AI : FieldType → ClassId) : wEnd (wGm b D AI) 80 = wE (wGm b D AI) wS0 80 (.inl (.int, 3, 0, 0)) := by
  unfold wEnd
  refine va_upn (by decide) ?_
  unfold wEb
  refine (eM_off (by decide) (by decide)).trans ?_
  refine va_upn (by decide) ?_
  unfold wEa eW
  refine (eSnaps_off 3 (by decide) (by decide)).trans ?_
  unfold eW11
  refine va_upn (by decide) ?_
  refine va_upn (by decide) ?_
  unfold eW10
  refine va_upn (by decide) ?_
  refine (eSi_off (by decide) (by decide)).trans ?_
  refine va_upn (by decide) ?_
  unfold eW9
  refine va_upn (by decide) ?_
  refine va_upn (by decide) ?_
  unfold eW8
  refine va_upn (by decide) ?_
  unfold ePa
  unfold eSnaps
  refine va_upn (by decide) ?_
  refine (eSn_off (by decide) (by decide)).trans ?_
  refine va_upn (by decide) ?_
  unfold eSnaps
  refine va_upn (by decide) ?_
  refine (eSn_off (by decide) (by decide)).trans ?_
  refine va_upn (by decide) ?_
  unfold eSnaps
  refine va_upn (by decide) ?_
  refine (eSn_off (by decide) (by decide)).trans ?_
  refine va_upn (by decide) ?_
  unfold eSnaps
  refine va_upn (by decide) ?_
  refine (eSn_off (by decide) (by decide)).trans ?_
  refine va_upn (by decide) ?_
  unfold eSnaps
  refine va_upn (by decide) ?_
  refine (eSn_off (by decide) (by decide)).trans ?_
  refine va_upn (by decide) ?_
  unfold eSnaps
  refine va_upn (by decide) ?_
  refine (eSn_off (by decide) (by decide)).trans ?_
  refine va_upn (by decide) ?_
  unfold eSnaps
  refine va_upn (by decide) ?_
  refine (eSn_off (by decide) (by decide)).trans ?_
  refine va_upn (by decide) ?_
  unfold eSnaps
  refine va_upn (by decide) ?_
  refine (eSn_off (by decide) (by decide)).trans ?_
  refine va_upn (by decide) ?_
  unfold eSnaps
  refine va_upn (by decide) ?_
  refine (eSn_off (by decide) (by decide)).trans ?_
  refine va_upn (by decide) ?_
  unfold eSnaps
  refine va_upn (by decide) ?_
  refine (eSn_off (by decide) (by decide)).trans ?_
  refine va_upn (by decide) ?_
  unfold eSnaps
  refine va_upn (by decide) ?_
  refine (eSn_off (by decide) (by decide)).trans ?_
  refine va_upn (by decide) ?_
  unfold eSnaps
  refine va_upn (by decide) ?_
  refine (eSn_off (by decide) (by decide)).trans ?_
  refine va_upn (by decide) ?_
  unfold eSnaps
  refine va_upn (by decide) ?_
  unfold eSn
  refine va_upn (by decide) ?_
  refine va_upn (by decide) ?_
  refine va_upn (by decide) ?_
  exact va_ups.trans rfl
theorem we_81 (b : Nat) (D : va_G) (AI : FieldType → ClassId) : wEnd (wGm b D AI) 81 = wE (wGm b D AI) wS0 81 (.inr (8, [some 82, some 83, some 84, some 85, none, none])) := by
  unfold wEnd
  refine va_upn (by decide) ?_
  unfold wEb
  refine (eM_off (by decide) (by decide)).trans ?_
  refine va_upn (by decide) ?_
  unfold wEa eW
  refine (eSnaps_off 3 (by decide) (by decide)).trans ?_
  unfold eW11
  refine va_upn (by decide) ?_
  refine va_upn (by decide) ?_
  unfold eW10
  refine va_upn (by decide) ?_
  refine (eSi_off (by decide) (by decide)).trans ?_
  refine va_upn (by decide) ?_
  unfold eW9
  refine va_upn (by decide) ?_
  refine va_upn (by decide) ?_
  unfold eW8
  refine va_upn (by decide) ?_
  unfold ePa
  unfold eSnaps
  refine va_upn (by decide) ?_
  refine (eSn_off (by decide) (by decide)).trans ?_
  refine va_upn (by decide) ?_
  unfold eSnaps
  refine va_upn (by decide) ?_
  refine (eSn_off (by decide) (by decide)).trans ?_
  refine va_upn (by decide) ?_
  unfold eSnaps
  refine va_upn (by decide) ?_
  refine (eSn_off (by decide) (by decide)).trans ?_
  refine va_upn (by decide) ?_
  unfold eSnaps
  refine va_upn (by decide) ?_
  refine (eSn_off (by decide) (by decide)).trans ?_
  refine va_upn (by decide) ?_
  unfold eSnaps
  refine va_upn (by decide) ?_
  refine (eSn_off (by decide) (by decide)).trans ?_
  refine va_upn (by decide) ?_
  unfold eSnaps
  refine va_upn (by decide) ?_
  refine (eSn_off (by decide) (by decide)).trans ?_
  refine va_upn (by decide) ?_
  unfold eSnaps
  refine va_upn (by decide) ?_
  refine (eSn_off (by decide) (by decide)).trans ?_
  refine va_upn (by decide) ?_
  unfold eSnaps
  refine va_upn (by decide) ?_
  refine (eSn_off (by decide) (by decide)).trans ?_
  refine va_upn (by decide) ?_
  unfold eSnaps
  refine va_upn (by decide) ?_
  refine (eSn_off (by decide) (by decide)).trans ?_
  refine va_upn (by decide) ?_
  unfold eSnaps
  refine va_upn (by decide) ?_
  refine (eSn_off (by decide) (by decide)).trans ?_
  refine va_upn (by decide) ?_
  unfold eSnaps
  refine va_upn (by decide) ?_
  refine (eSn_off (by decide) (by decide)).trans ?_
  refine va_upn (by decide) ?_
  unfold eSnaps
  refine va_upn (by decide) ?_
  unfold eSn
  exact va_ups.trans rfl
theorem we_82 (b : Nat) (D : va_G) (AI : FieldType → ClassId) : wEnd (wGm b D AI) 82 = wE (wGm b D AI) wS0 82 (.inl (.int, 9, 0, 0)) := by
  unfold wEnd
  refine va_upn (by decide) ?_
  unfold wEb
  refine (eM_off (by decide) (by decide)).trans ?_
  refine va_upn (by decide) ?_
  unfold wEa eW
  refine (eSnaps_off 3 (by decide) (by decide)).trans ?_
  unfold eW11
  refine va_upn (by decide) ?_
  refine va_upn (by decide) ?_
  unfold eW10
  refine va_upn (by decide) ?_
  refine (eSi_off (by decide) (by decide)).trans ?_
  refine va_upn (by decide) ?_
  unfold eW9
  refine va_upn (by decide) ?_
  refine va_upn (by decide) ?_
  unfold eW8
  refine va_upn (by decide) ?_
  unfold ePa
  unfold eSnaps
  refine va_upn (by decide) ?_
  refine (eSn_off (by decide) (by decide)).trans ?_
  refine va_upn (by decide) ?_
  unfold eSnaps
  refine va_upn (by decide) ?_
  refine (eSn_off (by decide) (by decide)).trans ?_
  refine va_upn (by decide) ?_
  unfold eSnaps
  refine va_upn (by decide) ?_
  refine (eSn_off (by decide) (by decide)).trans ?_
  refine va_upn (by decide) ?_
  unfold eSnaps
  refine va_upn (by decide) ?_
  refine (eSn_off (by decide) (by decide)).trans ?_
  refine va_upn (by decide) ?_
  unfold eSnaps
  refine va_upn (by decide) ?_
  refine (eSn_off (by decide) (by decide)).trans ?_
  refine va_upn (by decide) ?_
  unfold eSnaps
  refine va_upn (by decide) ?_
  refine (eSn_off (by decide) (by decide)).trans ?_
  refine va_upn (by decide) ?_
  unfold eSnaps
  refine va_upn (by decide) ?_
  refine (eSn_off (by decide) (by decide)).trans ?_
  refine va_upn (by decide) ?_
  unfold eSnaps
  refine va_upn (by decide) ?_
  refine (eSn_off (by decide) (by decide)).trans ?_
  refine va_upn (by decide) ?_
  unfold eSnaps
  refine va_upn (by decide) ?_
  refine (eSn_off (by decide) (by decide)).trans ?_
  refine va_upn (by decide) ?_
  unfold eSnaps
  refine va_upn (by decide) ?_
  refine (eSn_off (by decide) (by decide)).trans ?_
  refine va_upn (by decide) ?_
  unfold eSnaps
  refine va_upn (by decide) ?_
  refine (eSn_off (by decide) (by decide)).trans ?_
  refine va_upn (by decide) ?_
  unfold eSnaps
  refine va_upn (by decide) ?_
  unfold eSn
  refine va_upn (by decide) ?_
  refine va_upn (by decide) ?_
  refine va_upn (by decide) ?_
  refine va_upn (by decide) ?_
  refine va_upn (by decide) ?_
  refine va_upn (by decide) ?_
  refine va_upn (by decide) ?_
  refine va_upn (by decide) ?_
  refine va_upn (by decide) ?_
  exact va_ups.trans rfl
theorem we_83 (b : Nat) (D : va_G) (AI : FieldType → ClassId) : wEnd (wGm b D AI) 83 = wE (wGm b D AI) wS0 83 (.inl (.int, 9, 0, 0)) := by
  unfold wEnd
  refine va_upn (by decide) ?_
  unfold wEb
  refine (eM_off (by decide) (by decide)).trans ?_
  refine va_upn (by decide) ?_
  unfold wEa eW
  refine (eSnaps_off 3 (by decide) (by decide)).trans ?_
  unfold eW11
  refine va_upn (by decide) ?_
  refine va_upn (by decide) ?_
  unfold eW10
  refine va_upn (by decide) ?_
  refine (eSi_off (by decide) (by decide)).trans ?_
  refine va_upn (by decide) ?_
  unfold eW9
  refine va_upn (by decide) ?_
  refine va_upn (by decide) ?_
  unfold eW8
  refine va_upn (by decide) ?_
  unfold ePa
  unfold eSnaps
  refine va_upn (by decide) ?_
  refine (eSn_off (by decide) (by decide)).trans ?_
  refine va_upn (by decide) ?_
  unfold eSnaps
  refine va_upn (by decide) ?_
  refine (eSn_off (by decide) (by decide)).trans ?_
  refine va_upn (by decide) ?_
  unfold eSnaps
  refine va_upn (by decide) ?_
  refine (eSn_off (by decide) (by decide)).trans ?_
  refine va_upn (by decide) ?_
  unfold eSnaps
  refine va_upn (by decide) ?_
  refine (eSn_off (by decide) (by decide)).trans ?_
  refine va_upn (by decide) ?_
  unfold eSnaps
  refine va_upn (by decide) ?_
  refine (eSn_off (by decide) (by decide)).trans ?_
  refine va_upn (by decide) ?_
  unfold eSnaps
  refine va_upn (by decide) ?_
  refine (eSn_off (by decide) (by decide)).trans ?_
  refine va_upn (by decide) ?_
  unfold eSnaps
  refine va_upn (by decide) ?_
  refine (eSn_off (by decide) (by decide)).trans ?_
  refine va_upn (by decide) ?_
  unfold eSnaps
  refine va_upn (by decide) ?_
  refine (eSn_off (by decide) (by decide)).trans ?_
  refine va_upn (by decide) ?_
  unfold eSnaps
  refine va_upn (by decide) ?_
  refine (eSn_off (by decide) (by decide)).trans ?_
  refine va_upn (by decide) ?_
  unfold eSnaps
  refine va_upn (by decide) ?_
  refine (eSn_off (by decide) (by decide)).trans ?_
  refine va_upn (by decide) ?_
  unfold eSnaps
  refine va_upn (by decide) ?_
  refine (eSn_off (by decide) (by decide)).trans ?_
  refine va_upn (by decide) ?_
  unfold eSnaps
  refine va_upn (by decide) ?_
  unfold eSn
  refine va_upn (by decide) ?_
  refine va_upn (by decide) ?_
  refine va_upn (by decide) ?_
  refine va_upn (by decide) ?_
  refine va_upn (by decide) ?_
  refine va_upn (by decide) ?_
  refine va_upn (by decide) ?_
  exact va_ups.trans rfl
theorem we_84 (b : Nat) (D : va_G) (AI : FieldType → ClassId) : wEnd (wGm b D AI) 84 = wE (wGm b D AI) wS0 84 (.inl (.int, 9, 0, 0)) := by
  unfold wEnd
  refine va_upn (by decide) ?_
  unfold wEb
  refine (eM_off (by decide) (by decide)).trans ?_
  refine va_upn (by decide) ?_
  unfold wEa eW
  refine (eSnaps_off 3 (by decide) (by decide)).trans ?_
  unfold eW11
  refine va_upn (by decide) ?_
  refine va_upn (by decide) ?_
  unfold eW10
  refine va_upn (by decide) ?_
  refine (eSi_off (by decide) (by decide)).trans ?_
  refine va_upn (by decide) ?_
  unfold eW9
  refine va_upn (by decide) ?_
  refine va_upn (by decide) ?_
  unfold eW8
  refine va_upn (by decide) ?_
  unfold ePa
  unfold eSnaps
  refine va_upn (by decide) ?_
  refine (eSn_off (by decide) (by decide)).trans ?_
  refine va_upn (by decide) ?_
  unfold eSnaps
  refine va_upn (by decide) ?_
  refine (eSn_off (by decide) (by decide)).trans ?_
  refine va_upn (by decide) ?_
  unfold eSnaps
  refine va_upn (by decide) ?_
  refine (eSn_off (by decide) (by decide)).trans ?_
  refine va_upn (by decide) ?_
  unfold eSnaps
  refine va_upn (by decide) ?_
  refine (eSn_off (by decide) (by decide)).trans ?_
  refine va_upn (by decide) ?_
  unfold eSnaps
  refine va_upn (by decide) ?_
  refine (eSn_off (by decide) (by decide)).trans ?_
  refine va_upn (by decide) ?_
  unfold eSnaps
  refine va_upn (by decide) ?_
  refine (eSn_off (by decide) (by decide)).trans ?_
  refine va_upn (by decide) ?_
  unfold eSnaps
  refine va_upn (by decide) ?_
  refine (eSn_off (by decide) (by decide)).trans ?_
  refine va_upn (by decide) ?_
  unfold eSnaps
  refine va_upn (by decide) ?_
  refine (eSn_off (by decide) (by decide)).trans ?_
  refine va_upn (by decide) ?_
  unfold eSnaps
  refine va_upn (by decide) ?_
  refine (eSn_off (by decide) (by decide)).trans ?_
  refine va_upn (by decide) ?_
  unfold eSnaps
  refine va_upn (by decide) ?_
  refine (eSn_off (by decide) (by decide)).trans ?_
  refine va_upn (by decide) ?_
  unfold eSnaps
  refine va_upn (by decide) ?_
  refine (eSn_off (by decide) (by decide)).trans ?_
  refine va_upn (by decide) ?_
  unfold eSnaps
  refine va_upn (by decide) ?_
  unfold eSn
  refine va_upn (by decide) ?_
  refine va_upn (by decide) ?_
  refine va_upn (by decide) ?_
  refine va_upn (by decide) ?_
  refine va_upn (by decide) ?_
  exact va_ups.trans rfl
theorem we_85 (b : Nat) (D : va_G) (AI : FieldType → ClassId) : wEnd (wGm b D AI) 85 = wE (wGm b D AI) wS0 85 (.inl (.int, 3, 0, 0)) := by
  unfold wEnd
  refine va_upn (by decide) ?_
  unfold wEb
  refine (eM_off (by decide) (by decide)).trans ?_
  refine va_upn (by decide) ?_
  unfold wEa eW
  refine (eSnaps_off 3 (by decide) (by decide)).trans ?_
  unfold eW11
  refine va_upn (by decide) ?_
  refine va_upn (by decide) ?_
  unfold eW10
  refine va_upn (by decide) ?_
  refine (eSi_off (by decide) (by decide)).trans ?_
  refine va_upn (by decide) ?_
  unfold eW9
  refine va_upn (by decide) ?_
  refine va_upn (by decide) ?_
  unfold eW8
  refine va_upn (by decide) ?_
  unfold ePa
  unfold eSnaps
  refine va_upn (by decide) ?_
  refine (eSn_off (by decide) (by decide)).trans ?_
  refine va_upn (by decide) ?_
  unfold eSnaps
  refine va_upn (by decide) ?_
  refine (eSn_off (by decide) (by decide)).trans ?_
  refine va_upn (by decide) ?_
  unfold eSnaps
  refine va_upn (by decide) ?_
  refine (eSn_off (by decide) (by decide)).trans ?_
  refine va_upn (by decide) ?_
  unfold eSnaps
  refine va_upn (by decide) ?_
  refine (eSn_off (by decide) (by decide)).trans ?_
  refine va_upn (by decide) ?_
  unfold eSnaps
  refine va_upn (by decide) ?_
  refine (eSn_off (by decide) (by decide)).trans ?_
  refine va_upn (by decide) ?_
  unfold eSnaps
  refine va_upn (by decide) ?_
  refine (eSn_off (by decide) (by decide)).trans ?_
  refine va_upn (by decide) ?_
  unfold eSnaps
  refine va_upn (by decide) ?_
  refine (eSn_off (by decide) (by decide)).trans ?_
  refine va_upn (by decide) ?_
  unfold eSnaps
  refine va_upn (by decide) ?_
  refine (eSn_off (by decide) (by decide)).trans ?_
  refine va_upn (by decide) ?_
  unfold eSnaps
  refine va_upn (by decide) ?_
  refine (eSn_off (by decide) (by decide)).trans ?_
  refine va_upn (by decide) ?_
  unfold eSnaps
  refine va_upn (by decide) ?_
  refine (eSn_off (by decide) (by decide)).trans ?_
  refine va_upn (by decide) ?_
  unfold eSnaps
  refine va_upn (by decide) ?_
  refine (eSn_off (by decide) (by decide)).trans ?_
  refine va_upn (by decide) ?_
  unfold eSnaps
  refine va_upn (by decide) ?_
  unfold eSn
  refine va_upn (by decide) ?_
  refine va_upn (by decide) ?_
  refine va_upn (by decide) ?_
  exact va_ups.trans rfl
theorem we_86 (b : Nat) (D : va_G) (AI : FieldType → ClassId) : wEnd (wGm b D AI) 86 = wE (wGm b D AI) wS0 86 (.inr (8, [some 87, some 88, some 89, some 90, none, none])) := by
  unfold wEnd
  refine va_upn (by decide) ?_
  unfold wEb
  refine (eM_off (by decide) (by decide)).trans ?_
  refine va_upn (by decide) ?_
  unfold wEa eW
  refine (eSnaps_off 3 (by decide) (by decide)).trans ?_
  unfold eW11
  refine va_upn (by decide) ?_
  refine va_upn (by decide) ?_
  unfold eW10
  refine va_upn (by decide) ?_
  refine (eSi_off (by decide) (by decide)).trans ?_
  refine va_upn (by decide) ?_
  unfold eW9
  refine va_upn (by decide) ?_
  refine va_upn (by decide) ?_
  unfold eW8
  refine va_upn (by decide) ?_
  unfold ePa
  unfold eSnaps
  refine va_upn (by decide) ?_
  refine (eSn_off (by decide) (by decide)).trans ?_
  refine va_upn (by decide) ?_
  unfold eSnaps
  refine va_upn (by decide) ?_
  refine (eSn_off (by decide) (by decide)).trans ?_
  refine va_upn (by decide) ?_
  unfold eSnaps
  refine va_upn (by decide) ?_
  refine (eSn_off (by decide) (by decide)).trans ?_
  refine va_upn (by decide) ?_
  unfold eSnaps
  refine va_upn (by decide) ?_
  refine (eSn_off (by decide) (by decide)).trans ?_
  refine va_upn (by decide) ?_
  unfold eSnaps
  refine va_upn (by decide) ?_
  refine (eSn_off (by decide) (by decide)).trans ?_
  refine va_upn (by decide) ?_
  unfold eSnaps
  refine va_upn (by decide) ?_
  refine (eSn_off (by decide) (by decide)).trans ?_
  refine va_upn (by decide) ?_
  unfold eSnaps
  refine va_upn (by decide) ?_
  refine (eSn_off (by decide) (by decide)).trans ?_
  refine va_upn (by decide) ?_
  unfold eSnaps
  refine va_upn (by decide) ?_
  refine (eSn_off (by decide) (by decide)).trans ?_
  refine va_upn (by decide) ?_
  unfold eSnaps
  refine va_upn (by decide) ?_
  refine (eSn_off (by decide) (by decide)).trans ?_
  refine va_upn (by decide) ?_
  unfold eSnaps
  refine va_upn (by decide) ?_
  refine (eSn_off (by decide) (by decide)).trans ?_
  refine va_upn (by decide) ?_
  unfold eSnaps
  refine va_upn (by decide) ?_
  unfold eSn
  exact va_ups.trans rfl
theorem we_87 (b : Nat) (D : va_G) (AI : FieldType → ClassId) : wEnd (wGm b D AI) 87 = wE (wGm b D AI) wS0 87 (.inl (.int, 9, 0, 0)) := by
  unfold wEnd
  refine va_upn (by decide) ?_
  unfold wEb
  refine (eM_off (by decide) (by decide)).trans ?_
  refine va_upn (by decide) ?_
  unfold wEa eW
  refine (eSnaps_off 3 (by decide) (by decide)).trans ?_
  unfold eW11
  refine va_upn (by decide) ?_
  refine va_upn (by decide) ?_
  unfold eW10
  refine va_upn (by decide) ?_
  refine (eSi_off (by decide) (by decide)).trans ?_
  refine va_upn (by decide) ?_
  unfold eW9
  refine va_upn (by decide) ?_
  refine va_upn (by decide) ?_
  unfold eW8
  refine va_upn (by decide) ?_
  unfold ePa
  unfold eSnaps
  refine va_upn (by decide) ?_
  refine (eSn_off (by decide) (by decide)).trans ?_
  refine va_upn (by decide) ?_
  unfold eSnaps
  refine va_upn (by decide) ?_
  refine (eSn_off (by decide) (by decide)).trans ?_
  refine va_upn (by decide) ?_
  unfold eSnaps
  refine va_upn (by decide) ?_
  refine (eSn_off (by decide) (by decide)).trans ?_
  refine va_upn (by decide) ?_
  unfold eSnaps
  refine va_upn (by decide) ?_
  refine (eSn_off (by decide) (by decide)).trans ?_
  refine va_upn (by decide) ?_
  unfold eSnaps
  refine va_upn (by decide) ?_
  refine (eSn_off (by decide) (by decide)).trans ?_
  refine va_upn (by decide) ?_
  unfold eSnaps
  refine va_upn (by decide) ?_
  refine (eSn_off (by decide) (by decide)).trans ?_
  refine va_upn (by decide) ?_
  unfold eSnaps
  refine va_upn (by decide) ?_
  refine (eSn_off (by decide) (by decide)).trans ?_
  refine va_upn (by decide) ?_
  unfold eSnaps
  refine va_upn (by decide) ?_
  refine (eSn_off (by decide) (by decide)).trans ?_
  refine va_upn (by decide) ?_
  unfold eSnaps
  refine va_upn (by decide) ?_
  refine (eSn_off (by decide) (by decide)).trans ?_
  refine va_upn (by decide) ?_
  unfold eSnaps
  refine va_upn (by decide) ?_
  refine (eSn_off (by decide) (by decide)).trans ?_
  refine va_upn (by decide) ?_
  unfold eSnaps
  refine va_upn (by decide) ?_
  unfold eSn
  refine va_upn (by decide) ?_
  refine va_upn (by decide) ?_
  refine va_upn (by decide) ?_
  refine va_upn (by decide) ?_
  refine va_upn (by decide) ?_
  refine va_upn (by decide) ?_
  refine va_upn (by decide) ?_
  refine va_upn (by decide) ?_
  refine va_upn (by decide) ?_
  exact va_ups.trans rfl
theorem we_88 (b : Nat) (D : va_G) (AI : FieldType → ClassId) : wEnd (wGm b D AI) 88 = wE (wGm b D AI) wS0 88 (.inl (.int, 9, 0, 0)) := by
  unfold wEnd
  refine va_upn (by decide) ?_
  unfold wEb
  refine (eM_off (by decide) (by decide)).trans ?_
  refine va_upn (by decide) ?_
  unfold wEa eW
  refine (eSnaps_off 3 (by decide) (by decide)).trans ?_
  unfold eW11
  refine va_upn (by decide) ?_
  refine va_upn (by decide) ?_
  unfold eW10
  refine va_upn (by decide) ?_
  refine (eSi_off (by decide) (by decide)).trans ?_
  refine va_upn (by decide) ?_
  unfold eW9
  refine va_upn (by decide) ?_
  refine va_upn (by decide) ?_
  unfold eW8
  refine va_upn (by decide) ?_
  unfold ePa
  unfold eSnaps
  refine va_upn (by decide) ?_
  refine (eSn_off (by decide) (by decide)).trans ?_
  refine va_upn (by decide) ?_
  unfold eSnaps
  refine va_upn (by decide) ?_
  refine (eSn_off (by decide) (by decide)).trans ?_
  refine va_upn (by decide) ?_
  unfold eSnaps
  refine va_upn (by decide) ?_
  refine (eSn_off (by decide) (by decide)).trans ?_
  refine va_upn (by decide) ?_
  unfold eSnaps
  refine va_upn (by decide) ?_
  refine (eSn_off (by decide) (by decide)).trans ?_
  refine va_upn (by decide) ?_
  unfold eSnaps
  refine va_upn (by decide) ?_
  refine (eSn_off (by decide) (by decide)).trans ?_
  refine va_upn (by decide) ?_
  unfold eSnaps
  refine va_upn (by decide) ?_
  refine (eSn_off (by decide) (by decide)).trans ?_
  refine va_upn (by decide) ?_
  unfold eSnaps
  refine va_upn (by decide) ?_
  refine (eSn_off (by decide) (by decide)).trans ?_
  refine va_upn (by decide) ?_
  unfold eSnaps
  refine va_upn (by decide) ?_
  refine (eSn_off (by decide) (by decide)).trans ?_
  refine va_upn (by decide) ?_
  unfold eSnaps
  refine va_upn (by decide) ?_
  refine (eSn_off (by decide) (by decide)).trans ?_
  refine va_upn (by decide) ?_
  unfold eSnaps
  refine va_upn (by decide) ?_
  refine (eSn_off (by decide) (by decide)).trans ?_
  refine va_upn (by decide) ?_
  unfold eSnaps
  refine va_upn (by decide) ?_
  unfold eSn
  refine va_upn (by decide) ?_
  refine va_upn (by decide) ?_
  refine va_upn (by decide) ?_
  refine va_upn (by decide) ?_
  refine va_upn (by decide) ?_
  refine va_upn (by decide) ?_
  refine va_upn (by decide) ?_
  exact va_ups.trans rfl
theorem we_89 (b : Nat) (D : va_G) (AI : FieldType → ClassId) : wEnd (wGm b D AI) 89 = wE (wGm b D AI) wS0 89 (.inl (.int, 9, 0, 0)) := by
  unfold wEnd
  refine va_upn (by decide) ?_
  unfold wEb
  refine (eM_off (by decide) (by decide)).trans ?_
  refine va_upn (by decide) ?_
  unfold wEa eW
  refine (eSnaps_off 3 (by decide) (by decide)).trans ?_
  unfold eW11
  refine va_upn (by decide) ?_
  refine va_upn (by decide) ?_
  unfold eW10
  refine va_upn (by decide) ?_
  refine (eSi_off (by decide) (by decide)).trans ?_
  refine va_upn (by decide) ?_
  unfold eW9
  refine va_upn (by decide) ?_
  refine va_upn (by decide) ?_
  unfold eW8
  refine va_upn (by decide) ?_
  unfold ePa
  unfold eSnaps
  refine va_upn (by decide) ?_
  refine (eSn_off (by decide) (by decide)).trans ?_
  refine va_upn (by decide) ?_
  unfold eSnaps
  refine va_upn (by decide) ?_
  refine (eSn_off (by decide) (by decide)).trans ?_
  refine va_upn (by decide) ?_
  unfold eSnaps
  refine va_upn (by decide) ?_
  refine (eSn_off (by decide) (by decide)).trans ?_
  refine va_upn (by decide) ?_
  unfold eSnaps
  refine va_upn (by decide) ?_
  refine (eSn_off (by decide) (by decide)).trans ?_
  refine va_upn (by decide) ?_
  unfold eSnaps
  refine va_upn (by decide) ?_
  refine (eSn_off (by decide) (by decide)).trans ?_
  refine va_upn (by decide) ?_
  unfold eSnaps
  refine va_upn (by decide) ?_
  refine (eSn_off (by decide) (by decide)).trans ?_
  refine va_upn (by decide) ?_
  unfold eSnaps
  refine va_upn (by decide) ?_
  refine (eSn_off (by decide) (by decide)).trans ?_
  refine va_upn (by decide) ?_
  unfold eSnaps
  refine va_upn (by decide) ?_
  refine (eSn_off (by decide) (by decide)).trans ?_
  refine va_upn (by decide) ?_
  unfold eSnaps
  refine va_upn (by decide) ?_
  refine (eSn_off (by decide) (by decide)).trans ?_
  refine va_upn (by decide) ?_
  unfold eSnaps
  refine va_upn (by decide) ?_
  refine (eSn_off (by decide) (by decide)).trans ?_
  refine va_upn (by decide) ?_
  unfold eSnaps
  refine va_upn (by decide) ?_
  unfold eSn
  refine va_upn (by decide) ?_
  refine va_upn (by decide) ?_
  refine va_upn (by decide) ?_
  refine va_upn (by decide) ?_
  refine va_upn (by decide) ?_
  exact va_ups.trans rfl
theorem we_90 (b : Nat) (D : va_G) (AI : FieldType → ClassId) : wEnd (wGm b D AI) 90 = wE (wGm b D AI) wS0 90 (.inl (.int, 3, 0, 0)) := by
  unfold wEnd
  refine va_upn (by decide) ?_
  unfold wEb
  refine (eM_off (by decide) (by decide)).trans ?_
  refine va_upn (by decide) ?_
  unfold wEa eW
  refine (eSnaps_off 3 (by decide) (by decide)).trans ?_
  unfold eW11
  refine va_upn (by decide) ?_
  refine va_upn (by decide) ?_
  unfold eW10
  refine va_upn (by decide) ?_
  refine (eSi_off (by decide) (by decide)).trans ?_
  refine va_upn (by decide) ?_
  unfold eW9
  refine va_upn (by decide) ?_
  refine va_upn (by decide) ?_
  unfold eW8
  refine va_upn (by decide) ?_
  unfold ePa
  unfold eSnaps
  refine va_upn (by decide) ?_
  refine (eSn_off (by decide) (by decide)).trans ?_
  refine va_upn (by decide) ?_
  unfold eSnaps
  refine va_upn (by decide) ?_
  refine (eSn_off (by decide) (by decide)).trans ?_
  refine va_upn (by decide) ?_
  unfold eSnaps
  refine va_upn (by decide) ?_
  refine (eSn_off (by decide) (by decide)).trans ?_
  refine va_upn (by decide) ?_
  unfold eSnaps
  refine va_upn (by decide) ?_
  refine (eSn_off (by decide) (by decide)).trans ?_
  refine va_upn (by decide) ?_
  unfold eSnaps
  refine va_upn (by decide) ?_
  refine (eSn_off (by decide) (by decide)).trans ?_
  refine va_upn (by decide) ?_
  unfold eSnaps
  refine va_upn (by decide) ?_
  refine (eSn_off (by decide) (by decide)).trans ?_
  refine va_upn (by decide) ?_
  unfold eSnaps
  refine va_upn (by decide) ?_
  refine (eSn_off (by decide) (by decide)).trans ?_
  refine va_upn (by decide) ?_
  unfold eSnaps
  refine va_upn (by decide) ?_
  refine (eSn_off (by decide) (by decide)).trans ?_
  refine va_upn (by decide) ?_
  unfold eSnaps
  refine va_upn (by decide) ?_
  refine (eSn_off (by decide) (by decide)).trans ?_
  refine va_upn (by decide) ?_
  unfold eSnaps
  refine va_upn (by decide) ?_
  refine (eSn_off (by decide) (by decide)).trans ?_
  refine va_upn (by decide) ?_
  unfold eSnaps
  refine va_upn (by decide) ?_
  unfold eSn
  refine va_upn (by decide) ?_
  refine va_upn (by decide) ?_
  refine va_upn (by decide) ?_
  exact va_ups.trans rfl
theorem we_91 (b : Nat) (D : va_G) (AI : FieldType → ClassId) : wEnd (wGm b D AI) 91 = wE (wGm b D AI) wS0 91 (.inr (8, [some 92, some 93, some 94, some 95, none, none])) := by
  unfold wEnd
  refine va_upn (by decide) ?_
  unfold wEb
  refine (eM_off (by decide) (by decide)).trans ?_
  refine va_upn (by decide) ?_
  unfold wEa eW
  refine (eSnaps_off 3 (by decide) (by decide)).trans ?_
  unfold eW11
  refine va_upn (by decide) ?_
  refine va_upn (by decide) ?_
  unfold eW10
  refine va_upn (by decide) ?_
  refine (eSi_off (by decide) (by decide)).trans ?_
  refine va_upn (by decide) ?_
  unfold eW9
  refine va_upn (by decide) ?_
  refine va_upn (by decide) ?_
  unfold eW8
  refine va_upn (by decide) ?_
  unfold ePa
  unfold eSnaps
  refine va_upn (by decide) ?_
  refine (eSn_off (by decide) (by decide)).trans ?_
  refine va_upn (by decide) ?_
  unfold eSnaps
  refine va_upn (by decide) ?_
  refine (eSn_off (by decide) (by decide)).trans ?_
  refine va_upn (by decide) ?_
  unfold eSnaps
  refine va_upn (by decide) ?_
  refine (eSn_off (by decide) (by decide)).trans ?_
  refine va_upn (by decide) ?_
  unfold eSnaps
  refine va_upn (by decide) ?_
  refine (eSn_off (by decide) (by decide)).trans ?_
  refine va_upn (by decide) ?_
  unfold eSnaps
  refine va_upn (by decide) ?_
  refine (eSn_off (by decide) (by decide)).trans ?_
  refine va_upn (by decide) ?_
  unfold eSnaps
  refine va_upn (by decide) ?_
  refine (eSn_off (by decide) (by decide)).trans ?_
  refine va_upn (by decide) ?_
  unfold eSnaps
  refine va_upn (by decide) ?_
  refine (eSn_off (by decide) (by decide)).trans ?_
  refine va_upn (by decide) ?_
  unfold eSnaps
  refine va_upn (by decide) ?_
  refine (eSn_off (by decide) (by decide)).trans ?_
  refine va_upn (by decide) ?_
  unfold eSnaps
  refine va_upn (by decide) ?_
  refine (eSn_off (by decide) (by decide)).trans ?_
  refine va_upn (by decide) ?_
  unfold eSnaps
  refine va_upn (by decide) ?_
  unfold eSn
  exact va_ups.trans rfl
theorem we_92 (b : Nat) (D : va_G) (AI : FieldType → ClassId) : wEnd (wGm b D AI) 92 = wE (wGm b D AI) wS0 92 (.inl (.int, 9, 0, 0)) := by
  unfold wEnd
  refine va_upn (by decide) ?_
  unfold wEb
  refine (eM_off (by decide) (by decide)).trans ?_
  refine va_upn (by decide) ?_
  unfold wEa eW
  refine (eSnaps_off 3 (by decide) (by decide)).trans ?_
  unfold eW11
  refine va_upn (by decide) ?_
  refine va_upn (by decide) ?_
  unfold eW10
  refine va_upn (by decide) ?_
  refine (eSi_off (by decide) (by decide)).trans ?_
  refine va_upn (by decide) ?_
  unfold eW9
  refine va_upn (by decide) ?_
  refine va_upn (by decide) ?_
  unfold eW8
  refine va_upn (by decide) ?_
  unfold ePa
  unfold eSnaps
  refine va_upn (by decide) ?_
  refine (eSn_off (by decide) (by decide)).trans ?_
  refine va_upn (by decide) ?_
  unfold eSnaps
  refine va_upn (by decide) ?_
  refine (eSn_off (by decide) (by decide)).trans ?_
  refine va_upn (by decide) ?_
  unfold eSnaps
  refine va_upn (by decide) ?_
  refine (eSn_off (by decide) (by decide)).trans ?_
  refine va_upn (by decide) ?_
  unfold eSnaps
  refine va_upn (by decide) ?_
  refine (eSn_off (by decide) (by decide)).trans ?_
  refine va_upn (by decide) ?_
  unfold eSnaps
  refine va_upn (by decide) ?_
  refine (eSn_off (by decide) (by decide)).trans ?_
  refine va_upn (by decide) ?_
  unfold eSnaps
  refine va_upn (by decide) ?_
  refine (eSn_off (by decide) (by decide)).trans ?_
  refine va_upn (by decide) ?_
  unfold eSnaps
  refine va_upn (by decide) ?_
  refine (eSn_off (by decide) (by decide)).trans ?_
  refine va_upn (by decide) ?_
  unfold eSnaps
  refine va_upn (by decide) ?_
  refine (eSn_off (by decide) (by decide)).trans ?_
  refine va_upn (by decide) ?_
  unfold eSnaps
  refine va_upn (by decide) ?_
  refine (eSn_off (by decide) (by decide)).trans ?_
  refine va_upn (by decide) ?_
  unfold eSnaps
  refine va_upn (by decide) ?_
  unfold eSn
  refine va_upn (by decide) ?_
  refine va_upn (by decide) ?_
  refine va_upn (by decide) ?_
  refine va_upn (by decide) ?_
  refine va_upn (by decide) ?_
  refine va_upn (by decide) ?_
  refine va_upn (by decide) ?_
  refine va_upn (by decide) ?_
  refine va_upn (by decide) ?_
  exact va_ups.trans rfl
theorem we_93 (b : Nat) (D : va_G) (AI : FieldType → ClassId) : wEnd (wGm b D AI) 93 = wE (wGm b D AI) wS0 93 (.inl (.int, 9, 0, 0)) := by
  unfold wEnd
  refine va_upn (by decide) ?_
  unfold wEb
  refine (eM_off (by decide) (by decide)).trans ?_
  refine va_upn (by decide) ?_
  unfold wEa eW
  refine (eSnaps_off 3 (by decide) (by decide)).trans ?_
  unfold eW11
  refine va_upn (by decide) ?_
  refine va_upn (by decide) ?_
  unfold eW10
  refine va_upn (by decide) ?_
  refine (eSi_off (by decide) (by decide)).trans ?_
  refine va_upn (by decide) ?_
  unfold eW9
  refine va_upn (by decide) ?_
  refine va_upn (by decide) ?_
  unfold eW8
  refine va_upn (by decide) ?_
  unfold ePa
  unfold eSnaps
  refine va_upn (by decide) ?_
  refine (eSn_off (by decide) (by decide)).trans ?_
  refine va_upn (by decide) ?_
  unfold eSnaps
  refine va_upn (by decide) ?_
  refine (eSn_off (by decide) (by decide)).trans ?_
  refine va_upn (by decide) ?_
  unfold eSnaps
  refine va_upn (by decide) ?_
  refine (eSn_off (by decide) (by decide)).trans ?_
  refine va_upn (by decide) ?_
  unfold eSnaps
  refine va_upn (by decide) ?_
  refine (eSn_off (by decide) (by decide)).trans ?_
  refine va_upn (by decide) ?_
  unfold eSnaps
  refine va_upn (by decide) ?_
  refine (eSn_off (by decide) (by decide)).trans ?_
  refine va_upn (by decide) ?_
  unfold eSnaps
  refine va_upn (by decide) ?_
  refine (eSn_off (by decide) (by decide)).trans ?_
  refine va_upn (by decide) ?_
  unfold eSnaps
  refine va_upn (by decide) ?_
  refine (eSn_off (by decide) (by decide)).trans ?_
  refine va_upn (by decide) ?_
  unfold eSnaps
  refine va_upn (by decide) ?_
  refine (eSn_off (by decide) (by decide)).trans ?_
  refine va_upn (by decide) ?_
  unfold eSnaps
  refine va_upn (by decide) ?_
  refine (eSn_off (by decide) (by decide)).trans ?_
  refine va_upn (by decide) ?_
  unfold eSnaps
  refine va_upn (by decide) ?_
  unfold eSn
  refine va_upn (by decide) ?_
  refine va_upn (by decide) ?_
  refine va_upn (by decide) ?_
  refine va_upn (by decide) ?_
  refine va_upn (by decide) ?_
  refine va_upn (by decide) ?_
  refine va_upn (by decide) ?_
  exact va_ups.trans rfl
theorem we_94 (b : Nat) (D : va_G) (AI : FieldType → ClassId) : wEnd (wGm b D AI) 94 = wE (wGm b D AI) wS0 94 (.inl (.int, 9, 0, 0)) := by
  unfold wEnd
  refine va_upn (by decide) ?_
  unfold wEb
  refine (eM_off (by decide) (by decide)).trans ?_
  refine va_upn (by decide) ?_
  unfold wEa eW
  refine (eSnaps_off 3 (by decide) (by decide)).trans ?_
  unfold eW11
  refine va_upn (by decide) ?_
  refine va_upn (by decide) ?_
  unfold eW10
  refine va_upn (by decide) ?_
  refine (eSi_off (by decide) (by decide)).trans ?_
  refine va_upn (by decide) ?_
  unfold eW9
  refine va_upn (by decide) ?_
  refine va_upn (by decide) ?_
  unfold eW8
  refine va_upn (by decide) ?_
  unfold ePa
  unfold eSnaps
  refine va_upn (by decide) ?_
  refine (eSn_off (by decide) (by decide)).trans ?_
  refine va_upn (by decide) ?_
  unfold eSnaps
  refine va_upn (by decide) ?_
  refine (eSn_off (by decide) (by decide)).trans ?_
  refine va_upn (by decide) ?_
  unfold eSnaps
  refine va_upn (by decide) ?_
  refine (eSn_off (by decide) (by decide)).trans ?_
  refine va_upn (by decide) ?_
  unfold eSnaps
  refine va_upn (by decide) ?_
  refine (eSn_off (by decide) (by decide)).trans ?_
  refine va_upn (by decide) ?_
  unfold eSnaps
  refine va_upn (by decide) ?_
  refine (eSn_off (by decide) (by decide)).trans ?_
  refine va_upn (by decide) ?_
  unfold eSnaps
  refine va_upn (by decide) ?_
  refine (eSn_off (by decide) (by decide)).trans ?_
  refine va_upn (by decide) ?_
  unfold eSnaps
  refine va_upn (by decide) ?_
  refine (eSn_off (by decide) (by decide)).trans ?_
  refine va_upn (by decide) ?_
  unfold eSnaps
  refine va_upn (by decide) ?_
  refine (eSn_off (by decide) (by decide)).trans ?_
  refine va_upn (by decide) ?_
  unfold eSnaps
  refine va_upn (by decide) ?_
  refine (eSn_off (by decide) (by decide)).trans ?_
  refine va_upn (by decide) ?_
  unfold eSnaps
  refine va_upn (by decide) ?_
  unfold eSn
  refine va_upn (by decide) ?_
  refine va_upn (by decide) ?_
  refine va_upn (by decide) ?_
  refine va_upn (by decide) ?_
  refine va_upn (by decide) ?_
  exact va_ups.trans rfl
theorem we_95 (b : Nat) (D : va_G) (AI : FieldType → ClassId) : wEnd (wGm b D AI) 95 = wE (wGm b D AI) wS0 95 (.inl (.int, 3, 0, 0)) := by
  unfold wEnd
  refine va_upn (by decide) ?_
  unfold wEb
  refine (eM_off (by decide) (by decide)).trans ?_
  refine va_upn (by decide) ?_
  unfold wEa eW
  refine (eSnaps_off 3 (by decide) (by decide)).trans ?_
  unfold eW11
  refine va_upn (by decide) ?_
  refine va_upn (by decide) ?_
  unfold eW10
  refine va_upn (by decide) ?_
  refine (eSi_off (by decide) (by decide)).trans ?_
  refine va_upn (by decide) ?_
  unfold eW9
  refine va_upn (by decide) ?_
  refine va_upn (by decide) ?_
  unfold eW8
  refine va_upn (by decide) ?_
  unfold ePa
  unfold eSnaps
  refine va_upn (by decide) ?_
  refine (eSn_off (by decide) (by decide)).trans ?_
  refine va_upn (by decide) ?_
  unfold eSnaps
  refine va_upn (by decide) ?_
  refine (eSn_off (by decide) (by decide)).trans ?_
  refine va_upn (by decide) ?_
  unfold eSnaps
  refine va_upn (by decide) ?_
  refine (eSn_off (by decide) (by decide)).trans ?_
  refine va_upn (by decide) ?_
  unfold eSnaps
  refine va_upn (by decide) ?_
  refine (eSn_off (by decide) (by decide)).trans ?_
  refine va_upn (by decide) ?_
  unfold eSnaps
  refine va_upn (by decide) ?_
  refine (eSn_off (by decide) (by decide)).trans ?_
  refine va_upn (by decide) ?_
  unfold eSnaps
  refine va_upn (by decide) ?_
  refine (eSn_off (by decide) (by decide)).trans ?_
  refine va_upn (by decide) ?_
  unfold eSnaps
  refine va_upn (by decide) ?_
  refine (eSn_off (by decide) (by decide)).trans ?_
  refine va_upn (by decide) ?_
  unfold eSnaps
  refine va_upn (by decide) ?_
  refine (eSn_off (by decide) (by decide)).trans ?_
  refine va_upn (by decide) ?_
  unfold eSnaps
  refine va_upn (by decide) ?_
  refine (eSn_off (by decide) (by decide)).trans ?_
  refine va_upn (by decide) ?_
  unfold eSnaps
  refine va_upn (by decide) ?_
  unfold eSn
  refine va_upn (by decide) ?_
  refine va_upn (by decide) ?_
  refine va_upn (by decide) ?_
  exact va_ups.trans rfl
theorem we_96 (b : Nat) (D : va_G) (AI : FieldType → ClassId) : wEnd (wGm b D AI) 96 = wE (wGm b D AI) wS0 96 (.inr (8, [some 97, some 98, some 99, some 100, none, none])) := by
  unfold wEnd
  refine va_upn (by decide) ?_
  unfold wEb
  refine (eM_off (by decide) (by decide)).trans ?_
  refine va_upn (by decide) ?_
  unfold wEa eW
  refine (eSnaps_off 3 (by decide) (by decide)).trans ?_
  unfold eW11
  refine va_upn (by decide) ?_
  refine va_upn (by decide) ?_
  unfold eW10
  refine va_upn (by decide) ?_
  refine (eSi_off (by decide) (by decide)).trans ?_
  refine va_upn (by decide) ?_
  unfold eW9
  refine va_upn (by decide) ?_
  refine va_upn (by decide) ?_
  unfold eW8
  refine va_upn (by decide) ?_
  unfold ePa
  unfold eSnaps
  refine va_upn (by decide) ?_
  refine (eSn_off (by decide) (by decide)).trans ?_
  refine va_upn (by decide) ?_
  unfold eSnaps
  refine va_upn (by decide) ?_
  refine (eSn_off (by decide) (by decide)).trans ?_
  refine va_upn (by decide) ?_
  unfold eSnaps
  refine va_upn (by decide) ?_
  refine (eSn_off (by decide) (by decide)).trans ?_
  refine va_upn (by decide) ?_
  unfold eSnaps
  refine va_upn (by decide) ?_
  refine (eSn_off (by decide) (by decide)).trans ?_
  refine va_upn (by decide) ?_
  unfold eSnaps
  refine va_upn (by decide) ?_
  refine (eSn_off (by decide) (by decide)).trans ?_
  refine va_upn (by decide) ?_
  unfold eSnaps
  refine va_upn (by decide) ?_
  refine (eSn_off (by decide) (by decide)).trans ?_
  refine va_upn (by decide) ?_
  unfold eSnaps
  refine va_upn (by decide) ?_
  refine (eSn_off (by decide) (by decide)).trans ?_
  refine va_upn (by decide) ?_
  unfold eSnaps
  refine va_upn (by decide) ?_
  refine (eSn_off (by decide) (by decide)).trans ?_
  refine va_upn (by decide) ?_
  unfold eSnaps
  refine va_upn (by decide) ?_
  unfold eSn
  exact va_ups.trans rfl
theorem we_97 (b : Nat) (D : va_G) (AI : FieldType → ClassId) : wEnd (wGm b D AI) 97 = wE (wGm b D AI) wS0 97 (.inl (.int, 9, 0, 0)) := by
  unfold wEnd
  refine va_upn (by decide) ?_
  unfold wEb
  refine (eM_off (by decide) (by decide)).trans ?_
  refine va_upn (by decide) ?_
  unfold wEa eW
  refine (eSnaps_off 3 (by decide) (by decide)).trans ?_
  unfold eW11
  refine va_upn (by decide) ?_
  refine va_upn (by decide) ?_
  unfold eW10
  refine va_upn (by decide) ?_
  refine (eSi_off (by decide) (by decide)).trans ?_
  refine va_upn (by decide) ?_
  unfold eW9
  refine va_upn (by decide) ?_
  refine va_upn (by decide) ?_
  unfold eW8
  refine va_upn (by decide) ?_
  unfold ePa
  unfold eSnaps
  refine va_upn (by decide) ?_
  refine (eSn_off (by decide) (by decide)).trans ?_
  refine va_upn (by decide) ?_
  unfold eSnaps
  refine va_upn (by decide) ?_
  refine (eSn_off (by decide) (by decide)).trans ?_
  refine va_upn (by decide) ?_
  unfold eSnaps
  refine va_upn (by decide) ?_
  refine (eSn_off (by decide) (by decide)).trans ?_
  refine va_upn (by decide) ?_
  unfold eSnaps
  refine va_upn (by decide) ?_
  refine (eSn_off (by decide) (by decide)).trans ?_
  refine va_upn (by decide) ?_
  unfold eSnaps
  refine va_upn (by decide) ?_
  refine (eSn_off (by decide) (by decide)).trans ?_
  refine va_upn (by decide) ?_
  unfold eSnaps
  refine va_upn (by decide) ?_
  refine (eSn_off (by decide) (by decide)).trans ?_
  refine va_upn (by decide) ?_
  unfold eSnaps
  refine va_upn (by decide) ?_
  refine (eSn_off (by decide) (by decide)).trans ?_
  refine va_upn (by decide) ?_
  unfold eSnaps
  refine va_upn (by decide) ?_
  refine (eSn_off (by decide) (by decide)).trans ?_
  refine va_upn (by decide) ?_
  unfold eSnaps
  refine va_upn (by decide) ?_
  unfold eSn
  refine va_upn (by decide) ?_
  refine va_upn (by decide) ?_
  refine va_upn (by decide) ?_
  refine va_upn (by decide) ?_
  refine va_upn (by decide) ?_
  refine va_upn (by decide) ?_
  refine va_upn (by decide) ?_
  refine va_upn (by decide) ?_
  refine va_upn (by decide) ?_
  exact va_ups.trans rfl
theorem we_98 (b : Nat) (D : va_G) (AI : FieldType → ClassId) : wEnd (wGm b D AI) 98 = wE (wGm b D AI) wS0 98 (.inl (.int, 9, 0, 0)) := by
  unfold wEnd
  refine va_upn (by decide) ?_
  unfold wEb
  refine (eM_off (by decide) (by decide)).trans ?_
  refine va_upn (by decide) ?_
  unfold wEa eW
  refine (eSnaps_off 3 (by decide) (by decide)).trans ?_
  unfold eW11
  refine va_upn (by decide) ?_
  refine va_upn (by decide) ?_
  unfold eW10
  refine va_upn (by decide) ?_
  refine (eSi_off (by decide) (by decide)).trans ?_
  refine va_upn (by decide) ?_
  unfold eW9
  refine va_upn (by decide) ?_
  refine va_upn (by decide) ?_
  unfold eW8
  refine va_upn (by decide) ?_
  unfold ePa
  unfold eSnaps
  refine va_upn (by decide) ?_
  refine (eSn_off (by decide) (by decide)).trans ?_
  refine va_upn (by decide) ?_
  unfold eSnaps
  refine va_upn (by decide) ?_
  refine (eSn_off (by decide) (by decide)).trans ?_
  refine va_upn (by decide) ?_
  unfold eSnaps
  refine va_upn (by decide) ?_
  refine (eSn_off (by decide) (by decide)).trans ?_
  refine va_upn (by decide) ?_
  unfold eSnaps
  refine va_upn (by decide) ?_
  refine (eSn_off (by decide) (by decide)).trans ?_
  refine va_upn (by decide) ?_
  unfold eSnaps
  refine va_upn (by decide) ?_
  refine (eSn_off (by decide) (by decide)).trans ?_
  refine va_upn (by decide) ?_
  unfold eSnaps
  refine va_upn (by decide) ?_
  refine (eSn_off (by decide) (by decide)).trans ?_
  refine va_upn (by decide) ?_
  unfold eSnaps
  refine va_upn (by decide) ?_
  refine (eSn_off (by decide) (by decide)).trans ?_
  refine va_upn (by decide) ?_
  unfold eSnaps
  refine va_upn (by decide) ?_
  refine (eSn_off (by decide) (by decide)).trans ?_
  refine va_upn (by decide) ?_
  unfold eSnaps
  refine va_upn (by decide) ?_
  unfold eSn
  refine va_upn (by decide) ?_
  refine va_upn (by decide) ?_
  refine va_upn (by decide) ?_
  refine va_upn (by decide) ?_
  refine va_upn (by decide) ?_
  refine va_upn (by decide) ?_
  refine va_upn (by decide) ?_
  exact va_ups.trans rfl
theorem we_99 (b : Nat) (D : va_G) (AI : FieldType → ClassId) : wEnd (wGm b D AI) 99 = wE (wGm b D AI) wS0 99 (.inl (.int, 9, 0, 0)) := by
  unfold wEnd
  refine va_upn (by decide) ?_
  unfold wEb
  refine (eM_off (by decide) (by decide)).trans ?_
  refine va_upn (by decide) ?_
  unfold wEa eW
  refine (eSnaps_off 3 (by decide) (by decide)).trans ?_
  unfold eW11
  refine va_upn (by decide) ?_
  refine va_upn (by decide) ?_
  unfold eW10
  refine va_upn (by decide) ?_
  refine (eSi_off (by decide) (by decide)).trans ?_
  refine va_upn (by decide) ?_
  unfold eW9
  refine va_upn (by decide) ?_
  refine va_upn (by decide) ?_
  unfold eW8
  refine va_upn (by decide) ?_
  unfold ePa
  unfold eSnaps
  refine va_upn (by decide) ?_
  refine (eSn_off (by decide) (by decide)).trans ?_
  refine va_upn (by decide) ?_
  unfold eSnaps
  refine va_upn (by decide) ?_
  refine (eSn_off (by decide) (by decide)).trans ?_
  refine va_upn (by decide) ?_
  unfold eSnaps
  refine va_upn (by decide) ?_
  refine (eSn_off (by decide) (by decide)).trans ?_
  refine va_upn (by decide) ?_
  unfold eSnaps
  refine va_upn (by decide) ?_
  refine (eSn_off (by decide) (by decide)).trans ?_
  refine va_upn (by decide) ?_
  unfold eSnaps
  refine va_upn (by decide) ?_
  refine (eSn_off (by decide) (by decide)).trans ?_
  refine va_upn (by decide) ?_
  unfold eSnaps
  refine va_upn (by decide) ?_
  refine (eSn_off (by decide) (by decide)).trans ?_
  refine va_upn (by decide) ?_
  unfold eSnaps
  refine va_upn (by decide) ?_
  refine (eSn_off (by decide) (by decide)).trans ?_
  refine va_upn (by decide) ?_
  unfold eSnaps
  refine va_upn (by decide) ?_
  refine (eSn_off (by decide) (by decide)).trans ?_
  refine va_upn (by decide) ?_
  unfold eSnaps
  refine va_upn (by decide) ?_
  unfold eSn
  refine va_upn (by decide) ?_
  refine va_upn (by decide) ?_
  refine va_upn (by decide) ?_
  refine va_upn (by decide) ?_
  refine va_upn (by decide) ?_
  exact va_ups.trans rfl
theorem we_100 (b : Nat) (D : va_G) (AI : FieldType → ClassId) : wEnd (wGm b D AI) 100 = wE (wGm b D AI) wS0 100 (.inl (.int, 3, 0, 0)) := by
  unfold wEnd
  refine va_upn (by decide) ?_
  unfold wEb
  refine (eM_off (by decide) (by decide)).trans ?_
  refine va_upn (by decide) ?_
  unfold wEa eW
  refine (eSnaps_off 3 (by decide) (by decide)).trans ?_
  unfold eW11
  refine va_upn (by decide) ?_
  refine va_upn (by decide) ?_
  unfold eW10
  refine va_upn (by decide) ?_
  refine (eSi_off (by decide) (by decide)).trans ?_
  refine va_upn (by decide) ?_
  unfold eW9
  refine va_upn (by decide) ?_
  refine va_upn (by decide) ?_
  unfold eW8
  refine va_upn (by decide) ?_
  unfold ePa
  unfold eSnaps
  refine va_upn (by decide) ?_
  refine (eSn_off (by decide) (by decide)).trans ?_
  refine va_upn (by decide) ?_
  unfold eSnaps
  refine va_upn (by decide) ?_
  refine (eSn_off (by decide) (by decide)).trans ?_
  refine va_upn (by decide) ?_
  unfold eSnaps
  refine va_upn (by decide) ?_
  refine (eSn_off (by decide) (by decide)).trans ?_
  refine va_upn (by decide) ?_
  unfold eSnaps
  refine va_upn (by decide) ?_
  refine (eSn_off (by decide) (by decide)).trans ?_
  refine va_upn (by decide) ?_
  unfold eSnaps
  refine va_upn (by decide) ?_
  refine (eSn_off (by decide) (by decide)).trans ?_
  refine va_upn (by decide) ?_
  unfold eSnaps
  refine va_upn (by decide) ?_
  refine (eSn_off (by decide) (by decide)).trans ?_
  refine va_upn (by decide) ?_
  unfold eSnaps
  refine va_upn (by decide) ?_
  refine (eSn_off (by decide) (by decide)).trans ?_
  refine va_upn (by decide) ?_
  unfold eSnaps
  refine va_upn (by decide) ?_
  refine (eSn_off (by decide) (by decide)).trans ?_
  refine va_upn (by decide) ?_
  unfold eSnaps
  refine va_upn (by decide) ?_
  unfold eSn
  refine va_upn (by decide) ?_
  refine va_upn (by decide) ?_
  refine va_upn (by decide) ?_
  exact va_ups.trans rfl
theorem we_101 (b : Nat) (D : va_G) (AI : FieldType → ClassId) : wEnd (wGm b D AI) 101 = wE (wGm b D AI) wS0 101 (.inr (8, [some 102, some 103, some 104, some 105, none, none])) := by
  unfold wEnd
  refine va_upn (by decide) ?_
  unfold wEb
  refine (eM_off (by decide) (by decide)).trans ?_
  refine va_upn (by decide) ?_
  unfold wEa eW
  refine (eSnaps_off 3 (by decide) (by decide)).trans ?_
  unfold eW11
  refine va_upn (by decide) ?_
  refine va_upn (by decide) ?_
  unfold eW10
  refine va_upn (by decide) ?_
  refine (eSi_off (by decide) (by decide)).trans ?_
  refine va_upn (by decide) ?_
  unfold eW9
  refine va_upn (by decide) ?_
  refine va_upn (by decide) ?_
  unfold eW8
  refine va_upn (by decide) ?_
  unfold ePa
  unfold eSnaps
  refine va_upn (by decide) ?_
  refine (eSn_off (by decide) (by decide)).trans ?_
  refine va_upn (by decide) ?_
  unfold eSnaps
  refine va_upn (by decide) ?_
  refine (eSn_off (by decide) (by decide)).trans ?_
  refine va_upn (by decide) ?_
  unfold eSnaps
  refine va_upn (by decide) ?_
  refine (eSn_off (by decide) (by decide)).trans ?_
  refine va_upn (by decide) ?_
  unfold eSnaps
  refine va_upn (by decide) ?_
  refine (eSn_off (by decide) (by decide)).trans ?_
  refine va_upn (by decide) ?_
  unfold eSnaps
  refine va_upn (by decide) ?_
  refine (eSn_off (by decide) (by decide)).trans ?_
  refine va_upn (by decide) ?_
  unfold eSnaps
  refine va_upn (by decide) ?_
  refine (eSn_off (by decide) (by decide)).trans ?_
  refine va_upn (by decide) ?_
  unfold eSnaps
  refine va_upn (by decide) ?_
  refine (eSn_off (by decide) (by decide)).trans ?_
  refine va_upn (by decide) ?_
  unfold eSnaps
  refine va_upn (by decide) ?_
  unfold eSn
  exact va_ups.trans rfl
theorem we_102 (b : Nat) (D : va_G) (AI : FieldType → ClassId) : wEnd (wGm b D AI) 102 = wE (wGm b D AI) wS0 102 (.inl (.int, 9, 0, 0)) := by
  unfold wEnd
  refine va_upn (by decide) ?_
  unfold wEb
  refine (eM_off (by decide) (by decide)).trans ?_
  refine va_upn (by decide) ?_
  unfold wEa eW
  refine (eSnaps_off 3 (by decide) (by decide)).trans ?_
  unfold eW11
  refine va_upn (by decide) ?_
  refine va_upn (by decide) ?_
  unfold eW10
  refine va_upn (by decide) ?_
  refine (eSi_off (by decide) (by decide)).trans ?_
  refine va_upn (by decide) ?_
  unfold eW9
  refine va_upn (by decide) ?_
  refine va_upn (by decide) ?_
  unfold eW8
  refine va_upn (by decide) ?_
  unfold ePa
  unfold eSnaps
  refine va_upn (by decide) ?_
  refine (eSn_off (by decide) (by decide)).trans ?_
  refine va_upn (by decide) ?_
  unfold eSnaps
  refine va_upn (by decide) ?_
  refine (eSn_off (by decide) (by decide)).trans ?_
  refine va_upn (by decide) ?_
  unfold eSnaps
  refine va_upn (by decide) ?_
  refine (eSn_off (by decide) (by decide)).trans ?_
  refine va_upn (by decide) ?_
  unfold eSnaps
  refine va_upn (by decide) ?_
  refine (eSn_off (by decide) (by decide)).trans ?_
  refine va_upn (by decide) ?_
  unfold eSnaps
  refine va_upn (by decide) ?_
  refine (eSn_off (by decide) (by decide)).trans ?_
  refine va_upn (by decide) ?_
  unfold eSnaps
  refine va_upn (by decide) ?_
  refine (eSn_off (by decide) (by decide)).trans ?_
  refine va_upn (by decide) ?_
  unfold eSnaps
  refine va_upn (by decide) ?_
  refine (eSn_off (by decide) (by decide)).trans ?_
  refine va_upn (by decide) ?_
  unfold eSnaps
  refine va_upn (by decide) ?_
  unfold eSn
  refine va_upn (by decide) ?_
  refine va_upn (by decide) ?_
  refine va_upn (by decide) ?_
  refine va_upn (by decide) ?_
  refine va_upn (by decide) ?_
  refine va_upn (by decide) ?_
  refine va_upn (by decide) ?_
  refine va_upn (by decide) ?_
  refine va_upn (by decide) ?_
  exact va_ups.trans rfl
theorem we_103 (b : Nat) (D : va_G) (AI : FieldType → ClassId) : wEnd (wGm b D AI) 103 = wE (wGm b D AI) wS0 103 (.inl (.int, 9, 0, 0)) := by
  unfold wEnd
  refine va_upn (by decide) ?_
  unfold wEb
  refine (eM_off (by decide) (by decide)).trans ?_
  refine va_upn (by decide) ?_
  unfold wEa eW
  refine (eSnaps_off 3 (by decide) (by decide)).trans ?_
  unfold eW11
  refine va_upn (by decide) ?_
  refine va_upn (by decide) ?_
  unfold eW10
  refine va_upn (by decide) ?_
  refine (eSi_off (by decide) (by decide)).trans ?_
  refine va_upn (by decide) ?_
  unfold eW9
  refine va_upn (by decide) ?_
  refine va_upn (by decide) ?_
  unfold eW8
  refine va_upn (by decide) ?_
  unfold ePa
  unfold eSnaps
  refine va_upn (by decide) ?_
  refine (eSn_off (by decide) (by decide)).trans ?_
  refine va_upn (by decide) ?_
  unfold eSnaps
  refine va_upn (by decide) ?_
  refine (eSn_off (by decide) (by decide)).trans ?_
  refine va_upn (by decide) ?_
  unfold eSnaps
  refine va_upn (by decide) ?_
  refine (eSn_off (by decide) (by decide)).trans ?_
  refine va_upn (by decide) ?_
  unfold eSnaps
  refine va_upn (by decide) ?_
  refine (eSn_off (by decide) (by decide)).trans ?_
  refine va_upn (by decide) ?_
  unfold eSnaps
  refine va_upn (by decide) ?_
  refine (eSn_off (by decide) (by decide)).trans ?_
  refine va_upn (by decide) ?_
  unfold eSnaps
  refine va_upn (by decide) ?_
  refine (eSn_off (by decide) (by decide)).trans ?_
  refine va_upn (by decide) ?_
  unfold eSnaps
  refine va_upn (by decide) ?_
  refine (eSn_off (by decide) (by decide)).trans ?_
  refine va_upn (by decide) ?_
  unfold eSnaps
  refine va_upn (by decide) ?_
  unfold eSn
  refine va_upn (by decide) ?_
  refine va_upn (by decide) ?_
  refine va_upn (by decide) ?_
  refine va_upn (by decide) ?_
  refine va_upn (by decide) ?_
  refine va_upn (by decide) ?_
  refine va_upn (by decide) ?_
  exact va_ups.trans rfl
theorem we_104 (b : Nat) (D : va_G) (AI : FieldType → ClassId) : wEnd (wGm b D AI) 104 = wE (wGm b D AI) wS0 104 (.inl (.int, 9, 0, 0)) := by
  unfold wEnd
  refine va_upn (by decide) ?_
  unfold wEb
  refine (eM_off (by decide) (by decide)).trans ?_
  refine va_upn (by decide) ?_
  unfold wEa eW
  refine (eSnaps_off 3 (by decide) (by decide)).trans ?_
  unfold eW11
  refine va_upn (by decide) ?_
  refine va_upn (by decide) ?_
  unfold eW10
  refine va_upn (by decide) ?_
  refine (eSi_off (by decide) (by decide)).trans ?_
  refine va_upn (by decide) ?_
  unfold eW9
  refine va_upn (by decide) ?_
  refine va_upn (by decide) ?_
  unfold eW8
  refine va_upn (by decide) ?_
  unfold ePa
  unfold eSnaps
  refine va_upn (by decide) ?_
  refine (eSn_off (by decide) (by decide)).trans ?_
  refine va_upn (by decide) ?_
  unfold eSnaps
  refine va_upn (by decide) ?_
  refine (eSn_off (by decide) (by decide)).trans ?_
  refine va_upn (by decide) ?_
  unfold eSnaps
  refine va_upn (by decide) ?_
  refine (eSn_off (by decide) (by decide)).trans ?_
  refine va_upn (by decide) ?_
  unfold eSnaps
  refine va_upn (by decide) ?_
  refine (eSn_off (by decide) (by decide)).trans ?_
  refine va_upn (by decide) ?_
  unfold eSnaps
  refine va_upn (by decide) ?_
  refine (eSn_off (by decide) (by decide)).trans ?_
  refine va_upn (by decide) ?_
  unfold eSnaps
  refine va_upn (by decide) ?_
  refine (eSn_off (by decide) (by decide)).trans ?_
  refine va_upn (by decide) ?_
  unfold eSnaps
  refine va_upn (by decide) ?_
  refine (eSn_off (by decide) (by decide)).trans ?_
  refine va_upn (by decide) ?_
  unfold eSnaps
  refine va_upn (by decide) ?_
  unfold eSn
  refine va_upn (by decide) ?_
  refine va_upn (by decide) ?_
  refine va_upn (by decide) ?_
  refine va_upn (by decide) ?_
  refine va_upn (by decide) ?_
  exact va_ups.trans rfl
theorem we_105 (b : Nat) (D : va_G) (AI : FieldType → ClassId) : wEnd (wGm b D AI) 105 = wE (wGm b D AI) wS0 105 (.inl (.int, 3, 0, 0)) := by
  unfold wEnd
  refine va_upn (by decide) ?_
  unfold wEb
  refine (eM_off (by decide) (by decide)).trans ?_
  refine va_upn (by decide) ?_
  unfold wEa eW
  refine (eSnaps_off 3 (by decide) (by decide)).trans ?_
  unfold eW11
  refine va_upn (by decide) ?_
  refine va_upn (by decide) ?_
  unfold eW10
  refine va_upn (by decide) ?_
  refine (eSi_off (by decide) (by decide)).trans ?_
  refine va_upn (by decide) ?_
  unfold eW9
  refine va_upn (by decide) ?_
  refine va_upn (by decide) ?_
  unfold eW8
  refine va_upn (by decide) ?_
  unfold ePa
  unfold eSnaps
  refine va_upn (by decide) ?_
  refine (eSn_off (by decide) (by decide)).trans ?_
  refine va_upn (by decide) ?_
  unfold eSnaps
  refine va_upn (by decide) ?_
  refine (eSn_off (by decide) (by decide)).trans ?_
  refine va_upn (by decide) ?_
  unfold eSnaps
  refine va_upn (by decide) ?_
  refine (eSn_off (by decide) (by decide)).trans ?_
  refine va_upn (by decide) ?_
  unfold eSnaps
  refine va_upn (by decide) ?_
  refine (eSn_off (by decide) (by decide)).trans ?_
  refine va_upn (by decide) ?_
  unfold eSnaps
  refine va_upn (by decide) ?_
  refine (eSn_off (by decide) (by decide)).trans ?_
  refine va_upn (by decide) ?_
  unfold eSnaps
  refine va_upn (by decide) ?_
  refine (eSn_off (by decide) (by decide)).trans ?_
  refine va_upn (by decide) ?_
  unfold eSnaps
  refine va_upn (by decide) ?_
  refine (eSn_off (by decide) (by decide)).trans ?_
  refine va_upn (by decide) ?_
  unfold eSnaps
  refine va_upn (by decide) ?_
  unfold eSn
  refine va_upn (by decide) ?_
  refine va_upn (by decide) ?_
  refine va_upn (by decide) ?_
  exact va_ups.trans rfl
theorem we_106 (b : Nat) (D : va_G) (AI : FieldType → ClassId) : wEnd (wGm b D AI) 106 = wE (wGm b D AI) wS0 106 (.inr (8, [some 107, some 108, some 109, some 110, none, none])) := by
  unfold wEnd
  refine va_upn (by decide) ?_
  unfold wEb
  refine (eM_off (by decide) (by decide)).trans ?_
  refine va_upn (by decide) ?_
  unfold wEa eW
  refine (eSnaps_off 3 (by decide) (by decide)).trans ?_
  unfold eW11
  refine va_upn (by decide) ?_
  refine va_upn (by decide) ?_
  unfold eW10
  refine va_upn (by decide) ?_
  refine (eSi_off (by decide) (by decide)).trans ?_
  refine va_upn (by decide) ?_
  unfold eW9
  refine va_upn (by decide) ?_
  refine va_upn (by decide) ?_
  unfold eW8
  refine va_upn (by decide) ?_
  unfold ePa
  unfold eSnaps
  refine va_upn (by decide) ?_
  refine (eSn_off (by decide) (by decide)).trans ?_
  refine va_upn (by decide) ?_
  unfold eSnaps
  refine va_upn (by decide) ?_
  refine (eSn_off (by decide) (by decide)).trans ?_
  refine va_upn (by decide) ?_
  unfold eSnaps
  refine va_upn (by decide) ?_
  refine (eSn_off (by decide) (by decide)).trans ?_
  refine va_upn (by decide) ?_
  unfold eSnaps
  refine va_upn (by decide) ?_
  refine (eSn_off (by decide) (by decide)).trans ?_
  refine va_upn (by decide) ?_
  unfold eSnaps
  refine va_upn (by decide) ?_
  refine (eSn_off (by decide) (by decide)).trans ?_
  refine va_upn (by decide) ?_
  unfold eSnaps
  refine va_upn (by decide) ?_
  refine (eSn_off (by decide) (by decide)).trans ?_
  refine va_upn (by decide) ?_
  unfold eSnaps
  refine va_upn (by decide) ?_
  unfold eSn
  exact va_ups.trans rfl
theorem we_107 (b : Nat) (D : va_G) (AI : FieldType → ClassId) : wEnd (wGm b D AI) 107 = wE (wGm b D AI) wS0 107 (.inl (.int, 9, 0, 0)) := by
  unfold wEnd
  refine va_upn (by decide) ?_
  unfold wEb
  refine (eM_off (by decide) (by decide)).trans ?_
  refine va_upn (by decide) ?_
  unfold wEa eW
  refine (eSnaps_off 3 (by decide) (by decide)).trans ?_
  unfold eW11
  refine va_upn (by decide) ?_
  refine va_upn (by decide) ?_
  unfold eW10
  refine va_upn (by decide) ?_
  refine (eSi_off (by decide) (by decide)).trans ?_
  refine va_upn (by decide) ?_
  unfold eW9
  refine va_upn (by decide) ?_
  refine va_upn (by decide) ?_
  unfold eW8
  refine va_upn (by decide) ?_
  unfold ePa
  unfold eSnaps
  refine va_upn (by decide) ?_
  refine (eSn_off (by decide) (by decide)).trans ?_
  refine va_upn (by decide) ?_
  unfold eSnaps
  refine va_upn (by decide) ?_
  refine (eSn_off (by decide) (by decide)).trans ?_
  refine va_upn (by decide) ?_
  unfold eSnaps
  refine va_upn (by decide) ?_
  refine (eSn_off (by decide) (by decide)).trans ?_
  refine va_upn (by decide) ?_
  unfold eSnaps
  refine va_upn (by decide) ?_
  refine (eSn_off (by decide) (by decide)).trans ?_
  refine va_upn (by decide) ?_
  unfold eSnaps
  refine va_upn (by decide) ?_
  refine (eSn_off (by decide) (by decide)).trans ?_
  refine va_upn (by decide) ?_
  unfold eSnaps
  refine va_upn (by decide) ?_
  refine (eSn_off (by decide) (by decide)).trans ?_
  refine va_upn (by decide) ?_
  unfold eSnaps
  refine va_upn (by decide) ?_
  unfold eSn
  refine va_upn (by decide) ?_
  refine va_upn (by decide) ?_
  refine va_upn (by decide) ?_
  refine va_upn (by decide) ?_
  refine va_upn (by decide) ?_
  refine va_upn (by decide) ?_
  refine va_upn (by decide) ?_
  refine va_upn (by decide) ?_
  refine va_upn (by decide) ?_
  exact va_ups.trans rfl
theorem we_108 (b : Nat) (D : va_G) (AI : FieldType → ClassId) : wEnd (wGm b D AI) 108 = wE (wGm b D AI) wS0 108 (.inl (.int, 9, 0, 0)) := by
  unfold wEnd
  refine va_upn (by decide) ?_
  unfold wEb
  refine (eM_off (by decide) (by decide)).trans ?_
  refine va_upn (by decide) ?_
  unfold wEa eW
  refine (eSnaps_off 3 (by decide) (by decide)).trans ?_
  unfold eW11
  refine va_upn (by decide) ?_
  refine va_upn (by decide) ?_
  unfold eW10
  refine va_upn (by decide) ?_
  refine (eSi_off (by decide) (by decide)).trans ?_
  refine va_upn (by decide) ?_
  unfold eW9
  refine va_upn (by decide) ?_
  refine va_upn (by decide) ?_
  unfold eW8
  refine va_upn (by decide) ?_
  unfold ePa
  unfold eSnaps
  refine va_upn (by decide) ?_
  refine (eSn_off (by decide) (by decide)).trans ?_
  refine va_upn (by decide) ?_
  unfold eSnaps
  refine va_upn (by decide) ?_
  refine (eSn_off (by decide) (by decide)).trans ?_
  refine va_upn (by decide) ?_
  unfold eSnaps
  refine va_upn (by decide) ?_
  refine (eSn_off (by decide) (by decide)).trans ?_
  refine va_upn (by decide) ?_
  unfold eSnaps
  refine va_upn (by decide) ?_
  refine (eSn_off (by decide) (by decide)).trans ?_
  refine va_upn (by decide) ?_
  unfold eSnaps
  refine va_upn (by decide) ?_
  refine (eSn_off (by decide) (by decide)).trans ?_
  refine va_upn (by decide) ?_
  unfold eSnaps
  refine va_upn (by decide) ?_
  refine (eSn_off (by decide) (by decide)).trans ?_
  refine va_upn (by decide) ?_
  unfold eSnaps
  refine va_upn (by decide) ?_
  unfold eSn
  refine va_upn (by decide) ?_
  refine va_upn (by decide) ?_
  refine va_upn (by decide) ?_
  refine va_upn (by decide) ?_
  refine va_upn (by decide) ?_
  refine va_upn (by decide) ?_
  refine va_upn (by decide) ?_
  exact va_ups.trans rfl
theorem we_109 (b : Nat) (D : va_G) (AI : FieldType → ClassId) : wEnd (wGm b D AI) 109 = wE (wGm b D AI) wS0 109 (.inl (.int, 9, 0, 0)) := by
  unfold wEnd
  refine va_upn (by decide) ?_
  unfold wEb
  refine (eM_off (by decide) (by decide)).trans ?_
  refine va_upn (by decide) ?_
  unfold wEa eW
  refine (eSnaps_off 3 (by decide) (by decide)).trans ?_
  unfold eW11
  refine va_upn (by decide) ?_
  refine va_upn (by decide) ?_
  unfold eW10
  refine va_upn (by decide) ?_
  refine (eSi_off (by decide) (by decide)).trans ?_
  refine va_upn (by decide) ?_
  unfold eW9
  refine va_upn (by decide) ?_
  refine va_upn (by decide) ?_
  unfold eW8
  refine va_upn (by decide) ?_
  unfold ePa
  unfold eSnaps
  refine va_upn (by decide) ?_
  refine (eSn_off (by decide) (by decide)).trans ?_
  refine va_upn (by decide) ?_
  unfold eSnaps
  refine va_upn (by decide) ?_
  refine (eSn_off (by decide) (by decide)).trans ?_
  refine va_upn (by decide) ?_
  unfold eSnaps
  refine va_upn (by decide) ?_
  refine (eSn_off (by decide) (by decide)).trans ?_
  refine va_upn (by decide) ?_
  unfold eSnaps
  refine va_upn (by decide) ?_
  refine (eSn_off (by decide) (by decide)).trans ?_
  refine va_upn (by decide) ?_
  unfold eSnaps
  refine va_upn (by decide) ?_
  refine (eSn_off (by decide) (by decide)).trans ?_
  refine va_upn (by decide) ?_
  unfold eSnaps
  refine va_upn (by decide) ?_
  refine (eSn_off (by decide) (by decide)).trans ?_
  refine va_upn (by decide) ?_
  unfold eSnaps
  refine va_upn (by decide) ?_
  unfold eSn
  refine va_upn (by decide) ?_
  refine va_upn (by decide) ?_
  refine va_upn (by decide) ?_
  refine va_upn (by decide) ?_
  refine va_upn (by decide) ?_
  exact va_ups.trans rfl
theorem we_110 (b : Nat) (D : va_G) (AI : FieldType → ClassId) : wEnd (wGm b D AI) 110 = wE (wGm b D AI) wS0 110 (.inl (.int, 3, 0, 0)) := by
  unfold wEnd
  refine va_upn (by decide) ?_
  unfold wEb
  refine (eM_off (by decide) (by decide)).trans ?_
  refine va_upn (by decide) ?_
  unfold wEa eW
  refine (eSnaps_off 3 (by decide) (by decide)).trans ?_
  unfold eW11
  refine va_upn (by decide) ?_
  refine va_upn (by decide) ?_
  unfold eW10
  refine va_upn (by decide) ?_
  refine (eSi_off (by decide) (by decide)).trans ?_
  refine va_upn (by decide) ?_
  unfold eW9
  refine va_upn (by decide) ?_
  refine va_upn (by decide) ?_
  unfold eW8
  refine va_upn (by decide) ?_
  unfold ePa
  unfold eSnaps
  refine va_upn (by decide) ?_
  refine (eSn_off (by decide) (by decide)).trans ?_
  refine va_upn (by decide) ?_
  unfold eSnaps
  refine va_upn (by decide) ?_
  refine (eSn_off (by decide) (by decide)).trans ?_
  refine va_upn (by decide) ?_
  unfold eSnaps
  refine va_upn (by decide) ?_
  refine (eSn_off (by decide) (by decide)).trans ?_
  refine va_upn (by decide) ?_
  unfold eSnaps
  refine va_upn (by decide) ?_
  refine (eSn_off (by decide) (by decide)).trans ?_
  refine va_upn (by decide) ?_
  unfold eSnaps
  refine va_upn (by decide) ?_
  refine (eSn_off (by decide) (by decide)).trans ?_
  refine va_upn (by decide) ?_
  unfold eSnaps
  refine va_upn (by decide) ?_
  refine (eSn_off (by decide) (by decide)).trans ?_
  refine va_upn (by decide) ?_
  unfold eSnaps
  refine va_upn (by decide) ?_
  unfold eSn
  refine va_upn (by decide) ?_
  refine va_upn (by decide) ?_
  refine va_upn (by decide) ?_
  exact va_ups.trans rfl
theorem we_111 (b : Nat) (D : va_G) (AI : FieldType → ClassId) : wEnd (wGm b D AI) 111 = wE (wGm b D AI) wS0 111 (.inr (8, [some 112, some 113, some 114, some 115, none, none])) := by
  unfold wEnd
  refine va_upn (by decide) ?_
  unfold wEb
  refine (eM_off (by decide) (by decide)).trans ?_
  refine va_upn (by decide) ?_
  unfold wEa eW
  refine (eSnaps_off 3 (by decide) (by decide)).trans ?_
  unfold eW11
  refine va_upn (by decide) ?_
  refine va_upn (by decide) ?_
  unfold eW10
  refine va_upn (by decide) ?_
  refine (eSi_off (by decide) (by decide)).trans ?_
  refine va_upn (by decide) ?_
  unfold eW9
  refine va_upn (by decide) ?_
  refine va_upn (by decide) ?_
  unfold eW8
  refine va_upn (by decide) ?_
  unfold ePa
  unfold eSnaps
  refine va_upn (by decide) ?_
  refine (eSn_off (by decide) (by decide)).trans ?_
  refine va_upn (by decide) ?_
  unfold eSnaps
  refine va_upn (by decide) ?_
  refine (eSn_off (by decide) (by decide)).trans ?_
  refine va_upn (by decide) ?_
  unfold eSnaps
  refine va_upn (by decide) ?_
  refine (eSn_off (by decide) (by decide)).trans ?_
  refine va_upn (by decide) ?_
  unfold eSnaps
  refine va_upn (by decide) ?_
  refine (eSn_off (by decide) (by decide)).trans ?_
  refine va_upn (by decide) ?_
  unfold eSnaps
  refine va_upn (by decide) ?_
  refine (eSn_off (by decide) (by decide)).trans ?_
  refine va_upn (by decide) ?_
  unfold eSnaps
  refine va_upn (by decide) ?_
  unfold eSn
  exact va_ups.trans rfl
theorem we_112 (b : Nat) (D : va_G) (AI : FieldType → ClassId) : wEnd (wGm b D AI) 112 = wE (wGm b D AI) wS0 112 (.inl (.int, 9, 0, 0)) := by
  unfold wEnd
  refine va_upn (by decide) ?_
  unfold wEb
  refine (eM_off (by decide) (by decide)).trans ?_
  refine va_upn (by decide) ?_
  unfold wEa eW
  refine (eSnaps_off 3 (by decide) (by decide)).trans ?_
  unfold eW11
  refine va_upn (by decide) ?_
  refine va_upn (by decide) ?_
  unfold eW10
  refine va_upn (by decide) ?_
  refine (eSi_off (by decide) (by decide)).trans ?_
  refine va_upn (by decide) ?_
  unfold eW9
  refine va_upn (by decide) ?_
  refine va_upn (by decide) ?_
  unfold eW8
  refine va_upn (by decide) ?_
  unfold ePa
  unfold eSnaps
  refine va_upn (by decide) ?_
  refine (eSn_off (by decide) (by decide)).trans ?_
  refine va_upn (by decide) ?_
  unfold eSnaps
  refine va_upn (by decide) ?_
  refine (eSn_off (by decide) (by decide)).trans ?_
  refine va_upn (by decide) ?_
  unfold eSnaps
  refine va_upn (by decide) ?_
  refine (eSn_off (by decide) (by decide)).trans ?_
  refine va_upn (by decide) ?_
  unfold eSnaps
  refine va_upn (by decide) ?_
  refine (eSn_off (by decide) (by decide)).trans ?_
  refine va_upn (by decide) ?_
  unfold eSnaps
  refine va_upn (by decide) ?_
  refine (eSn_off (by decide) (by decide)).trans ?_
  refine va_upn (by decide) ?_
  unfold eSnaps
  refine va_upn (by decide) ?_
  unfold eSn
  refine va_upn (by decide) ?_
  refine va_upn (by decide) ?_
  refine va_upn (by decide) ?_
  refine va_upn (by decide) ?_
  refine va_upn (by decide) ?_
  refine va_upn (by decide) ?_
  refine va_upn (by decide) ?_
  refine va_upn (by decide) ?_
  refine va_upn (by decide) ?_
  exact va_ups.trans rfl
theorem we_113 (b : Nat) (D : va_G) (AI : FieldType → ClassId) : wEnd (wGm b D AI) 113 = wE (wGm b D AI) wS0 113 (.inl (.int, 9, 0, 0)) := by
  unfold wEnd
  refine va_upn (by decide) ?_
  unfold wEb
  refine (eM_off (by decide) (by decide)).trans ?_
  refine va_upn (by decide) ?_
  unfold wEa eW
  refine (eSnaps_off 3 (by decide) (by decide)).trans ?_
  unfold eW11
  refine va_upn (by decide) ?_
  refine va_upn (by decide) ?_
  unfold eW10
  refine va_upn (by decide) ?_
  refine (eSi_off (by decide) (by decide)).trans ?_
  refine va_upn (by decide) ?_
  unfold eW9
  refine va_upn (by decide) ?_
  refine va_upn (by decide) ?_
  unfold eW8
  refine va_upn (by decide) ?_
  unfold ePa
  unfold eSnaps
  refine va_upn (by decide) ?_
  refine (eSn_off (by decide) (by decide)).trans ?_
  refine va_upn (by decide) ?_
  unfold eSnaps
  refine va_upn (by decide) ?_
  refine (eSn_off (by decide) (by decide)).trans ?_
  refine va_upn (by decide) ?_
  unfold eSnaps
  refine va_upn (by decide) ?_
  refine (eSn_off (by decide) (by decide)).trans ?_
  refine va_upn (by decide) ?_
  unfold eSnaps
  refine va_upn (by decide) ?_
  refine (eSn_off (by decide) (by decide)).trans ?_
  refine va_upn (by decide) ?_
  unfold eSnaps
  refine va_upn (by decide) ?_
  refine (eSn_off (by decide) (by decide)).trans ?_
  refine va_upn (by decide) ?_
  unfold eSnaps
  refine va_upn (by decide) ?_
  unfold eSn
  refine va_upn (by decide) ?_
  refine va_upn (by decide) ?_
  refine va_upn (by decide) ?_
  refine va_upn (by decide) ?_
  refine va_upn (by decide) ?_
  refine va_upn (by decide) ?_
  refine va_upn (by decide) ?_
  exact va_ups.trans rfl
theorem we_114 (b : Nat) (D : va_G) (AI : FieldType → ClassId) : wEnd (wGm b D AI) 114 = wE (wGm b D AI) wS0 114 (.inl (.int, 9, 0, 0)) := by
  unfold wEnd
  refine va_upn (by decide) ?_
  unfold wEb
  refine (eM_off (by decide) (by decide)).trans ?_
  refine va_upn (by decide) ?_
  unfold wEa eW
  refine (eSnaps_off 3 (by decide) (by decide)).trans ?_
  unfold eW11
  refine va_upn (by decide) ?_
  refine va_upn (by decide) ?_
  unfold eW10
  refine va_upn (by decide) ?_
  refine (eSi_off (by decide) (by decide)).trans ?_
  refine va_upn (by decide) ?_
  unfold eW9
  refine va_upn (by decide) ?_
  refine va_upn (by decide) ?_
  unfold eW8
  refine va_upn (by decide) ?_
  unfold ePa
  unfold eSnaps
  refine va_upn (by decide) ?_
  refine (eSn_off (by decide) (by decide)).trans ?_
  refine va_upn (by decide) ?_
  unfold eSnaps
  refine va_upn (by decide) ?_
  refine (eSn_off (by decide) (by decide)).trans ?_
  refine va_upn (by decide) ?_
  unfold eSnaps
  refine va_upn (by decide) ?_
  refine (eSn_off (by decide) (by decide)).trans ?_
  refine va_upn (by decide) ?_
  unfold eSnaps
  refine va_upn (by decide) ?_
  refine (eSn_off (by decide) (by decide)).trans ?_
  refine va_upn (by decide) ?_
  unfold eSnaps
  refine va_upn (by decide) ?_
  refine (eSn_off (by decide) (by decide)).trans ?_
  refine va_upn (by decide) ?_
  unfold eSnaps
  refine va_upn (by decide) ?_
  unfold eSn
  refine va_upn (by decide) ?_
  refine va_upn (by decide) ?_
  refine va_upn (by decide) ?_
  refine va_upn (by decide) ?_
  refine va_upn (by decide) ?_
  exact va_ups.trans rfl
theorem we_115 (b : Nat) (D : va_G) (AI : FieldType → ClassId) : wEnd (wGm b D AI) 115 = wE (wGm b D AI) wS0 115 (.inl (.int, 3, 0, 0)) := by
  unfold wEnd
  refine va_upn (by decide) ?_
  unfold wEb
  refine (eM_off (by decide) (by decide)).trans ?_
  refine va_upn (by decide) ?_
  unfold wEa eW
  refine (eSnaps_off 3 (by decide) (by decide)).trans ?_
  unfold eW11
  refine va_upn (by decide) ?_
  refine va_upn (by decide) ?_
  unfold eW10
  refine va_upn (by decide) ?_
  refine (eSi_off (by decide) (by decide)).trans ?_
  refine va_upn (by decide) ?_
  unfold eW9
  refine va_upn (by decide) ?_
  refine va_upn (by decide) ?_
  unfold eW8
  refine va_upn (by decide) ?_
  unfold ePa
  unfold eSnaps
  refine va_upn (by decide) ?_
  refine (eSn_off (by decide) (by decide)).trans ?_
  refine va_upn (by decide) ?_
  unfold eSnaps
  refine va_upn (by decide) ?_
  refine (eSn_off (by decide) (by decide)).trans ?_
  refine va_upn (by decide) ?_
  unfold eSnaps
  refine va_upn (by decide) ?_
  refine (eSn_off (by decide) (by decide)).trans ?_
  refine va_upn (by decide) ?_
  unfold eSnaps
  refine va_upn (by decide) ?_
  refine (eSn_off (by decide) (by decide)).trans ?_
  refine va_upn (by decide) ?_
  unfold eSnaps
  refine va_upn (by decide) ?_
  refine (eSn_off (by decide) (by decide)).trans ?_
  refine va_upn (by decide) ?_
  unfold eSnaps
  refine va_upn (by decide) ?_
  unfold eSn
  refine va_upn (by decide) ?_
  refine va_upn (by decide) ?_
  refine va_upn (by decide) ?_
  exact va_ups.trans rfl
theorem we_116 (b : Nat) (D : va_G) (AI : FieldType → ClassId) : wEnd (wGm b D AI) 116 = wE (wGm b D AI) wS0 116 (.inr (8, [some 117, some 118, some 119, some 120, none, none])) := by
  unfold wEnd
  refine va_upn (by decide) ?_
  unfold wEb
  refine (eM_off (by decide) (by decide)).trans ?_
  refine va_upn (by decide) ?_
  unfold wEa eW
  refine (eSnaps_off 3 (by decide) (by decide)).trans ?_
  unfold eW11
  refine va_upn (by decide) ?_
  refine va_upn (by decide) ?_
  unfold eW10
  refine va_upn (by decide) ?_
  refine (eSi_off (by decide) (by decide)).trans ?_
  refine va_upn (by decide) ?_
  unfold eW9
  refine va_upn (by decide) ?_
  refine va_upn (by decide) ?_
  unfold eW8
  refine va_upn (by decide) ?_
  unfold ePa
  unfold eSnaps
  refine va_upn (by decide) ?_
  refine (eSn_off (by decide) (by decide)).trans ?_
  refine va_upn (by decide) ?_
  unfold eSnaps
  refine va_upn (by decide) ?_
  refine (eSn_off (by decide) (by decide)).trans ?_
  refine va_upn (by decide) ?_
  unfold eSnaps
  refine va_upn (by decide) ?_
  refine (eSn_off (by decide) (by decide)).trans ?_
  refine va_upn (by decide) ?_
  unfold eSnaps
  refine va_upn (by decide) ?_
  refine (eSn_off (by decide) (by decide)).trans ?_
  refine va_upn (by decide) ?_
  unfold eSnaps
  refine va_upn (by decide) ?_
  unfold eSn
  exact va_ups.trans rfl
theorem we_117 (b : Nat) (D : va_G) (AI : FieldType → ClassId) : wEnd (wGm b D AI) 117 = wE (wGm b D AI) wS0 117 (.inl (.int, 9, 0, 0)) := by
  unfold wEnd
  refine va_upn (by decide) ?_
  unfold wEb
  refine (eM_off (by decide) (by decide)).trans ?_
  refine va_upn (by decide) ?_
  unfold wEa eW
  refine (eSnaps_off 3 (by decide) (by decide)).trans ?_
  unfold eW11
  refine va_upn (by decide) ?_
  refine va_upn (by decide) ?_
  unfold eW10
  refine va_upn (by decide) ?_
  refine (eSi_off (by decide) (by decide)).trans ?_
  refine va_upn (by decide) ?_
  unfold eW9
  refine va_upn (by decide) ?_
  refine va_upn (by decide) ?_
  unfold eW8
  refine va_upn (by decide) ?_
  unfold ePa
  unfold eSnaps
  refine va_upn (by decide) ?_
  refine (eSn_off (by decide) (by decide)).trans ?_
  refine va_upn (by decide) ?_
  unfold eSnaps
  refine va_upn (by decide) ?_
  refine (eSn_off (by decide) (by decide)).trans ?_
  refine va_upn (by decide) ?_
  unfold eSnaps
  refine va_upn (by decide) ?_
  refine (eSn_off (by decide) (by decide)).trans ?_
  refine va_upn (by decide) ?_
  unfold eSnaps
  refine va_upn (by decide) ?_
  refine (eSn_off (by decide) (by decide)).trans ?_
  refine va_upn (by decide) ?_
  unfold eSnaps
  refine va_upn (by decide) ?_
  unfold eSn
  refine va_upn (by decide) ?_
  refine va_upn (by decide) ?_
  refine va_upn (by decide) ?_
  refine va_upn (by decide) ?_
  refine va_upn (by decide) ?_
  refine va_upn (by decide) ?_
  refine va_upn (by decide) ?_
  refine va_upn (by decide) ?_
  refine va_upn (by decide) ?_
  exact va_ups.trans rfl
theorem we_118 (b : Nat) (D : va_G) (AI : FieldType → ClassId) : wEnd (wGm b D AI) 118 = wE (wGm b D AI) wS0 118 (.inl (.int, 9, 0, 0)) := by
  unfold wEnd
  refine va_upn (by decide) ?_
  unfold wEb
  refine (eM_off (by decide) (by decide)).trans ?_
  refine va_upn (by decide) ?_
  unfold wEa eW
  refine (eSnaps_off 3 (by decide) (by decide)).trans ?_
  unfold eW11
  refine va_upn (by decide) ?_
  refine va_upn (by decide) ?_
  unfold eW10
  refine va_upn (by decide) ?_
  refine (eSi_off (by decide) (by decide)).trans ?_
  refine va_upn (by decide) ?_
  unfold eW9
  refine va_upn (by decide) ?_
  refine va_upn (by decide) ?_
  unfold eW8
  refine va_upn (by decide) ?_
  unfold ePa
  unfold eSnaps
  refine va_upn (by decide) ?_
  refine (eSn_off (by decide) (by decide)).trans ?_
  refine va_upn (by decide) ?_
  unfold eSnaps
  refine va_upn (by decide) ?_
  refine (eSn_off (by decide) (by decide)).trans ?_
  refine va_upn (by decide) ?_
  unfold eSnaps
  refine va_upn (by decide) ?_
  refine (eSn_off (by decide) (by decide)).trans ?_
  refine va_upn (by decide) ?_
  unfold eSnaps
  refine va_upn (by decide) ?_
  refine (eSn_off (by decide) (by decide)).trans ?_
  refine va_upn (by decide) ?_
  unfold eSnaps
  refine va_upn (by decide) ?_
  unfold eSn
  refine va_upn (by decide) ?_
  refine va_upn (by decide) ?_
  refine va_upn (by decide) ?_
  refine va_upn (by decide) ?_
  refine va_upn (by decide) ?_
  refine va_upn (by decide) ?_
  refine va_upn (by decide) ?_
  exact va_ups.trans rfl
theorem we_119 (b : Nat) (D : va_G) (AI : FieldType → ClassId) : wEnd (wGm b D AI) 119 = wE (wGm b D AI) wS0 119 (.inl (.int, 9, 0, 0)) := by
  unfold wEnd
  refine va_upn (by decide) ?_
  unfold wEb
  refine (eM_off (by decide) (by decide)).trans ?_
  refine va_upn (by decide) ?_
  unfold wEa eW
  refine (eSnaps_off 3 (by decide) (by decide)).trans ?_
  unfold eW11
  refine va_upn (by decide) ?_
  refine va_upn (by decide) ?_
  unfold eW10
  refine va_upn (by decide) ?_
  refine (eSi_off (by decide) (by decide)).trans ?_
  refine va_upn (by decide) ?_
  unfold eW9
  refine va_upn (by decide) ?_
  refine va_upn (by decide) ?_
  unfold eW8
  refine va_upn (by decide) ?_
  unfold ePa
  unfold eSnaps
  refine va_upn (by decide) ?_
  refine (eSn_off (by decide) (by decide)).trans ?_
  refine va_upn (by decide) ?_
  unfold eSnaps
  refine va_upn (by decide) ?_
  refine (eSn_off (by decide) (by decide)).trans ?_
  refine va_upn (by decide) ?_
  unfold eSnaps
  refine va_upn (by decide) ?_
  refine (eSn_off (by decide) (by decide)).trans ?_
  refine va_upn (by decide) ?_
  unfold eSnaps
  refine va_upn (by decide) ?_
  refine (eSn_off (by decide) (by decide)).trans ?_
  refine va_upn (by decide) ?_
  unfold eSnaps
  refine va_upn (by decide) ?_
  unfold eSn
  refine va_upn (by decide) ?_
  refine va_upn (by decide) ?_
  refine va_upn (by decide) ?_
  refine va_upn (by decide) ?_
  refine va_upn (by decide) ?_
  exact va_ups.trans rfl
theorem we_120 (b : Nat) (D : va_G) (AI : FieldType → ClassId) : wEnd (wGm b D AI) 120 = wE (wGm b D AI) wS0 120 (.inl (.int, 3, 0, 0)) := by
  unfold wEnd
  refine va_upn (by decide) ?_
  unfold wEb
  refine (eM_off (by decide) (by decide)).trans ?_
  refine va_upn (by decide) ?_
  unfold wEa eW
  refine (eSnaps_off 3 (by decide) (by decide)).trans ?_
  unfold eW11
  refine va_upn (by decide) ?_
  refine va_upn (by decide) ?_
  unfold eW10
  refine va_upn (by decide) ?_
  refine (eSi_off (by decide) (by decide)).trans ?_
  refine va_upn (by decide) ?_
  unfold eW9
  refine va_upn (by decide) ?_
  refine va_upn (by decide) ?_
  unfold eW8
  refine va_upn (by decide) ?_
  unfold ePa
  unfold eSnaps
  refine va_upn (by decide) ?_
  refine (eSn_off (by decide) (by decide)).trans ?_
  refine va_upn (by decide) ?_
  unfold eSnaps
  refine va_upn (by decide) ?_
  refine (eSn_off (by decide) (by decide)).trans ?_
  refine va_upn (by decide) ?_
  unfold eSnaps
  refine va_upn (by decide) ?_
  refine (eSn_off (by decide) (by decide)).trans ?_
  refine va_upn (by decide) ?_
  unfold eSnaps
  refine va_upn (by decide) ?_
  refine (eSn_off (by decide) (by decide)).trans ?_
  refine va_upn (by decide) ?_
  unfold eSnaps
  refine va_upn (by decide) ?_
  unfold eSn
  refine va_upn (by decide) ?_
  refine va_upn (by decide) ?_
  refine va_upn (by decide) ?_
  exact va_ups.trans rfl
theorem we_121 (b : Nat) (D : va_G) (AI : FieldType → ClassId) : wEnd (wGm b D AI) 121 = wE (wGm b D AI) wS0 121 (.inr (8, [some 122, some 123, some 124, some 125, none, none])) := by
  unfold wEnd
  refine va_upn (by decide) ?_
  unfold wEb
  refine (eM_off (by decide) (by decide)).trans ?_
  refine va_upn (by decide) ?_
  unfold wEa eW
  refine (eSnaps_off 3 (by decide) (by decide)).trans ?_
  unfold eW11
  refine va_upn (by decide) ?_
  refine va_upn (by decide) ?_
  unfold eW10
  refine va_upn (by decide) ?_
  refine (eSi_off (by decide) (by decide)).trans ?_
  refine va_upn (by decide) ?_
  unfold eW9
  refine va_upn (by decide) ?_
  refine va_upn (by decide) ?_
  unfold eW8
  refine va_upn (by decide) ?_
  unfold ePa
  unfold eSnaps
  refine va_upn (by decide) ?_
  refine (eSn_off (by decide) (by decide)).trans ?_
  refine va_upn (by decide) ?_
  unfold eSnaps
  refine va_upn (by decide) ?_
  refine (eSn_off (by decide) (by decide)).trans ?_
  refine va_upn (by decide) ?_
  unfold eSnaps
  refine va_upn (by decide) ?_
  refine (eSn_off (by decide) (by decide)).trans ?_
  refine va_upn (by decide) ?_
  unfold eSnaps
  refine va_upn (by decide) ?_
  unfold eSn
  exact va_ups.trans rfl
theorem we_122 (b : Nat) (D : va_G) (AI : FieldType → ClassId) : wEnd (wGm b D AI) 122 = wE (wGm b D AI) wS0 122 (.inl (.int, 9, 0, 0)) := by
  unfold wEnd
  refine va_upn (by decide) ?_
  unfold wEb
  refine (eM_off (by decide) (by decide)).trans ?_
  refine va_upn (by decide) ?_
  unfold wEa eW
  refine (eSnaps_off 3 (by decide) (by decide)).trans ?_
  unfold eW11
  refine va_upn (by decide) ?_
  refine va_upn (by decide) ?_
  unfold eW10
  refine va_upn (by decide) ?_
  refine (eSi_off (by decide) (by decide)).trans ?_
  refine va_upn (by decide) ?_
  unfold eW9
  refine va_upn (by decide) ?_
  refine va_upn (by decide) ?_
  unfold eW8
  refine va_upn (by decide) ?_
  unfold ePa
  unfold eSnaps
  refine va_upn (by decide) ?_
  refine (eSn_off (by decide) (by decide)).trans ?_
  refine va_upn (by decide) ?_
  unfold eSnaps
  refine va_upn (by decide) ?_
  refine (eSn_off (by decide) (by decide)).trans ?_
  refine va_upn (by decide) ?_
  unfold eSnaps
  refine va_upn (by decide) ?_
  refine (eSn_off (by decide) (by decide)).trans ?_
  refine va_upn (by decide) ?_
  unfold eSnaps
  refine va_upn (by decide) ?_
  unfold eSn
  refine va_upn (by decide) ?_
  refine va_upn (by decide) ?_
  refine va_upn (by decide) ?_
  refine va_upn (by decide) ?_
  refine va_upn (by decide) ?_
  refine va_upn (by decide) ?_
  refine va_upn (by decide) ?_
  refine va_upn (by decide) ?_
  refine va_upn (by decide) ?_
  exact va_ups.trans rfl
theorem we_123 (b : Nat) (D : va_G) (AI : FieldType → ClassId) : wEnd (wGm b D AI) 123 = wE (wGm b D AI) wS0 123 (.inl (.int, 9, 0, 0)) := by
  unfold wEnd
  refine va_upn (by decide) ?_
  unfold wEb
  refine (eM_off (by decide) (by decide)).trans ?_
  refine va_upn (by decide) ?_
  unfold wEa eW
  refine (eSnaps_off 3 (by decide) (by decide)).trans ?_
  unfold eW11
  refine va_upn (by decide) ?_
  refine va_upn (by decide) ?_
  unfold eW10
  refine va_upn (by decide) ?_
  refine (eSi_off (by decide) (by decide)).trans ?_
  refine va_upn (by decide) ?_
  unfold eW9
  refine va_upn (by decide) ?_
  refine va_upn (by decide) ?_
  unfold eW8
  refine va_upn (by decide) ?_
  unfold ePa
  unfold eSnaps
  refine va_upn (by decide) ?_
  refine (eSn_off (by decide) (by decide)).trans ?_
  refine va_upn (by decide) ?_
  unfold eSnaps
  refine va_upn (by decide) ?_
  refine (eSn_off (by decide) (by decide)).trans ?_
  refine va_upn (by decide) ?_
  unfold eSnaps
  refine va_upn (by decide) ?_
  refine (eSn_off (by decide) (by decide)).trans ?_
  refine va_upn (by decide) ?_
  unfold eSnaps
  refine va_upn (by decide) ?_
  unfold eSn
  refine va_upn (by decide) ?_
  refine va_upn (by decide) ?_
  refine va_upn (by decide) ?_
  refine va_upn (by decide) ?_
  refine va_upn (by decide) ?_
  refine va_upn (by decide) ?_
  refine va_upn (by decide) ?_
  exact va_ups.trans rfl
theorem we_124 (b : Nat) (D : va_G) (AI : FieldType → ClassId) : wEnd (wGm b D AI) 124 = wE (wGm b D AI) wS0 124 (.inl (.int, 9, 0, 0)) := by
  unfold wEnd
  refine va_upn (by decide) ?_
  unfold wEb
  refine (eM_off (by decide) (by decide)).trans ?_
  refine va_upn (by decide) ?_
  unfold wEa eW
  refine (eSnaps_off 3 (by decide) (by decide)).trans ?_
  unfold eW11
  refine va_upn (by decide) ?_
  refine va_upn (by decide) ?_
  unfold eW10
  refine va_upn (by decide) ?_
  refine (eSi_off (by decide) (by decide)).trans ?_
  refine va_upn (by decide) ?_
  unfold eW9
  refine va_upn (by decide) ?_
  refine va_upn (by decide) ?_
  unfold eW8
  refine va_upn (by decide) ?_
  unfold ePa
  unfold eSnaps
  refine va_upn (by decide) ?_
  refine (eSn_off (by decide) (by decide)).trans ?_
  refine va_upn (by decide) ?_
  unfold eSnaps
  refine va_upn (by decide) ?_
  refine (eSn_off (by decide) (by decide)).trans ?_
  refine va_upn (by decide) ?_
  unfold eSnaps
  refine va_upn (by decide) ?_
  refine (eSn_off (by decide) (by decide)).trans ?_
  refine va_upn (by decide) ?_
  unfold eSnaps
  refine va_upn (by decide) ?_
  unfold eSn
  refine va_upn (by decide) ?_
  refine va_upn (by decide) ?_
  refine va_upn (by decide) ?_
  refine va_upn (by decide) ?_
  refine va_upn (by decide) ?_
  exact va_ups.trans rfl
theorem we_125 (b : Nat) (D : va_G) (AI : FieldType → ClassId) : wEnd (wGm b D AI) 125 = wE (wGm b D AI) wS0 125 (.inl (.int, 3, 0, 0)) := by
  unfold wEnd
  refine va_upn (by decide) ?_
  unfold wEb
  refine (eM_off (by decide) (by decide)).trans ?_
  refine va_upn (by decide) ?_
  unfold wEa eW
  refine (eSnaps_off 3 (by decide) (by decide)).trans ?_
  unfold eW11
  refine va_upn (by decide) ?_
  refine va_upn (by decide) ?_
  unfold eW10
  refine va_upn (by decide) ?_
  refine (eSi_off (by decide) (by decide)).trans ?_
  refine va_upn (by decide) ?_
  unfold eW9
  refine va_upn (by decide) ?_
  refine va_upn (by decide) ?_
  unfold eW8
  refine va_upn (by decide) ?_
  unfold ePa
  unfold eSnaps
  refine va_upn (by decide) ?_
  refine (eSn_off (by decide) (by decide)).trans ?_
  refine va_upn (by decide) ?_
  unfold eSnaps
  refine va_upn (by decide) ?_
  refine (eSn_off (by decide) (by decide)).trans ?_
  refine va_upn (by decide) ?_
  unfold eSnaps
  refine va_upn (by decide) ?_
  refine (eSn_off (by decide) (by decide)).trans ?_
  refine va_upn (by decide) ?_
  unfold eSnaps
  refine va_upn (by decide) ?_
  unfold eSn
  refine va_upn (by decide) ?_
  refine va_upn (by decide) ?_
  refine va_upn (by decide) ?_
  exact va_ups.trans rfl
theorem we_126 (b : Nat) (D : va_G) (AI : FieldType → ClassId) : wEnd (wGm b D AI) 126 = wE (wGm b D AI) wS0 126 (.inr (8, [some 127, some 128, some 129, some 130, none, none])) := by
  unfold wEnd
  refine va_upn (by decide) ?_
  unfold wEb
  refine (eM_off (by decide) (by decide)).trans ?_
  refine va_upn (by decide) ?_
  unfold wEa eW
  refine (eSnaps_off 3 (by decide) (by decide)).trans ?_
  unfold eW11
  refine va_upn (by decide) ?_
  refine va_upn (by decide) ?_
  unfold eW10
  refine va_upn (by decide) ?_
  refine (eSi_off (by decide) (by decide)).trans ?_
  refine va_upn (by decide) ?_
  unfold eW9
  refine va_upn (by decide) ?_
  refine va_upn (by decide) ?_
  unfold eW8
  refine va_upn (by decide) ?_
  unfold ePa
  unfold eSnaps
  refine va_upn (by decide) ?_
  refine (eSn_off (by decide) (by decide)).trans ?_
  refine va_upn (by decide) ?_
  unfold eSnaps
  refine va_upn (by decide) ?_
  refine (eSn_off (by decide) (by decide)).trans ?_
  refine va_upn (by decide) ?_
  unfold eSnaps
  refine va_upn (by decide) ?_
  unfold eSn
  exact va_ups.trans rfl
theorem we_127 (b : Nat) (D : va_G) (AI : FieldType → ClassId) : wEnd (wGm b D AI) 127 = wE (wGm b D AI) wS0 127 (.inl (.int, 9, 0, 0)) := by
  unfold wEnd
  refine va_upn (by decide) ?_
  unfold wEb
  refine (eM_off (by decide) (by decide)).trans ?_
  refine va_upn (by decide) ?_
  unfold wEa eW
  refine (eSnaps_off 3 (by decide) (by decide)).trans ?_
  unfold eW11
  refine va_upn (by decide) ?_
  refine va_upn (by decide) ?_
  unfold eW10
  refine va_upn (by decide) ?_
  refine (eSi_off (by decide) (by decide)).trans ?_
  refine va_upn (by decide) ?_
  unfold eW9
  refine va_upn (by decide) ?_
  refine va_upn (by decide) ?_
  unfold eW8
  refine va_upn (by decide) ?_
  unfold ePa
  unfold eSnaps
  refine va_upn (by decide) ?_
  refine (eSn_off (by decide) (by decide)).trans ?_
  refine va_upn (by decide) ?_
  unfold eSnaps
  refine va_upn (by decide) ?_
  refine (eSn_off (by decide) (by decide)).trans ?_
  refine va_upn (by decide) ?_
  unfold eSnaps
  refine va_upn (by decide) ?_
  unfold eSn
  refine va_upn (by decide) ?_
  refine va_upn (by decide) ?_
  refine va_upn (by decide) ?_
  refine va_upn (by decide) ?_
  refine va_upn (by decide) ?_
  refine va_upn (by decide) ?_
  refine va_upn (by decide) ?_
  refine va_upn (by decide) ?_
  refine va_upn (by decide) ?_
  exact va_ups.trans rfl
theorem we_128 (b : Nat) (D : va_G) (AI : FieldType → ClassId) : wEnd (wGm b D AI) 128 = wE (wGm b D AI) wS0 128 (.inl (.int, 9, 0, 0)) := by
  unfold wEnd
  refine va_upn (by decide) ?_
  unfold wEb
  refine (eM_off (by decide) (by decide)).trans ?_
  refine va_upn (by decide) ?_
  unfold wEa eW
  refine (eSnaps_off 3 (by decide) (by decide)).trans ?_
  unfold eW11
  refine va_upn (by decide) ?_
  refine va_upn (by decide) ?_
  unfold eW10
  refine va_upn (by decide) ?_
  refine (eSi_off (by decide) (by decide)).trans ?_
  refine va_upn (by decide) ?_
  unfold eW9
  refine va_upn (by decide) ?_
  refine va_upn (by decide) ?_
  unfold eW8
  refine va_upn (by decide) ?_
  unfold ePa
  unfold eSnaps
  refine va_upn (by decide) ?_
  refine (eSn_off (by decide) (by decide)).trans ?_
  refine va_upn (by decide) ?_
  unfold eSnaps
  refine va_upn (by decide) ?_
  refine (eSn_off (by decide) (by decide)).trans ?_
  refine va_upn (by decide) ?_
  unfold eSnaps
  refine va_upn (by decide) ?_
  unfold eSn
  refine va_upn (by decide) ?_
  refine va_upn (by decide) ?_
  refine va_upn (by decide) ?_
  refine va_upn (by decide) ?_
  refine va_upn (by decide) ?_
  refine va_upn (by decide) ?_
  refine va_upn (by decide) ?_
  exact va_ups.trans rfl
theorem we_129 (b : Nat) (D : va_G) (AI : FieldType → ClassId) : wEnd (wGm b D AI) 129 = wE (wGm b D AI) wS0 129 (.inl (.int, 9, 0, 0)) := by
  unfold wEnd
  refine va_upn (by decide) ?_
  unfold wEb
  refine (eM_off (by decide) (by decide)).trans ?_
  refine va_upn (by decide) ?_
  unfold wEa eW
  refine (eSnaps_off 3 (by decide) (by decide)).trans ?_
  unfold eW11
  refine va_upn (by decide) ?_
  refine va_upn (by decide) ?_
  unfold eW10
  refine va_upn (by decide) ?_
  refine (eSi_off (by decide) (by decide)).trans ?_
  refine va_upn (by decide) ?_
  unfold eW9
  refine va_upn (by decide) ?_
  refine va_upn (by decide) ?_
  unfold eW8
  refine va_upn (by decide) ?_
  unfold ePa
  unfold eSnaps
  refine va_upn (by decide) ?_
  refine (eSn_off (by decide) (by decide)).trans ?_
  refine va_upn (by decide) ?_
  unfold eSnaps
  refine va_upn (by decide) ?_
  refine (eSn_off (by decide) (by decide)).trans ?_
  refine va_upn (by decide) ?_
  unfold eSnaps
  refine va_upn (by decide) ?_
  unfold eSn
  refine va_upn (by decide) ?_
  refine va_upn (by decide) ?_
  refine va_upn (by decide) ?_
  refine va_upn (by decide) ?_
  refine va_upn (by decide) ?_
  exact va_ups.trans rfl
theorem we_130 (b : Nat) (D : va_G) (AI : FieldType → ClassId) : wEnd (wGm b D AI) 130 = wE (wGm b D AI) wS0 130 (.inl (.int, 3, 0, 0)) := by
  unfold wEnd
  refine va_upn (by decide) ?_
  unfold wEb
  refine (eM_off (by decide) (by decide)).trans ?_
  refine va_upn (by decide) ?_
  unfold wEa eW
  refine (eSnaps_off 3 (by decide) (by decide)).trans ?_
  unfold eW11
  refine va_upn (by decide) ?_
  refine va_upn (by decide) ?_
  unfold eW10
  refine va_upn (by decide) ?_
  refine (eSi_off (by decide) (by decide)).trans ?_
  refine va_upn (by decide) ?_
  unfold eW9
  refine va_upn (by decide) ?_
  refine va_upn (by decide) ?_
  unfold eW8
  refine va_upn (by decide) ?_
  unfold ePa
  unfold eSnaps
  refine va_upn (by decide) ?_
  refine (eSn_off (by decide) (by decide)).trans ?_
  refine va_upn (by decide) ?_
  unfold eSnaps
  refine va_upn (by decide) ?_
  refine (eSn_off (by decide) (by decide)).trans ?_
  refine va_upn (by decide) ?_
  unfold eSnaps
  refine va_upn (by decide) ?_
  unfold eSn
  refine va_upn (by decide) ?_
  refine va_upn (by decide) ?_
  refine va_upn (by decide) ?_
  exact va_ups.trans rfl
theorem we_131 (b : Nat) (D : va_G) (AI : FieldType → ClassId) : wEnd (wGm b D AI) 131 = wE (wGm b D AI) wS0 131 (.inr (8, [some 132, some 133, some 134, some 135, none, none])) := by
  unfold wEnd
  refine va_upn (by decide) ?_
  unfold wEb
  refine (eM_off (by decide) (by decide)).trans ?_
  refine va_upn (by decide) ?_
  unfold wEa eW
  refine (eSnaps_off 3 (by decide) (by decide)).trans ?_
  unfold eW11
  refine va_upn (by decide) ?_
  refine va_upn (by decide) ?_
  unfold eW10
  refine va_upn (by decide) ?_
  refine (eSi_off (by decide) (by decide)).trans ?_
  refine va_upn (by decide) ?_
  unfold eW9
  refine va_upn (by decide) ?_
  refine va_upn (by decide) ?_
  unfold eW8
  refine va_upn (by decide) ?_
  unfold ePa
  unfold eSnaps
  refine va_upn (by decide) ?_
  refine (eSn_off (by decide) (by decide)).trans ?_
  refine va_upn (by decide) ?_
  unfold eSnaps
  refine va_upn (by decide) ?_
  unfold eSn
  exact va_ups.trans rfl
theorem we_132 (b : Nat) (D : va_G) (AI : FieldType → ClassId) : wEnd (wGm b D AI) 132 = wE (wGm b D AI) wS0 132 (.inl (.int, 9, 0, 0)) := by
  unfold wEnd
  refine va_upn (by decide) ?_
  unfold wEb
  refine (eM_off (by decide) (by decide)).trans ?_
  refine va_upn (by decide) ?_
  unfold wEa eW
  refine (eSnaps_off 3 (by decide) (by decide)).trans ?_
  unfold eW11
  refine va_upn (by decide) ?_
  refine va_upn (by decide) ?_
  unfold eW10
  refine va_upn (by decide) ?_
  refine (eSi_off (by decide) (by decide)).trans ?_
  refine va_upn (by decide) ?_
  unfold eW9
  refine va_upn (by decide) ?_
  refine va_upn (by decide) ?_
  unfold eW8
  refine va_upn (by decide) ?_
  unfold ePa
  unfold eSnaps
  refine va_upn (by decide) ?_
  refine (eSn_off (by decide) (by decide)).trans ?_
  refine va_upn (by decide) ?_
  unfold eSnaps
  refine va_upn (by decide) ?_
  unfold eSn
  refine va_upn (by decide) ?_
  refine va_upn (by decide) ?_
  refine va_upn (by decide) ?_
  refine va_upn (by decide) ?_
  refine va_upn (by decide) ?_
  refine va_upn (by decide) ?_
  refine va_upn (by decide) ?_
  refine va_upn (by decide) ?_
  refine va_upn (by decide) ?_
  exact va_ups.trans rfl
theorem we_133 (b : Nat) (D : va_G) (AI : FieldType → ClassId) : wEnd (wGm b D AI) 133 = wE (wGm b D AI) wS0 133 (.inl (.int, 9, 0, 0)) := by
  unfold wEnd
  refine va_upn (by decide) ?_
  unfold wEb
  refine (eM_off (by decide) (by decide)).trans ?_
  refine va_upn (by decide) ?_
  unfold wEa eW
  refine (eSnaps_off 3 (by decide) (by decide)).trans ?_
  unfold eW11
  refine va_upn (by decide) ?_
  refine va_upn (by decide) ?_
  unfold eW10
  refine va_upn (by decide) ?_
  refine (eSi_off (by decide) (by decide)).trans ?_
  refine va_upn (by decide) ?_
  unfold eW9
  refine va_upn (by decide) ?_
  refine va_upn (by decide) ?_
  unfold eW8
  refine va_upn (by decide) ?_
  unfold ePa
  unfold eSnaps
  refine va_upn (by decide) ?_
  refine (eSn_off (by decide) (by decide)).trans ?_
  refine va_upn (by decide) ?_
  unfold eSnaps
  refine va_upn (by decide) ?_
  unfold eSn
  refine va_upn (by decide) ?_
  refine va_upn (by decide) ?_
  refine va_upn (by decide) ?_
  refine va_upn (by decide) ?_
  refine va_upn (by decide) ?_
  refine va_upn (by decide) ?_
  refine va_upn (by decide) ?_
  exact va_ups.trans rfl
theorem we_134 (b : Nat) (D : va_G) (AI : FieldType → ClassId) : wEnd (wGm b D AI) 134 = wE (wGm b D AI) wS0 134 (.inl (.int, 9, 0, 0)) := by
  unfold wEnd
  refine va_upn (by decide) ?_
  unfold wEb
  refine (eM_off (by decide) (by decide)).trans ?_
  refine va_upn (by decide) ?_
  unfold wEa eW
  refine (eSnaps_off 3 (by decide) (by decide)).trans ?_
  unfold eW11
  refine va_upn (by decide) ?_
  refine va_upn (by decide) ?_
  unfold eW10
  refine va_upn (by decide) ?_
  refine (eSi_off (by decide) (by decide)).trans ?_
  refine va_upn (by decide) ?_
  unfold eW9
  refine va_upn (by decide) ?_
  refine va_upn (by decide) ?_
  unfold eW8
  refine va_upn (by decide) ?_
  unfold ePa
  unfold eSnaps
  refine va_upn (by decide) ?_
  refine (eSn_off (by decide) (by decide)).trans ?_
  refine va_upn (by decide) ?_
  unfold eSnaps
  refine va_upn (by decide) ?_
  unfold eSn
  refine va_upn (by decide) ?_
  refine va_upn (by decide) ?_
  refine va_upn (by decide) ?_
  refine va_upn (by decide) ?_
  refine va_upn (by decide) ?_
  exact va_ups.trans rfl
theorem we_135 (b : Nat) (D : va_G) (AI : FieldType → ClassId) : wEnd (wGm b D AI) 135 = wE (wGm b D AI) wS0 135 (.inl (.int, 3, 0, 0)) := by
  unfold wEnd
  refine va_upn (by decide) ?_
  unfold wEb
  refine (eM_off (by decide) (by decide)).trans ?_
  refine va_upn (by decide) ?_
  unfold wEa eW
  refine (eSnaps_off 3 (by decide) (by decide)).trans ?_
  unfold eW11
  refine va_upn (by decide) ?_
  refine va_upn (by decide) ?_
  unfold eW10
  refine va_upn (by decide) ?_
  refine (eSi_off (by decide) (by decide)).trans ?_
  refine va_upn (by decide) ?_
  unfold eW9
  refine va_upn (by decide) ?_
  refine va_upn (by decide) ?_
  unfold eW8
  refine va_upn (by decide) ?_
  unfold ePa
  unfold eSnaps
  refine va_upn (by decide) ?_
  refine (eSn_off (by decide) (by decide)).trans ?_
  refine va_upn (by decide) ?_
  unfold eSnaps
  refine va_upn (by decide) ?_
  unfold eSn
  refine va_upn (by decide) ?_
  refine va_upn (by decide) ?_
  refine va_upn (by decide) ?_
  exact va_ups.trans rfl
theorem we_136 (b : Nat) (D : va_G) (AI : FieldType → ClassId) : wEnd (wGm b D AI) 136 = wE (wGm b D AI) wS0 136 (.inr (8, [some 137, some 138, some 139, some 140, none, none])) := by
  unfold wEnd
  refine va_upn (by decide) ?_
  unfold wEb
  refine (eM_off (by decide) (by decide)).trans ?_
  refine va_upn (by decide) ?_
  unfold wEa eW
  refine (eSnaps_off 3 (by decide) (by decide)).trans ?_
  unfold eW11
  refine va_upn (by decide) ?_
  refine va_upn (by decide) ?_
  unfold eW10
  refine va_upn (by decide) ?_
  refine (eSi_off (by decide) (by decide)).trans ?_
  refine va_upn (by decide) ?_
  unfold eW9
  refine va_upn (by decide) ?_
  refine va_upn (by decide) ?_
  unfold eW8
  refine va_upn (by decide) ?_
  unfold ePa
  unfold eSnaps
  refine va_upn (by decide) ?_
  unfold eSn
  exact va_ups.trans rfl
theorem we_137 (b : Nat) (D : va_G) (AI : FieldType → ClassId) : wEnd (wGm b D AI) 137 = wE (wGm b D AI) wS0 137 (.inl (.int, 9, 0, 0)) := by
  unfold wEnd
  refine va_upn (by decide) ?_
  unfold wEb
  refine (eM_off (by decide) (by decide)).trans ?_
  refine va_upn (by decide) ?_
  unfold wEa eW
  refine (eSnaps_off 3 (by decide) (by decide)).trans ?_
  unfold eW11
  refine va_upn (by decide) ?_
  refine va_upn (by decide) ?_
  unfold eW10
  refine va_upn (by decide) ?_
  refine (eSi_off (by decide) (by decide)).trans ?_
  refine va_upn (by decide) ?_
  unfold eW9
  refine va_upn (by decide) ?_
  refine va_upn (by decide) ?_
  unfold eW8
  refine va_upn (by decide) ?_
  unfold ePa
  unfold eSnaps
  refine va_upn (by decide) ?_
  unfold eSn
  refine va_upn (by decide) ?_
  refine va_upn (by decide) ?_
  refine va_upn (by decide) ?_
  refine va_upn (by decide) ?_
  refine va_upn (by decide) ?_
  refine va_upn (by decide) ?_
  refine va_upn (by decide) ?_
  refine va_upn (by decide) ?_
  refine va_upn (by decide) ?_
  exact va_ups.trans rfl
theorem we_138 (b : Nat) (D : va_G) (AI : FieldType → ClassId) : wEnd (wGm b D AI) 138 = wE (wGm b D AI) wS0 138 (.inl (.int, 9, 0, 0)) := by
  unfold wEnd
  refine va_upn (by decide) ?_
  unfold wEb
  refine (eM_off (by decide) (by decide)).trans ?_
  refine va_upn (by decide) ?_
  unfold wEa eW
  refine (eSnaps_off 3 (by decide) (by decide)).trans ?_
  unfold eW11
  refine va_upn (by decide) ?_
  refine va_upn (by decide) ?_
  unfold eW10
  refine va_upn (by decide) ?_
  refine (eSi_off (by decide) (by decide)).trans ?_
  refine va_upn (by decide) ?_
  unfold eW9
  refine va_upn (by decide) ?_
  refine va_upn (by decide) ?_
  unfold eW8
  refine va_upn (by decide) ?_
  unfold ePa
  unfold eSnaps
  refine va_upn (by decide) ?_
  unfold eSn
  refine va_upn (by decide) ?_
  refine va_upn (by decide) ?_
  refine va_upn (by decide) ?_
  refine va_upn (by decide) ?_
  refine va_upn (by decide) ?_
  refine va_upn (by decide) ?_
  refine va_upn (by decide) ?_
  exact va_ups.trans rfl
theorem we_139 (b : Nat) (D : va_G) (AI : FieldType → ClassId) : wEnd (wGm b D AI) 139 = wE (wGm b D AI) wS0 139 (.inl (.int, 9, 0, 0)) := by
  unfold wEnd
  refine va_upn (by decide) ?_
  unfold wEb
  refine (eM_off (by decide) (by decide)).trans ?_
  refine va_upn (by decide) ?_
  unfold wEa eW
  refine (eSnaps_off 3 (by decide) (by decide)).trans ?_
  unfold eW11
  refine va_upn (by decide) ?_
  refine va_upn (by decide) ?_
  unfold eW10
  refine va_upn (by decide) ?_
  refine (eSi_off (by decide) (by decide)).trans ?_
  refine va_upn (by decide) ?_
  unfold eW9
  refine va_upn (by decide) ?_
  refine va_upn (by decide) ?_
  unfold eW8
  refine va_upn (by decide) ?_
  unfold ePa
  unfold eSnaps
  refine va_upn (by decide) ?_
  unfold eSn
  refine va_upn (by decide) ?_
  refine va_upn (by decide) ?_
  refine va_upn (by decide) ?_
  refine va_upn (by decide) ?_
  refine va_upn (by decide) ?_
  exact va_ups.trans rfl
theorem we_140 (b : Nat) (D : va_G) (AI : FieldType → ClassId) : wEnd (wGm b D AI) 140 = wE (wGm b D AI) wS0 140 (.inl (.int, 3, 0, 0)) := by
  unfold wEnd
  refine va_upn (by decide) ?_
  unfold wEb
  refine (eM_off (by decide) (by decide)).trans ?_
  refine va_upn (by decide) ?_
  unfold wEa eW
  refine (eSnaps_off 3 (by decide) (by decide)).trans ?_
  unfold eW11
  refine va_upn (by decide) ?_
  refine va_upn (by decide) ?_
  unfold eW10
  refine va_upn (by decide) ?_
  refine (eSi_off (by decide) (by decide)).trans ?_
  refine va_upn (by decide) ?_
  unfold eW9
  refine va_upn (by decide) ?_
  refine va_upn (by decide) ?_
  unfold eW8
  refine va_upn (by decide) ?_
  unfold ePa
  unfold eSnaps
  refine va_upn (by decide) ?_
  unfold eSn
  refine va_upn (by decide) ?_
  refine va_upn (by decide) ?_
  refine va_upn (by decide) ?_
  exact va_ups.trans rfl
theorem we_142 (b : Nat) (D : va_G) (AI : FieldType → ClassId) : wEnd (wGm b D AI) 142 = wE (wGm b D AI) wS0 142 (.inr (7, [none, some 143, some 144])) := by
  unfold wEnd
  refine va_upn (by decide) ?_
  unfold wEb
  refine (eM_off (by decide) (by decide)).trans ?_
  refine va_upn (by decide) ?_
  unfold wEa eW
  refine (eSnaps_off 3 (by decide) (by decide)).trans ?_
  unfold eW11
  refine va_upn (by decide) ?_
  refine va_upn (by decide) ?_
  unfold eW10
  refine va_upn (by decide) ?_
  unfold eSi
  exact va_ups.trans rfl
theorem we_143 (b : Nat) (D : va_G) (AI : FieldType → ClassId) : wEnd (wGm b D AI) 143 = wE (wGm b D AI) wS0 143 (.inl (.int, 10, 0, 0)) := by
  unfold wEnd
  refine va_upn (by decide) ?_
  unfold wEb
  refine (eM_off (by decide) (by decide)).trans ?_
  refine va_upn (by decide) ?_
  unfold wEa eW
  refine (eSnaps_off 3 (by decide) (by decide)).trans ?_
  unfold eW11
  refine va_upn (by decide) ?_
  refine va_upn (by decide) ?_
  unfold eW10
  refine va_upn (by decide) ?_
  unfold eSi
  refine va_upn (by decide) ?_
  refine va_upn (by decide) ?_
  refine va_upn (by decide) ?_
  exact va_ups.trans rfl
theorem we_144 (b : Nat) (D : va_G) (AI : FieldType → ClassId) : wEnd (wGm b D AI) 144 = wE (wGm b D AI) wS0 144 (.inl (.int, 10, 0, 0)) := by
  unfold wEnd
  refine va_upn (by decide) ?_
  unfold wEb
  refine (eM_off (by decide) (by decide)).trans ?_
  refine va_upn (by decide) ?_
  unfold wEa eW
  refine (eSnaps_off 3 (by decide) (by decide)).trans ?_
  unfold eW11
  refine va_upn (by decide) ?_
  refine va_upn (by decide) ?_
  unfold eW10
  refine va_upn (by decide) ?_
  unfold eSi
  refine va_upn (by decide) ?_
  exact va_ups.trans rfl
theorem we_145 (b : Nat) (D : va_G) (AI : FieldType → ClassId) : wEnd (wGm b D AI) 145 = wE (wGm b D AI) wS0 145 (.inl (.int, 200, 0, 0)) := by
  unfold wEnd
  refine va_upn (by decide) ?_
  unfold wEb
  refine (eM_off (by decide) (by decide)).trans ?_
  refine va_upn (by decide) ?_
  unfold wEa eW
  refine (eSnaps_off 3 (by decide) (by decide)).trans ?_
  unfold eW11
  refine va_upn (by decide) ?_
  exact va_ups.trans rfl
theorem we_146 (b : Nat) (D : va_G) (AI : FieldType → ClassId) : wEnd (wGm b D AI) 146 = wE (wGm b D AI) wS0 146 (.inr (8, [some 147, some 148, some 149, some 150, none, none])) := by
  unfold wEnd
  refine va_upn (by decide) ?_
  unfold wEb
  refine (eM_off (by decide) (by decide)).trans ?_
  refine va_upn (by decide) ?_
  unfold wEa eW
  unfold eSnaps
  refine va_upn (by decide) ?_
  refine (eSn_off (by decide) (by decide)).trans ?_
  refine va_upn (by decide) ?_
  unfold eSnaps
  refine va_upn (by decide) ?_
  refine (eSn_off (by decide) (by decide)).trans ?_
  refine va_upn (by decide) ?_
  unfold eSnaps
  refine va_upn (by decide) ?_
  unfold eSn
  exact va_ups.trans rfl
theorem we_147 (b : Nat) (D : va_G) (AI : FieldType → ClassId) : wEnd (wGm b D AI) 147 = wE (wGm b D AI) wS0 147 (.inl (.int, 9, 0, 0)) := by
  unfold wEnd
  refine va_upn (by decide) ?_
  unfold wEb
  refine (eM_off (by decide) (by decide)).trans ?_
  refine va_upn (by decide) ?_
  unfold wEa eW
  unfold eSnaps
  refine va_upn (by decide) ?_
  refine (eSn_off (by decide) (by decide)).trans ?_
  refine va_upn (by decide) ?_
  unfold eSnaps
  refine va_upn (by decide) ?_
  refine (eSn_off (by decide) (by decide)).trans ?_
  refine va_upn (by decide) ?_
  unfold eSnaps
  refine va_upn (by decide) ?_
  unfold eSn
  refine va_upn (by decide) ?_
  refine va_upn (by decide) ?_
  refine va_upn (by decide) ?_
  refine va_upn (by decide) ?_
  refine va_upn (by decide) ?_
  refine va_upn (by decide) ?_
  refine va_upn (by decide) ?_
  refine va_upn (by decide) ?_
  refine va_upn (by decide) ?_
  exact va_ups.trans rfl
theorem we_148 (b : Nat) (D : va_G) (AI : FieldType → ClassId) : wEnd (wGm b D AI) 148 = wE (wGm b D AI) wS0 148 (.inl (.int, 9, 0, 0)) := by
  unfold wEnd
  refine va_upn (by decide) ?_
  unfold wEb
  refine (eM_off (by decide) (by decide)).trans ?_
  refine va_upn (by decide) ?_
  unfold wEa eW
  unfold eSnaps
  refine va_upn (by decide) ?_
  refine (eSn_off (by decide) (by decide)).trans ?_
  refine va_upn (by decide) ?_
  unfold eSnaps
  refine va_upn (by decide) ?_
  refine (eSn_off (by decide) (by decide)).trans ?_
  refine va_upn (by decide) ?_
  unfold eSnaps
  refine va_upn (by decide) ?_
  unfold eSn
  refine va_upn (by decide) ?_
  refine va_upn (by decide) ?_
  refine va_upn (by decide) ?_
  refine va_upn (by decide) ?_
  refine va_upn (by decide) ?_
  refine va_upn (by decide) ?_
  refine va_upn (by decide) ?_
  exact va_ups.trans rfl
theorem we_149 (b : Nat) (D : va_G) (AI : FieldType → ClassId) : wEnd (wGm b D AI) 149 = wE (wGm b D AI) wS0 149 (.inl (.int, 9, 0, 0)) := by
  unfold wEnd
  refine va_upn (by decide) ?_
  unfold wEb
  refine (eM_off (by decide) (by decide)).trans ?_
  refine va_upn (by decide) ?_
  unfold wEa eW
  unfold eSnaps
  refine va_upn (by decide) ?_
  refine (eSn_off (by decide) (by decide)).trans ?_
  refine va_upn (by decide) ?_
  unfold eSnaps
  refine va_upn (by decide) ?_
  refine (eSn_off (by decide) (by decide)).trans ?_
  refine va_upn (by decide) ?_
  unfold eSnaps
  refine va_upn (by decide) ?_
  unfold eSn
  refine va_upn (by decide) ?_
  refine va_upn (by decide) ?_
  refine va_upn (by decide) ?_
  refine va_upn (by decide) ?_
  refine va_upn (by decide) ?_
  exact va_ups.trans rfl
theorem we_150 (b : Nat) (D : va_G) (AI : FieldType → ClassId) : wEnd (wGm b D AI) 150 = wE (wGm b D AI) wS0 150 (.inl (.int, 3, 0, 0)) := by
  unfold wEnd
  refine va_upn (by decide) ?_
  unfold wEb
  refine (eM_off (by decide) (by decide)).trans ?_
  refine va_upn (by decide) ?_
  unfold wEa eW
  unfold eSnaps
  refine va_upn (by decide) ?_
  refine (eSn_off (by decide) (by decide)).trans ?_
  refine va_upn (by decide) ?_
  unfold eSnaps
  refine va_upn (by decide) ?_
  refine (eSn_off (by decide) (by decide)).trans ?_
  refine va_upn (by decide) ?_
  unfold eSnaps
  refine va_upn (by decide) ?_
  unfold eSn
  refine va_upn (by decide) ?_
  refine va_upn (by decide) ?_
  refine va_upn (by decide) ?_
  exact va_ups.trans rfl
theorem we_151 (b : Nat) (D : va_G) (AI : FieldType → ClassId) : wEnd (wGm b D AI) 151 = wE (wGm b D AI) wS0 151 (.inr (8, [some 152, some 153, some 154, some 155, none, none])) := by
  unfold wEnd
  refine va_upn (by decide) ?_
  unfold wEb
  refine (eM_off (by decide) (by decide)).trans ?_
  refine va_upn (by decide) ?_
  unfold wEa eW
  unfold eSnaps
  refine va_upn (by decide) ?_
  refine (eSn_off (by decide) (by decide)).trans ?_
  refine va_upn (by decide) ?_
  unfold eSnaps
  refine va_upn (by decide) ?_
  unfold eSn
  exact va_ups.trans rfl
theorem we_152 (b : Nat) (D : va_G) (AI : FieldType → ClassId) : wEnd (wGm b D AI) 152 = wE (wGm b D AI) wS0 152 (.inl (.int, 9, 0, 0)) := by
  unfold wEnd
  refine va_upn (by decide) ?_
  unfold wEb
  refine (eM_off (by decide) (by decide)).trans ?_
  refine va_upn (by decide) ?_
  unfold wEa eW
  unfold eSnaps
  refine va_upn (by decide) ?_
  refine (eSn_off (by decide) (by decide)).trans ?_
  refine va_upn (by decide) ?_
  unfold eSnaps
  refine va_upn (by decide) ?_
  unfold eSn
  refine va_upn (by decide) ?_
  refine va_upn (by decide) ?_
  refine va_upn (by decide) ?_
  refine va_upn (by decide) ?_
  refine va_upn (by decide) ?_
  refine va_upn (by decide) ?_
  refine va_upn (by decide) ?_
  refine va_upn (by decide) ?_
  refine va_upn (by decide) ?_
  exact va_ups.trans rfl
theorem we_153 (b : Nat) (D : va_G) (AI : FieldType → ClassId) : wEnd (wGm b D AI) 153 = wE (wGm b D AI) wS0 153 (.inl (.int, 9, 0, 0)) := by
  unfold wEnd
  refine va_upn (by decide) ?_
  unfold wEb
  refine (eM_off (by decide) (by decide)).trans ?_
  refine va_upn (by decide) ?_
  unfold wEa eW
  unfold eSnaps
  refine va_upn (by decide) ?_
  refine (eSn_off (by decide) (by decide)).trans ?_
  refine va_upn (by decide) ?_
  unfold eSnaps
  refine va_upn (by decide) ?_
  unfold eSn
  refine va_upn (by decide) ?_
  refine va_upn (by decide) ?_
  refine va_upn (by decide) ?_
  refine va_upn (by decide) ?_
  refine va_upn (by decide) ?_
  refine va_upn (by decide) ?_
  refine va_upn (by decide) ?_
  exact va_ups.trans rfl
theorem we_154 (b : Nat) (D : va_G) (AI : FieldType → ClassId) : wEnd (wGm b D AI) 154 = wE (wGm b D AI) wS0 154 (.inl (.int, 9, 0, 0)) := by
  unfold wEnd
  refine va_upn (by decide) ?_
  unfold wEb
  refine (eM_off (by decide) (by decide)).trans ?_
  refine va_upn (by decide) ?_
  unfold wEa eW
  unfold eSnaps
  refine va_upn (by decide) ?_
  refine (eSn_off (by decide) (by decide)).trans ?_
  refine va_upn (by decide) ?_
  unfold eSnaps
  refine va_upn (by decide) ?_
  unfold eSn
  refine va_upn (by decide) ?_
  refine va_upn (by decide) ?_
  refine va_upn (by decide) ?_
  refine va_upn (by decide) ?_
  refine va_upn (by decide) ?_
  exact va_ups.trans rfl
theorem we_155 (b : Nat) (D : va_G) (AI : FieldType → ClassId) : wEnd (wGm b D AI) 155 = wE (wGm b D AI) wS0 155 (.inl (.int, 3, 0, 0)) := by
  unfold wEnd
  refine va_upn (by decide) ?_
  unfold wEb
  refine (eM_off (by decide) (by decide)).trans ?_
  refine va_upn (by decide) ?_
  unfold wEa eW
  unfold eSnaps
  refine va_upn (by decide) ?_
  refine (eSn_off (by decide) (by decide)).trans ?_
  refine va_upn (by decide) ?_
  unfold eSnaps
  refine va_upn (by decide) ?_
  unfold eSn
  refine va_upn (by decide) ?_
  refine va_upn (by decide) ?_
  refine va_upn (by decide) ?_
  exact va_ups.trans rfl
theorem we_156 (b : Nat) (D : va_G) (AI : FieldType → ClassId) : wEnd (wGm b D AI) 156 = wE (wGm b D AI) wS0 156 (.inr (8, [some 157, some 158, some 159, some 160, none, none])) := by
  unfold wEnd
  refine va_upn (by decide) ?_
  unfold wEb
  refine (eM_off (by decide) (by decide)).trans ?_
  refine va_upn (by decide) ?_
  unfold wEa eW
  unfold eSnaps
  refine va_upn (by decide) ?_
  unfold eSn
  exact va_ups.trans rfl
theorem we_157 (b : Nat) (D : va_G) (AI : FieldType → ClassId) : wEnd (wGm b D AI) 157 = wE (wGm b D AI) wS0 157 (.inl (.int, 9, 0, 0)) := by
  unfold wEnd
  refine va_upn (by decide) ?_
  unfold wEb
  refine (eM_off (by decide) (by decide)).trans ?_
  refine va_upn (by decide) ?_
  unfold wEa eW
  unfold eSnaps
  refine va_upn (by decide) ?_
  unfold eSn
  refine va_upn (by decide) ?_
  refine va_upn (by decide) ?_
  refine va_upn (by decide) ?_
  refine va_upn (by decide) ?_
  refine va_upn (by decide) ?_
  refine va_upn (by decide) ?_
  refine va_upn (by decide) ?_
  refine va_upn (by decide) ?_
  refine va_upn (by decide) ?_
  exact va_ups.trans rfl
theorem we_158 (b : Nat) (D : va_G) (AI : FieldType → ClassId) : wEnd (wGm b D AI) 158 = wE (wGm b D AI) wS0 158 (.inl (.int, 9, 0, 0)) := by
  unfold wEnd
  refine va_upn (by decide) ?_
  unfold wEb
  refine (eM_off (by decide) (by decide)).trans ?_
  refine va_upn (by decide) ?_
  unfold wEa eW
  unfold eSnaps
  refine va_upn (by decide) ?_
  unfold eSn
  refine va_upn (by decide) ?_
  refine va_upn (by decide) ?_
  refine va_upn (by decide) ?_
  refine va_upn (by decide) ?_
  refine va_upn (by decide) ?_
  refine va_upn (by decide) ?_
  refine va_upn (by decide) ?_
  exact va_ups.trans rfl
theorem we_159 (b : Nat) (D : va_G) (AI : FieldType → ClassId) : wEnd (wGm b D AI) 159 = wE (wGm b D AI) wS0 159 (.inl (.int, 9, 0, 0)) := by
  unfold wEnd
  refine va_upn (by decide) ?_
  unfold wEb
  refine (eM_off (by decide) (by decide)).trans ?_
  refine va_upn (by decide) ?_
  unfold wEa eW
  unfold eSnaps
  refine va_upn (by decide) ?_
  unfold eSn
  refine va_upn (by decide) ?_
  refine va_upn (by decide) ?_
  refine va_upn (by decide) ?_
  refine va_upn (by decide) ?_
  refine va_upn (by decide) ?_
  exact va_ups.trans rfl
theorem we_160 (b : Nat) (D : va_G) (AI : FieldType → ClassId) : wEnd (wGm b D AI) 160 = wE (wGm b D AI) wS0 160 (.inl (.int, 3, 0, 0)) := by
  unfold wEnd
  refine va_upn (by decide) ?_
  unfold wEb
  refine (eM_off (by decide) (by decide)).trans ?_
  refine va_upn (by decide) ?_
  unfold wEa eW
  unfold eSnaps
  refine va_upn (by decide) ?_
  unfold eSn
  refine va_upn (by decide) ?_
  refine va_upn (by decide) ?_
  refine va_upn (by decide) ?_
  exact va_ups.trans rfl
theorem wz161 : wS0i 161 = fun _ => 0 := by
  unfold wS0i
  simp
theorem we_161 (b : Nat) (D : va_G) (AI : FieldType → ClassId) : wEnd (wGm b D AI) 161 = wE (wGm b D AI) wS0 161 (.inr (11, [none, none, some 162, none, some 163, some 164, some 165, some 166, some 167, some 168, none, some 169, none, none, none, none, some 170, some 171, some 172, some 173, none, some 174, some 175, some 176, some 177, none, some 178, none, some 179, some 180, some 181, some 182, some 183, some 184, none, none, some 185, none, some 186, some 187, some 188, some 189, some 190, none, some 191, some 192, some 193, some 194, some 195])) := by
  unfold wEnd
  refine va_upn (by decide) ?_
  unfold wEb
  unfold eM
  refine va_ups.trans ?_
  simp [wE, wFs, wFv, wS0, wz161, List.mapIdx_cons]
theorem we_162 (b : Nat) (D : va_G) (AI : FieldType → ClassId) : wEnd (wGm b D AI) 162 = wE (wGm b D AI) wS0 162 (.inl (.int, 24, 0, 0)) := by
  unfold wEnd
  refine va_upn (by decide) ?_
  unfold wEb
  unfold eM
  refine va_upn (by decide) ?_
  refine va_upn (by decide) ?_
  refine va_upn (by decide) ?_
  refine va_upn (by decide) ?_
  refine va_upn (by decide) ?_
  refine va_upn (by decide) ?_
  refine va_upn (by decide) ?_
  refine va_upn (by decide) ?_
  refine va_upn (by decide) ?_
  refine va_upn (by decide) ?_
  refine va_upn (by decide) ?_
  refine va_upn (by decide) ?_
  refine va_upn (by decide) ?_
  refine va_upn (by decide) ?_
  refine va_upn (by decide) ?_
  refine va_upn (by decide) ?_
  refine va_upn (by decide) ?_
  refine va_upn (by decide) ?_
  refine va_upn (by decide) ?_
  refine va_upn (by decide) ?_
  refine va_upn (by decide) ?_
  refine va_upn (by decide) ?_
  refine va_upn (by decide) ?_
  refine va_upn (by decide) ?_
  refine va_upn (by decide) ?_
  refine va_upn (by decide) ?_
  refine va_upn (by decide) ?_
  refine va_upn (by decide) ?_
  refine va_upn (by decide) ?_
  refine va_upn (by decide) ?_
  refine va_upn (by decide) ?_
  refine va_upn (by decide) ?_
  refine va_upn (by decide) ?_
  refine va_upn (by decide) ?_
  refine va_upn (by decide) ?_
  refine va_upn (by decide) ?_
  refine va_upn (by decide) ?_
  refine va_upn (by decide) ?_
  refine va_upn (by decide) ?_
  refine va_upn (by decide) ?_
  refine va_upn (by decide) ?_
  refine va_upn (by decide) ?_
  refine va_upn (by decide) ?_
  refine va_upn (by decide) ?_
  refine va_upn (by decide) ?_
  refine va_upn (by decide) ?_
  refine va_upn (by decide) ?_
  refine va_upn (by decide) ?_
  refine va_upn (by decide) ?_
  refine va_upn (by decide) ?_
  refine va_upn (by decide) ?_
  refine va_upn (by decide) ?_
  refine va_upn (by decide) ?_
  refine va_upn (by decide) ?_
  refine va_upn (by decide) ?_
  refine va_upn (by decide) ?_
  refine va_upn (by decide) ?_
  refine va_upn (by decide) ?_
  refine va_upn (by decide) ?_
  refine va_upn (by decide) ?_
  refine va_upn (by decide) ?_
  refine va_upn (by decide) ?_
  refine va_upn (by decide) ?_
  refine va_upn (by decide) ?_
  refine va_upn (by decide) ?_
  refine va_upn (by decide) ?_
  refine va_upn (by decide) ?_
  refine va_upn (by decide) ?_
  refine va_upn (by decide) ?_
  refine va_upn (by decide) ?_
  exact va_ups.trans rfl
theorem we_163 (b : Nat) (D : va_G) (AI : FieldType → ClassId) : wEnd (wGm b D AI) 163 = wE (wGm b D AI) wS0 163 (.inl (.int, 9, 0, 0)) := by
  unfold wEnd
  refine va_upn (by decide) ?_
  unfold wEb
  unfold eM
  refine va_upn (by decide) ?_
  refine va_upn (by decide) ?_
  refine va_upn (by decide) ?_
  refine va_upn (by decide) ?_
  refine va_upn (by decide) ?_
  refine va_upn (by decide) ?_
  refine va_upn (by decide) ?_
  refine va_upn (by decide) ?_
  refine va_upn (by decide) ?_
  refine va_upn (by decide) ?_
  refine va_upn (by decide) ?_
  refine va_upn (by decide) ?_
  refine va_upn (by decide) ?_
  refine va_upn (by decide) ?_
  refine va_upn (by decide) ?_
  refine va_upn (by decide) ?_
  refine va_upn (by decide) ?_
  refine va_upn (by decide) ?_
  refine va_upn (by decide) ?_
  refine va_upn (by decide) ?_
  refine va_upn (by decide) ?_
  refine va_upn (by decide) ?_
  refine va_upn (by decide) ?_
  refine va_upn (by decide) ?_
  refine va_upn (by decide) ?_
  refine va_upn (by decide) ?_
  refine va_upn (by decide) ?_
  refine va_upn (by decide) ?_
  refine va_upn (by decide) ?_
  refine va_upn (by decide) ?_
  refine va_upn (by decide) ?_
  refine va_upn (by decide) ?_
  refine va_upn (by decide) ?_
  refine va_upn (by decide) ?_
  refine va_upn (by decide) ?_
  refine va_upn (by decide) ?_
  refine va_upn (by decide) ?_
  refine va_upn (by decide) ?_
  refine va_upn (by decide) ?_
  refine va_upn (by decide) ?_
  refine va_upn (by decide) ?_
  refine va_upn (by decide) ?_
  refine va_upn (by decide) ?_
  refine va_upn (by decide) ?_
  refine va_upn (by decide) ?_
  refine va_upn (by decide) ?_
  refine va_upn (by decide) ?_
  refine va_upn (by decide) ?_
  refine va_upn (by decide) ?_
  refine va_upn (by decide) ?_
  refine va_upn (by decide) ?_
  refine va_upn (by decide) ?_
  refine va_upn (by decide) ?_
  refine va_upn (by decide) ?_
  refine va_upn (by decide) ?_
  refine va_upn (by decide) ?_
  refine va_upn (by decide) ?_
  refine va_upn (by decide) ?_
  refine va_upn (by decide) ?_
  refine va_upn (by decide) ?_
  refine va_upn (by decide) ?_
  refine va_upn (by decide) ?_
  refine va_upn (by decide) ?_
  refine va_upn (by decide) ?_
  refine va_upn (by decide) ?_
  refine va_upn (by decide) ?_
  refine va_upn (by decide) ?_
  refine va_upn (by decide) ?_
  exact va_ups.trans rfl
theorem we_164 (b : Nat) (D : va_G) (AI : FieldType → ClassId) : wEnd (wGm b D AI) 164 = wE (wGm b D AI) wS0 164 (.inl (.int, 9, 0, 0)) := by
  unfold wEnd
  refine va_upn (by decide) ?_
  unfold wEb
  unfold eM
  refine va_upn (by decide) ?_
  refine va_upn (by decide) ?_
  refine va_upn (by decide) ?_
  refine va_upn (by decide) ?_
  refine va_upn (by decide) ?_
  refine va_upn (by decide) ?_
  refine va_upn (by decide) ?_
  refine va_upn (by decide) ?_
  refine va_upn (by decide) ?_
  refine va_upn (by decide) ?_
  refine va_upn (by decide) ?_
  refine va_upn (by decide) ?_
  refine va_upn (by decide) ?_
  refine va_upn (by decide) ?_
  refine va_upn (by decide) ?_
  refine va_upn (by decide) ?_
  refine va_upn (by decide) ?_
  refine va_upn (by decide) ?_
  refine va_upn (by decide) ?_
  refine va_upn (by decide) ?_
  refine va_upn (by decide) ?_
  refine va_upn (by decide) ?_
  refine va_upn (by decide) ?_
  refine va_upn (by decide) ?_
  refine va_upn (by decide) ?_
  refine va_upn (by decide) ?_
  refine va_upn (by decide) ?_
  refine va_upn (by decide) ?_
  refine va_upn (by decide) ?_
  refine va_upn (by decide) ?_
  refine va_upn (by decide) ?_
  refine va_upn (by decide) ?_
  refine va_upn (by decide) ?_
  refine va_upn (by decide) ?_
  refine va_upn (by decide) ?_
  refine va_upn (by decide) ?_
  refine va_upn (by decide) ?_
  refine va_upn (by decide) ?_
  refine va_upn (by decide) ?_
  refine va_upn (by decide) ?_
  refine va_upn (by decide) ?_
  refine va_upn (by decide) ?_
  refine va_upn (by decide) ?_
  refine va_upn (by decide) ?_
  refine va_upn (by decide) ?_
  refine va_upn (by decide) ?_
  refine va_upn (by decide) ?_
  refine va_upn (by decide) ?_
  refine va_upn (by decide) ?_
  refine va_upn (by decide) ?_
  refine va_upn (by decide) ?_
  refine va_upn (by decide) ?_
  refine va_upn (by decide) ?_
  refine va_upn (by decide) ?_
  refine va_upn (by decide) ?_
  refine va_upn (by decide) ?_
  refine va_upn (by decide) ?_
  refine va_upn (by decide) ?_
  refine va_upn (by decide) ?_
  refine va_upn (by decide) ?_
  refine va_upn (by decide) ?_
  refine va_upn (by decide) ?_
  refine va_upn (by decide) ?_
  refine va_upn (by decide) ?_
  refine va_upn (by decide) ?_
  refine va_upn (by decide) ?_
  exact va_ups.trans rfl
theorem we_165 (b : Nat) (D : va_G) (AI : FieldType → ClassId) : wEnd (wGm b D AI) 165 = wE (wGm b D AI) wS0 165 (.inl (.int, 9, 0, 0)) := by
  unfold wEnd
  refine va_upn (by decide) ?_
  unfold wEb
  unfold eM
  refine va_upn (by decide) ?_
  refine va_upn (by decide) ?_
  refine va_upn (by decide) ?_
  refine va_upn (by decide) ?_
  refine va_upn (by decide) ?_
  refine va_upn (by decide) ?_
  refine va_upn (by decide) ?_
  refine va_upn (by decide) ?_
  refine va_upn (by decide) ?_
  refine va_upn (by decide) ?_
  refine va_upn (by decide) ?_
  refine va_upn (by decide) ?_
  refine va_upn (by decide) ?_
  refine va_upn (by decide) ?_
  refine va_upn (by decide) ?_
  refine va_upn (by decide) ?_
  refine va_upn (by decide) ?_
  refine va_upn (by decide) ?_
  refine va_upn (by decide) ?_
  refine va_upn (by decide) ?_
  refine va_upn (by decide) ?_
  refine va_upn (by decide) ?_
  refine va_upn (by decide) ?_
  refine va_upn (by decide) ?_
  refine va_upn (by decide) ?_
  refine va_upn (by decide) ?_
  refine va_upn (by decide) ?_
  refine va_upn (by decide) ?_
  refine va_upn (by decide) ?_
  refine va_upn (by decide) ?_
  refine va_upn (by decide) ?_
  refine va_upn (by decide) ?_
  refine va_upn (by decide) ?_
  refine va_upn (by decide) ?_
  refine va_upn (by decide) ?_
  refine va_upn (by decide) ?_
  refine va_upn (by decide) ?_
  refine va_upn (by decide) ?_
  refine va_upn (by decide) ?_
  refine va_upn (by decide) ?_
  refine va_upn (by decide) ?_
  refine va_upn (by decide) ?_
  refine va_upn (by decide) ?_
  refine va_upn (by decide) ?_
  refine va_upn (by decide) ?_
  refine va_upn (by decide) ?_
  refine va_upn (by decide) ?_
  refine va_upn (by decide) ?_
  refine va_upn (by decide) ?_
  refine va_upn (by decide) ?_
  refine va_upn (by decide) ?_
  refine va_upn (by decide) ?_
  refine va_upn (by decide) ?_
  refine va_upn (by decide) ?_
  refine va_upn (by decide) ?_
  refine va_upn (by decide) ?_
  refine va_upn (by decide) ?_
  refine va_upn (by decide) ?_
  refine va_upn (by decide) ?_
  refine va_upn (by decide) ?_
  refine va_upn (by decide) ?_
  refine va_upn (by decide) ?_
  refine va_upn (by decide) ?_
  refine va_upn (by decide) ?_
  exact va_ups.trans rfl
theorem we_166 (b : Nat) (D : va_G) (AI : FieldType → ClassId) : wEnd (wGm b D AI) 166 = wE (wGm b D AI) wS0 166 (.inl (.int, 81, 0, 0)) := by
  unfold wEnd
  refine va_upn (by decide) ?_
  unfold wEb
  unfold eM
  refine va_upn (by decide) ?_
  refine va_upn (by decide) ?_
  refine va_upn (by decide) ?_
  refine va_upn (by decide) ?_
  refine va_upn (by decide) ?_
  refine va_upn (by decide) ?_
  refine va_upn (by decide) ?_
  refine va_upn (by decide) ?_
  refine va_upn (by decide) ?_
  refine va_upn (by decide) ?_
  refine va_upn (by decide) ?_
  refine va_upn (by decide) ?_
  refine va_upn (by decide) ?_
  refine va_upn (by decide) ?_
  refine va_upn (by decide) ?_
  refine va_upn (by decide) ?_
  refine va_upn (by decide) ?_
  refine va_upn (by decide) ?_
  refine va_upn (by decide) ?_
  refine va_upn (by decide) ?_
  refine va_upn (by decide) ?_
  refine va_upn (by decide) ?_
  refine va_upn (by decide) ?_
  refine va_upn (by decide) ?_
  refine va_upn (by decide) ?_
  refine va_upn (by decide) ?_
  refine va_upn (by decide) ?_
  refine va_upn (by decide) ?_
  refine va_upn (by decide) ?_
  refine va_upn (by decide) ?_
  refine va_upn (by decide) ?_
  refine va_upn (by decide) ?_
  refine va_upn (by decide) ?_
  refine va_upn (by decide) ?_
  refine va_upn (by decide) ?_
  refine va_upn (by decide) ?_
  refine va_upn (by decide) ?_
  refine va_upn (by decide) ?_
  refine va_upn (by decide) ?_
  refine va_upn (by decide) ?_
  refine va_upn (by decide) ?_
  refine va_upn (by decide) ?_
  refine va_upn (by decide) ?_
  refine va_upn (by decide) ?_
  refine va_upn (by decide) ?_
  refine va_upn (by decide) ?_
  refine va_upn (by decide) ?_
  refine va_upn (by decide) ?_
  refine va_upn (by decide) ?_
  refine va_upn (by decide) ?_
  refine va_upn (by decide) ?_
  refine va_upn (by decide) ?_
  refine va_upn (by decide) ?_
  refine va_upn (by decide) ?_
  refine va_upn (by decide) ?_
  refine va_upn (by decide) ?_
  refine va_upn (by decide) ?_
  refine va_upn (by decide) ?_
  refine va_upn (by decide) ?_
  refine va_upn (by decide) ?_
  refine va_upn (by decide) ?_
  refine va_upn (by decide) ?_
  exact va_ups.trans rfl
theorem we_167 (b : Nat) (D : va_G) (AI : FieldType → ClassId) : wEnd (wGm b D AI) 167 = wE (wGm b D AI) wS0 167 (.inl (.int, 9, 0, 0)) := by
  unfold wEnd
  refine va_upn (by decide) ?_
  unfold wEb
  unfold eM
  refine va_upn (by decide) ?_
  refine va_upn (by decide) ?_
  refine va_upn (by decide) ?_
  refine va_upn (by decide) ?_
  refine va_upn (by decide) ?_
  refine va_upn (by decide) ?_
  refine va_upn (by decide) ?_
  refine va_upn (by decide) ?_
  refine va_upn (by decide) ?_
  refine va_upn (by decide) ?_
  refine va_upn (by decide) ?_
  refine va_upn (by decide) ?_
  refine va_upn (by decide) ?_
  refine va_upn (by decide) ?_
  refine va_upn (by decide) ?_
  refine va_upn (by decide) ?_
  refine va_upn (by decide) ?_
  refine va_upn (by decide) ?_
  refine va_upn (by decide) ?_
  refine va_upn (by decide) ?_
  refine va_upn (by decide) ?_
  refine va_upn (by decide) ?_
  refine va_upn (by decide) ?_
  refine va_upn (by decide) ?_
  refine va_upn (by decide) ?_
  refine va_upn (by decide) ?_
  refine va_upn (by decide) ?_
  refine va_upn (by decide) ?_
  refine va_upn (by decide) ?_
  refine va_upn (by decide) ?_
  refine va_upn (by decide) ?_
  refine va_upn (by decide) ?_
  refine va_upn (by decide) ?_
  refine va_upn (by decide) ?_
  refine va_upn (by decide) ?_
  refine va_upn (by decide) ?_
  refine va_upn (by decide) ?_
  refine va_upn (by decide) ?_
  refine va_upn (by decide) ?_
  refine va_upn (by decide) ?_
  refine va_upn (by decide) ?_
  refine va_upn (by decide) ?_
  refine va_upn (by decide) ?_
  refine va_upn (by decide) ?_
  refine va_upn (by decide) ?_
  refine va_upn (by decide) ?_
  refine va_upn (by decide) ?_
  refine va_upn (by decide) ?_
  refine va_upn (by decide) ?_
  refine va_upn (by decide) ?_
  refine va_upn (by decide) ?_
  refine va_upn (by decide) ?_
  refine va_upn (by decide) ?_
  refine va_upn (by decide) ?_
  refine va_upn (by decide) ?_
  refine va_upn (by decide) ?_
  refine va_upn (by decide) ?_
  refine va_upn (by decide) ?_
  refine va_upn (by decide) ?_
  refine va_upn (by decide) ?_
  exact va_ups.trans rfl
theorem we_168 (b : Nat) (D : va_G) (AI : FieldType → ClassId) : wEnd (wGm b D AI) 168 = wE (wGm b D AI) wS0 168 (.inl (.int, 3, 0, 0)) := by
  unfold wEnd
  refine va_upn (by decide) ?_
  unfold wEb
  unfold eM
  refine va_upn (by decide) ?_
  refine va_upn (by decide) ?_
  refine va_upn (by decide) ?_
  refine va_upn (by decide) ?_
  refine va_upn (by decide) ?_
  refine va_upn (by decide) ?_
  refine va_upn (by decide) ?_
  refine va_upn (by decide) ?_
  refine va_upn (by decide) ?_
  refine va_upn (by decide) ?_
  refine va_upn (by decide) ?_
  refine va_upn (by decide) ?_
  refine va_upn (by decide) ?_
  refine va_upn (by decide) ?_
  refine va_upn (by decide) ?_
  refine va_upn (by decide) ?_
  refine va_upn (by decide) ?_
  refine va_upn (by decide) ?_
  refine va_upn (by decide) ?_
  refine va_upn (by decide) ?_
  refine va_upn (by decide) ?_
  refine va_upn (by decide) ?_
  refine va_upn (by decide) ?_
  refine va_upn (by decide) ?_
  refine va_upn (by decide) ?_
  refine va_upn (by decide) ?_
  refine va_upn (by decide) ?_
  refine va_upn (by decide) ?_
  refine va_upn (by decide) ?_
  refine va_upn (by decide) ?_
  refine va_upn (by decide) ?_
  refine va_upn (by decide) ?_
  refine va_upn (by decide) ?_
  refine va_upn (by decide) ?_
  refine va_upn (by decide) ?_
  refine va_upn (by decide) ?_
  refine va_upn (by decide) ?_
  refine va_upn (by decide) ?_
  refine va_upn (by decide) ?_
  refine va_upn (by decide) ?_
  refine va_upn (by decide) ?_
  refine va_upn (by decide) ?_
  refine va_upn (by decide) ?_
  refine va_upn (by decide) ?_
  refine va_upn (by decide) ?_
  refine va_upn (by decide) ?_
  refine va_upn (by decide) ?_
  refine va_upn (by decide) ?_
  refine va_upn (by decide) ?_
  refine va_upn (by decide) ?_
  refine va_upn (by decide) ?_
  refine va_upn (by decide) ?_
  refine va_upn (by decide) ?_
  refine va_upn (by decide) ?_
  refine va_upn (by decide) ?_
  exact va_ups.trans rfl
theorem we_169 (b : Nat) (D : va_G) (AI : FieldType → ClassId) : wEnd (wGm b D AI) 169 = wE (wGm b D AI) wS0 169 (.inl (.int, 80, 0, 0)) := by
  unfold wEnd
  refine va_upn (by decide) ?_
  unfold wEb
  unfold eM
  refine va_upn (by decide) ?_
  refine va_upn (by decide) ?_
  refine va_upn (by decide) ?_
  refine va_upn (by decide) ?_
  refine va_upn (by decide) ?_
  refine va_upn (by decide) ?_
  refine va_upn (by decide) ?_
  refine va_upn (by decide) ?_
  refine va_upn (by decide) ?_
  refine va_upn (by decide) ?_
  refine va_upn (by decide) ?_
  refine va_upn (by decide) ?_
  refine va_upn (by decide) ?_
  refine va_upn (by decide) ?_
  refine va_upn (by decide) ?_
  refine va_upn (by decide) ?_
  refine va_upn (by decide) ?_
  refine va_upn (by decide) ?_
  refine va_upn (by decide) ?_
  refine va_upn (by decide) ?_
  refine va_upn (by decide) ?_
  refine va_upn (by decide) ?_
  refine va_upn (by decide) ?_
  refine va_upn (by decide) ?_
  refine va_upn (by decide) ?_
  refine va_upn (by decide) ?_
  refine va_upn (by decide) ?_
  refine va_upn (by decide) ?_
  refine va_upn (by decide) ?_
  refine va_upn (by decide) ?_
  refine va_upn (by decide) ?_
  refine va_upn (by decide) ?_
  refine va_upn (by decide) ?_
  refine va_upn (by decide) ?_
  refine va_upn (by decide) ?_
  refine va_upn (by decide) ?_
  refine va_upn (by decide) ?_
  refine va_upn (by decide) ?_
  refine va_upn (by decide) ?_
  refine va_upn (by decide) ?_
  refine va_upn (by decide) ?_
  refine va_upn (by decide) ?_
  refine va_upn (by decide) ?_
  refine va_upn (by decide) ?_
  refine va_upn (by decide) ?_
  refine va_upn (by decide) ?_
  refine va_upn (by decide) ?_
  refine va_upn (by decide) ?_
  refine va_upn (by decide) ?_
  refine va_upn (by decide) ?_
  refine va_upn (by decide) ?_
  refine va_upn (by decide) ?_
  refine va_upn (by decide) ?_
  exact va_ups.trans rfl
theorem we_170 (b : Nat) (D : va_G) (AI : FieldType → ClassId) : wEnd (wGm b D AI) 170 = wE (wGm b D AI) wS0 170 (.inl (.int, 9, 0, 0)) := by
  unfold wEnd
  refine va_upn (by decide) ?_
  unfold wEb
  unfold eM
  refine va_upn (by decide) ?_
  refine va_upn (by decide) ?_
  refine va_upn (by decide) ?_
  refine va_upn (by decide) ?_
  refine va_upn (by decide) ?_
  refine va_upn (by decide) ?_
  refine va_upn (by decide) ?_
  refine va_upn (by decide) ?_
  refine va_upn (by decide) ?_
  refine va_upn (by decide) ?_
  refine va_upn (by decide) ?_
  refine va_upn (by decide) ?_
  refine va_upn (by decide) ?_
  refine va_upn (by decide) ?_
  refine va_upn (by decide) ?_
  refine va_upn (by decide) ?_
  refine va_upn (by decide) ?_
  refine va_upn (by decide) ?_
  refine va_upn (by decide) ?_
  refine va_upn (by decide) ?_
  refine va_upn (by decide) ?_
  refine va_upn (by decide) ?_
  refine va_upn (by decide) ?_
  refine va_upn (by decide) ?_
  refine va_upn (by decide) ?_
  refine va_upn (by decide) ?_
  refine va_upn (by decide) ?_
  refine va_upn (by decide) ?_
  refine va_upn (by decide) ?_
  refine va_upn (by decide) ?_
  refine va_upn (by decide) ?_
  refine va_upn (by decide) ?_
  refine va_upn (by decide) ?_
  refine va_upn (by decide) ?_
  refine va_upn (by decide) ?_
  refine va_upn (by decide) ?_
  refine va_upn (by decide) ?_
  refine va_upn (by decide) ?_
  refine va_upn (by decide) ?_
  refine va_upn (by decide) ?_
  refine va_upn (by decide) ?_
  refine va_upn (by decide) ?_
  refine va_upn (by decide) ?_
  refine va_upn (by decide) ?_
  refine va_upn (by decide) ?_
  refine va_upn (by decide) ?_
  refine va_upn (by decide) ?_
  refine va_upn (by decide) ?_
  refine va_upn (by decide) ?_
  refine va_upn (by decide) ?_
  refine va_upn (by decide) ?_
  exact va_ups.trans rfl
theorem we_171 (b : Nat) (D : va_G) (AI : FieldType → ClassId) : wEnd (wGm b D AI) 171 = wE (wGm b D AI) wS0 171 (.inl (.int, 9, 0, 0)) := by
  unfold wEnd
  refine va_upn (by decide) ?_
  unfold wEb
  unfold eM
  refine va_upn (by decide) ?_
  refine va_upn (by decide) ?_
  refine va_upn (by decide) ?_
  refine va_upn (by decide) ?_
  refine va_upn (by decide) ?_
  refine va_upn (by decide) ?_
  refine va_upn (by decide) ?_
  refine va_upn (by decide) ?_
  refine va_upn (by decide) ?_
  refine va_upn (by decide) ?_
  refine va_upn (by decide) ?_
  refine va_upn (by decide) ?_
  refine va_upn (by decide) ?_
  refine va_upn (by decide) ?_
  refine va_upn (by decide) ?_
  refine va_upn (by decide) ?_
  refine va_upn (by decide) ?_
  refine va_upn (by decide) ?_
  refine va_upn (by decide) ?_
  refine va_upn (by decide) ?_
  refine va_upn (by decide) ?_
  refine va_upn (by decide) ?_
  refine va_upn (by decide) ?_
  refine va_upn (by decide) ?_
  refine va_upn (by decide) ?_
  refine va_upn (by decide) ?_
  refine va_upn (by decide) ?_
  refine va_upn (by decide) ?_
  refine va_upn (by decide) ?_
  refine va_upn (by decide) ?_
  refine va_upn (by decide) ?_
  refine va_upn (by decide) ?_
  refine va_upn (by decide) ?_
  refine va_upn (by decide) ?_
  refine va_upn (by decide) ?_
  refine va_upn (by decide) ?_
  refine va_upn (by decide) ?_
  refine va_upn (by decide) ?_
  refine va_upn (by decide) ?_
  refine va_upn (by decide) ?_
  refine va_upn (by decide) ?_
  refine va_upn (by decide) ?_
  refine va_upn (by decide) ?_
  refine va_upn (by decide) ?_
  refine va_upn (by decide) ?_
  refine va_upn (by decide) ?_
  refine va_upn (by decide) ?_
  refine va_upn (by decide) ?_
  refine va_upn (by decide) ?_
  exact va_ups.trans rfl
theorem we_172 (b : Nat) (D : va_G) (AI : FieldType → ClassId) : wEnd (wGm b D AI) 172 = wE (wGm b D AI) wS0 172 (.inl (.int, 9, 0, 0)) := by
  unfold wEnd
  refine va_upn (by decide) ?_
  unfold wEb
  unfold eM
  refine va_upn (by decide) ?_
  refine va_upn (by decide) ?_
  refine va_upn (by decide) ?_
  refine va_upn (by decide) ?_
  refine va_upn (by decide) ?_
  refine va_upn (by decide) ?_
  refine va_upn (by decide) ?_
  refine va_upn (by decide) ?_
  refine va_upn (by decide) ?_
  refine va_upn (by decide) ?_
  refine va_upn (by decide) ?_
  refine va_upn (by decide) ?_
  refine va_upn (by decide) ?_
  refine va_upn (by decide) ?_
  refine va_upn (by decide) ?_
  refine va_upn (by decide) ?_
  refine va_upn (by decide) ?_
  refine va_upn (by decide) ?_
  refine va_upn (by decide) ?_
  refine va_upn (by decide) ?_
  refine va_upn (by decide) ?_
  refine va_upn (by decide) ?_
  refine va_upn (by decide) ?_
  refine va_upn (by decide) ?_
  refine va_upn (by decide) ?_
  refine va_upn (by decide) ?_
  refine va_upn (by decide) ?_
  refine va_upn (by decide) ?_
  refine va_upn (by decide) ?_
  refine va_upn (by decide) ?_
  refine va_upn (by decide) ?_
  refine va_upn (by decide) ?_
  refine va_upn (by decide) ?_
  refine va_upn (by decide) ?_
  refine va_upn (by decide) ?_
  refine va_upn (by decide) ?_
  refine va_upn (by decide) ?_
  refine va_upn (by decide) ?_
  refine va_upn (by decide) ?_
  refine va_upn (by decide) ?_
  refine va_upn (by decide) ?_
  refine va_upn (by decide) ?_
  refine va_upn (by decide) ?_
  refine va_upn (by decide) ?_
  refine va_upn (by decide) ?_
  refine va_upn (by decide) ?_
  refine va_upn (by decide) ?_
  exact va_ups.trans rfl
theorem we_173 (b : Nat) (D : va_G) (AI : FieldType → ClassId) : wEnd (wGm b D AI) 173 = wE (wGm b D AI) wS0 173 (.inl (.int, 81, 0, 0)) := by
  unfold wEnd
  refine va_upn (by decide) ?_
  unfold wEb
  unfold eM
  refine va_upn (by decide) ?_
  refine va_upn (by decide) ?_
  refine va_upn (by decide) ?_
  refine va_upn (by decide) ?_
  refine va_upn (by decide) ?_
  refine va_upn (by decide) ?_
  refine va_upn (by decide) ?_
  refine va_upn (by decide) ?_
  refine va_upn (by decide) ?_
  refine va_upn (by decide) ?_
  refine va_upn (by decide) ?_
  refine va_upn (by decide) ?_
  refine va_upn (by decide) ?_
  refine va_upn (by decide) ?_
  refine va_upn (by decide) ?_
  refine va_upn (by decide) ?_
  refine va_upn (by decide) ?_
  refine va_upn (by decide) ?_
  refine va_upn (by decide) ?_
  refine va_upn (by decide) ?_
  refine va_upn (by decide) ?_
  refine va_upn (by decide) ?_
  refine va_upn (by decide) ?_
  refine va_upn (by decide) ?_
  refine va_upn (by decide) ?_
  refine va_upn (by decide) ?_
  refine va_upn (by decide) ?_
  refine va_upn (by decide) ?_
  refine va_upn (by decide) ?_
  refine va_upn (by decide) ?_
  refine va_upn (by decide) ?_
  refine va_upn (by decide) ?_
  refine va_upn (by decide) ?_
  refine va_upn (by decide) ?_
  refine va_upn (by decide) ?_
  refine va_upn (by decide) ?_
  refine va_upn (by decide) ?_
  refine va_upn (by decide) ?_
  refine va_upn (by decide) ?_
  refine va_upn (by decide) ?_
  refine va_upn (by decide) ?_
  refine va_upn (by decide) ?_
  refine va_upn (by decide) ?_
  refine va_upn (by decide) ?_
  refine va_upn (by decide) ?_
  exact va_ups.trans rfl
theorem we_174 (b : Nat) (D : va_G) (AI : FieldType → ClassId) : wEnd (wGm b D AI) 174 = wE (wGm b D AI) wS0 174 (.inl (.int, 399, 0, 0)) := by
  unfold wEnd
  refine va_upn (by decide) ?_
  unfold wEb
  unfold eM
  refine va_upn (by decide) ?_
  refine va_upn (by decide) ?_
  refine va_upn (by decide) ?_
  refine va_upn (by decide) ?_
  refine va_upn (by decide) ?_
  refine va_upn (by decide) ?_
  refine va_upn (by decide) ?_
  refine va_upn (by decide) ?_
  refine va_upn (by decide) ?_
  refine va_upn (by decide) ?_
  refine va_upn (by decide) ?_
  refine va_upn (by decide) ?_
  refine va_upn (by decide) ?_
  refine va_upn (by decide) ?_
  refine va_upn (by decide) ?_
  refine va_upn (by decide) ?_
  refine va_upn (by decide) ?_
  refine va_upn (by decide) ?_
  refine va_upn (by decide) ?_
  refine va_upn (by decide) ?_
  refine va_upn (by decide) ?_
  refine va_upn (by decide) ?_
  refine va_upn (by decide) ?_
  refine va_upn (by decide) ?_
  refine va_upn (by decide) ?_
  refine va_upn (by decide) ?_
  refine va_upn (by decide) ?_
  refine va_upn (by decide) ?_
  refine va_upn (by decide) ?_
  refine va_upn (by decide) ?_
  refine va_upn (by decide) ?_
  refine va_upn (by decide) ?_
  refine va_upn (by decide) ?_
  refine va_upn (by decide) ?_
  refine va_upn (by decide) ?_
  refine va_upn (by decide) ?_
  refine va_upn (by decide) ?_
  refine va_upn (by decide) ?_
  refine va_upn (by decide) ?_
  refine va_upn (by decide) ?_
  refine va_upn (by decide) ?_
  refine va_upn (by decide) ?_
  refine va_upn (by decide) ?_
  exact va_ups.trans rfl
theorem we_175 (b : Nat) (D : va_G) (AI : FieldType → ClassId) : wEnd (wGm b D AI) 175 = wE (wGm b D AI) wS0 175 (.inl (.int, 16, 0, 0)) := by
  unfold wEnd
  refine va_upn (by decide) ?_
  unfold wEb
  unfold eM
  refine va_upn (by decide) ?_
  refine va_upn (by decide) ?_
  refine va_upn (by decide) ?_
  refine va_upn (by decide) ?_
  refine va_upn (by decide) ?_
  refine va_upn (by decide) ?_
  refine va_upn (by decide) ?_
  refine va_upn (by decide) ?_
  refine va_upn (by decide) ?_
  refine va_upn (by decide) ?_
  refine va_upn (by decide) ?_
  refine va_upn (by decide) ?_
  refine va_upn (by decide) ?_
  refine va_upn (by decide) ?_
  refine va_upn (by decide) ?_
  refine va_upn (by decide) ?_
  refine va_upn (by decide) ?_
  refine va_upn (by decide) ?_
  refine va_upn (by decide) ?_
  refine va_upn (by decide) ?_
  refine va_upn (by decide) ?_
  refine va_upn (by decide) ?_
  refine va_upn (by decide) ?_
  refine va_upn (by decide) ?_
  refine va_upn (by decide) ?_
  refine va_upn (by decide) ?_
  refine va_upn (by decide) ?_
  refine va_upn (by decide) ?_
  refine va_upn (by decide) ?_
  refine va_upn (by decide) ?_
  refine va_upn (by decide) ?_
  refine va_upn (by decide) ?_
  refine va_upn (by decide) ?_
  refine va_upn (by decide) ?_
  refine va_upn (by decide) ?_
  refine va_upn (by decide) ?_
  refine va_upn (by decide) ?_
  refine va_upn (by decide) ?_
  refine va_upn (by decide) ?_
  refine va_upn (by decide) ?_
  refine va_upn (by decide) ?_
  exact va_ups.trans rfl
theorem we_176 (b : Nat) (D : va_G) (AI : FieldType → ClassId) : wEnd (wGm b D AI) 176 = wE (wGm b D AI) wS0 176 (.inl (.int, 16, 0, 0)) := by
  unfold wEnd
  refine va_upn (by decide) ?_
  unfold wEb
  unfold eM
  refine va_upn (by decide) ?_
  refine va_upn (by decide) ?_
  refine va_upn (by decide) ?_
  refine va_upn (by decide) ?_
  refine va_upn (by decide) ?_
  refine va_upn (by decide) ?_
  refine va_upn (by decide) ?_
  refine va_upn (by decide) ?_
  refine va_upn (by decide) ?_
  refine va_upn (by decide) ?_
  refine va_upn (by decide) ?_
  refine va_upn (by decide) ?_
  refine va_upn (by decide) ?_
  refine va_upn (by decide) ?_
  refine va_upn (by decide) ?_
  refine va_upn (by decide) ?_
  refine va_upn (by decide) ?_
  refine va_upn (by decide) ?_
  refine va_upn (by decide) ?_
  refine va_upn (by decide) ?_
  refine va_upn (by decide) ?_
  refine va_upn (by decide) ?_
  refine va_upn (by decide) ?_
  refine va_upn (by decide) ?_
  refine va_upn (by decide) ?_
  refine va_upn (by decide) ?_
  refine va_upn (by decide) ?_
  refine va_upn (by decide) ?_
  refine va_upn (by decide) ?_
  refine va_upn (by decide) ?_
  refine va_upn (by decide) ?_
  refine va_upn (by decide) ?_
  refine va_upn (by decide) ?_
  refine va_upn (by decide) ?_
  refine va_upn (by decide) ?_
  refine va_upn (by decide) ?_
  refine va_upn (by decide) ?_
  refine va_upn (by decide) ?_
  refine va_upn (by decide) ?_
  exact va_ups.trans rfl
theorem we_177 (b : Nat) (D : va_G) (AI : FieldType → ClassId) : wEnd (wGm b D AI) 177 = wE (wGm b D AI) wS0 177 (.inl (.int, 16, 0, 0)) := by
  unfold wEnd
  refine va_upn (by decide) ?_
  unfold wEb
  unfold eM
  refine va_upn (by decide) ?_
  refine va_upn (by decide) ?_
  refine va_upn (by decide) ?_
  refine va_upn (by decide) ?_
  refine va_upn (by decide) ?_
  refine va_upn (by decide) ?_
  refine va_upn (by decide) ?_
  refine va_upn (by decide) ?_
  refine va_upn (by decide) ?_
  refine va_upn (by decide) ?_
  refine va_upn (by decide) ?_
  refine va_upn (by decide) ?_
  refine va_upn (by decide) ?_
  refine va_upn (by decide) ?_
  refine va_upn (by decide) ?_
  refine va_upn (by decide) ?_
  refine va_upn (by decide) ?_
  refine va_upn (by decide) ?_
  refine va_upn (by decide) ?_
  refine va_upn (by decide) ?_
  refine va_upn (by decide) ?_
  refine va_upn (by decide) ?_
  refine va_upn (by decide) ?_
  refine va_upn (by decide) ?_
  refine va_upn (by decide) ?_
  refine va_upn (by decide) ?_
  refine va_upn (by decide) ?_
  refine va_upn (by decide) ?_
  refine va_upn (by decide) ?_
  refine va_upn (by decide) ?_
  refine va_upn (by decide) ?_
  refine va_upn (by decide) ?_
  refine va_upn (by decide) ?_
  refine va_upn (by decide) ?_
  refine va_upn (by decide) ?_
  refine va_upn (by decide) ?_
  refine va_upn (by decide) ?_
  exact va_ups.trans rfl
theorem we_178 (b : Nat) (D : va_G) (AI : FieldType → ClassId) : wEnd (wGm b D AI) 178 = wE (wGm b D AI) wS0 178 (.inl (.int, 9, 0, 0)) := by
  unfold wEnd
  refine va_upn (by decide) ?_
  unfold wEb
  unfold eM
  refine va_upn (by decide) ?_
  refine va_upn (by decide) ?_
  refine va_upn (by decide) ?_
  refine va_upn (by decide) ?_
  refine va_upn (by decide) ?_
  refine va_upn (by decide) ?_
  refine va_upn (by decide) ?_
  refine va_upn (by decide) ?_
  refine va_upn (by decide) ?_
  refine va_upn (by decide) ?_
  refine va_upn (by decide) ?_
  refine va_upn (by decide) ?_
  refine va_upn (by decide) ?_
  refine va_upn (by decide) ?_
  refine va_upn (by decide) ?_
  refine va_upn (by decide) ?_
  refine va_upn (by decide) ?_
  refine va_upn (by decide) ?_
  refine va_upn (by decide) ?_
  refine va_upn (by decide) ?_
  refine va_upn (by decide) ?_
  refine va_upn (by decide) ?_
  refine va_upn (by decide) ?_
  refine va_upn (by decide) ?_
  refine va_upn (by decide) ?_
  refine va_upn (by decide) ?_
  refine va_upn (by decide) ?_
  refine va_upn (by decide) ?_
  refine va_upn (by decide) ?_
  refine va_upn (by decide) ?_
  refine va_upn (by decide) ?_
  refine va_upn (by decide) ?_
  refine va_upn (by decide) ?_
  refine va_upn (by decide) ?_
  refine va_upn (by decide) ?_
  exact va_ups.trans rfl
theorem we_179 (b : Nat) (D : va_G) (AI : FieldType → ClassId) : wEnd (wGm b D AI) 179 = wE (wGm b D AI) wS0 179 (.inl (.long, 3000, 0, 0)) := by
  unfold wEnd
  refine va_upn (by decide) ?_
  unfold wEb
  unfold eM
  refine va_upn (by decide) ?_
  refine va_upn (by decide) ?_
  refine va_upn (by decide) ?_
  refine va_upn (by decide) ?_
  refine va_upn (by decide) ?_
  refine va_upn (by decide) ?_
  refine va_upn (by decide) ?_
  refine va_upn (by decide) ?_
  refine va_upn (by decide) ?_
  refine va_upn (by decide) ?_
  refine va_upn (by decide) ?_
  refine va_upn (by decide) ?_
  refine va_upn (by decide) ?_
  refine va_upn (by decide) ?_
  refine va_upn (by decide) ?_
  refine va_upn (by decide) ?_
  refine va_upn (by decide) ?_
  refine va_upn (by decide) ?_
  refine va_upn (by decide) ?_
  refine va_upn (by decide) ?_
  refine va_upn (by decide) ?_
  refine va_upn (by decide) ?_
  refine va_upn (by decide) ?_
  refine va_upn (by decide) ?_
  refine va_upn (by decide) ?_
  refine va_upn (by decide) ?_
  refine va_upn (by decide) ?_
  refine va_upn (by decide) ?_
  refine va_upn (by decide) ?_
  refine va_upn (by decide) ?_
  refine va_upn (by decide) ?_
  refine va_upn (by decide) ?_
  refine va_upn (by decide) ?_
  exact va_ups.trans rfl
theorem we_180 (b : Nat) (D : va_G) (AI : FieldType → ClassId) : wEnd (wGm b D AI) 180 = wE (wGm b D AI) wS0 180 (.inl (.int, 3000, 0, 0)) := by
  unfold wEnd
  refine va_upn (by decide) ?_
  unfold wEb
  unfold eM
  refine va_upn (by decide) ?_
  refine va_upn (by decide) ?_
  refine va_upn (by decide) ?_
  refine va_upn (by decide) ?_
  refine va_upn (by decide) ?_
  refine va_upn (by decide) ?_
  refine va_upn (by decide) ?_
  refine va_upn (by decide) ?_
  refine va_upn (by decide) ?_
  refine va_upn (by decide) ?_
  refine va_upn (by decide) ?_
  refine va_upn (by decide) ?_
  refine va_upn (by decide) ?_
  refine va_upn (by decide) ?_
  refine va_upn (by decide) ?_
  refine va_upn (by decide) ?_
  refine va_upn (by decide) ?_
  refine va_upn (by decide) ?_
  refine va_upn (by decide) ?_
  refine va_upn (by decide) ?_
  refine va_upn (by decide) ?_
  refine va_upn (by decide) ?_
  refine va_upn (by decide) ?_
  refine va_upn (by decide) ?_
  refine va_upn (by decide) ?_
  refine va_upn (by decide) ?_
  refine va_upn (by decide) ?_
  refine va_upn (by decide) ?_
  refine va_upn (by decide) ?_
  refine va_upn (by decide) ?_
  refine va_upn (by decide) ?_
  exact va_ups.trans rfl
theorem we_181 (b : Nat) (D : va_G) (AI : FieldType → ClassId) : wEnd (wGm b D AI) 181 = wE (wGm b D AI) wS0 181 (.inl (.int, 3000, 0, 0)) := by
  unfold wEnd
  refine va_upn (by decide) ?_
  unfold wEb
  unfold eM
  refine va_upn (by decide) ?_
  refine va_upn (by decide) ?_
  refine va_upn (by decide) ?_
  refine va_upn (by decide) ?_
  refine va_upn (by decide) ?_
  refine va_upn (by decide) ?_
  refine va_upn (by decide) ?_
  refine va_upn (by decide) ?_
  refine va_upn (by decide) ?_
  refine va_upn (by decide) ?_
  refine va_upn (by decide) ?_
  refine va_upn (by decide) ?_
  refine va_upn (by decide) ?_
  refine va_upn (by decide) ?_
  refine va_upn (by decide) ?_
  refine va_upn (by decide) ?_
  refine va_upn (by decide) ?_
  refine va_upn (by decide) ?_
  refine va_upn (by decide) ?_
  refine va_upn (by decide) ?_
  refine va_upn (by decide) ?_
  refine va_upn (by decide) ?_
  refine va_upn (by decide) ?_
  refine va_upn (by decide) ?_
  refine va_upn (by decide) ?_
  refine va_upn (by decide) ?_
  refine va_upn (by decide) ?_
  refine va_upn (by decide) ?_
  refine va_upn (by decide) ?_
  exact va_ups.trans rfl
theorem we_182 (b : Nat) (D : va_G) (AI : FieldType → ClassId) : wEnd (wGm b D AI) 182 = wE (wGm b D AI) wS0 182 (.inl (.int, 3000, 0, 0)) := by
  unfold wEnd
  refine va_upn (by decide) ?_
  unfold wEb
  unfold eM
  refine va_upn (by decide) ?_
  refine va_upn (by decide) ?_
  refine va_upn (by decide) ?_
  refine va_upn (by decide) ?_
  refine va_upn (by decide) ?_
  refine va_upn (by decide) ?_
  refine va_upn (by decide) ?_
  refine va_upn (by decide) ?_
  refine va_upn (by decide) ?_
  refine va_upn (by decide) ?_
  refine va_upn (by decide) ?_
  refine va_upn (by decide) ?_
  refine va_upn (by decide) ?_
  refine va_upn (by decide) ?_
  refine va_upn (by decide) ?_
  refine va_upn (by decide) ?_
  refine va_upn (by decide) ?_
  refine va_upn (by decide) ?_
  refine va_upn (by decide) ?_
  refine va_upn (by decide) ?_
  refine va_upn (by decide) ?_
  refine va_upn (by decide) ?_
  refine va_upn (by decide) ?_
  refine va_upn (by decide) ?_
  refine va_upn (by decide) ?_
  refine va_upn (by decide) ?_
  refine va_upn (by decide) ?_
  exact va_ups.trans rfl
theorem we_183 (b : Nat) (D : va_G) (AI : FieldType → ClassId) : wEnd (wGm b D AI) 183 = wE (wGm b D AI) wS0 183 (.inl (.int, 16384, 0, 0)) := by
  unfold wEnd
  refine va_upn (by decide) ?_
  unfold wEb
  unfold eM
  refine va_upn (by decide) ?_
  refine va_upn (by decide) ?_
  refine va_upn (by decide) ?_
  refine va_upn (by decide) ?_
  refine va_upn (by decide) ?_
  refine va_upn (by decide) ?_
  refine va_upn (by decide) ?_
  refine va_upn (by decide) ?_
  refine va_upn (by decide) ?_
  refine va_upn (by decide) ?_
  refine va_upn (by decide) ?_
  refine va_upn (by decide) ?_
  refine va_upn (by decide) ?_
  refine va_upn (by decide) ?_
  refine va_upn (by decide) ?_
  refine va_upn (by decide) ?_
  refine va_upn (by decide) ?_
  refine va_upn (by decide) ?_
  refine va_upn (by decide) ?_
  refine va_upn (by decide) ?_
  refine va_upn (by decide) ?_
  refine va_upn (by decide) ?_
  refine va_upn (by decide) ?_
  refine va_upn (by decide) ?_
  refine va_upn (by decide) ?_
  exact va_ups.trans rfl
theorem we_184 (b : Nat) (D : va_G) (AI : FieldType → ClassId) : wEnd (wGm b D AI) 184 = wE (wGm b D AI) wS0 184 (.inl (.int, 9, 0, 0)) := by
  unfold wEnd
  refine va_upn (by decide) ?_
  unfold wEb
  unfold eM
  refine va_upn (by decide) ?_
  refine va_upn (by decide) ?_
  refine va_upn (by decide) ?_
  refine va_upn (by decide) ?_
  refine va_upn (by decide) ?_
  refine va_upn (by decide) ?_
  refine va_upn (by decide) ?_
  refine va_upn (by decide) ?_
  refine va_upn (by decide) ?_
  refine va_upn (by decide) ?_
  refine va_upn (by decide) ?_
  refine va_upn (by decide) ?_
  refine va_upn (by decide) ?_
  refine va_upn (by decide) ?_
  refine va_upn (by decide) ?_
  refine va_upn (by decide) ?_
  refine va_upn (by decide) ?_
  refine va_upn (by decide) ?_
  refine va_upn (by decide) ?_
  refine va_upn (by decide) ?_
  refine va_upn (by decide) ?_
  refine va_upn (by decide) ?_
  refine va_upn (by decide) ?_
  exact va_ups.trans rfl
theorem we_185 (b : Nat) (D : va_G) (AI : FieldType → ClassId) : wEnd (wGm b D AI) 185 = wE (wGm b D AI) wS0 185 (.inl (.int, 3000, 0, 0)) := by
  unfold wEnd
  refine va_upn (by decide) ?_
  unfold wEb
  unfold eM
  refine va_upn (by decide) ?_
  refine va_upn (by decide) ?_
  refine va_upn (by decide) ?_
  refine va_upn (by decide) ?_
  refine va_upn (by decide) ?_
  refine va_upn (by decide) ?_
  refine va_upn (by decide) ?_
  refine va_upn (by decide) ?_
  refine va_upn (by decide) ?_
  refine va_upn (by decide) ?_
  refine va_upn (by decide) ?_
  refine va_upn (by decide) ?_
  refine va_upn (by decide) ?_
  refine va_upn (by decide) ?_
  refine va_upn (by decide) ?_
  refine va_upn (by decide) ?_
  refine va_upn (by decide) ?_
  refine va_upn (by decide) ?_
  refine va_upn (by decide) ?_
  refine va_upn (by decide) ?_
  refine va_upn (by decide) ?_
  exact va_ups.trans rfl
theorem we_186 (b : Nat) (D : va_G) (AI : FieldType → ClassId) : wEnd (wGm b D AI) 186 = wE (wGm b D AI) wS0 186 (.inl (.int, 9, 0, 0)) := by
  unfold wEnd
  refine va_upn (by decide) ?_
  unfold wEb
  unfold eM
  refine va_upn (by decide) ?_
  refine va_upn (by decide) ?_
  refine va_upn (by decide) ?_
  refine va_upn (by decide) ?_
  refine va_upn (by decide) ?_
  refine va_upn (by decide) ?_
  refine va_upn (by decide) ?_
  refine va_upn (by decide) ?_
  refine va_upn (by decide) ?_
  refine va_upn (by decide) ?_
  refine va_upn (by decide) ?_
  refine va_upn (by decide) ?_
  refine va_upn (by decide) ?_
  refine va_upn (by decide) ?_
  refine va_upn (by decide) ?_
  refine va_upn (by decide) ?_
  refine va_upn (by decide) ?_
  refine va_upn (by decide) ?_
  refine va_upn (by decide) ?_
  exact va_ups.trans rfl
theorem we_187 (b : Nat) (D : va_G) (AI : FieldType → ClassId) : wEnd (wGm b D AI) 187 = wE (wGm b D AI) wS0 187 (.inl (.int, 9, 0, 0)) := by
  unfold wEnd
  refine va_upn (by decide) ?_
  unfold wEb
  unfold eM
  refine va_upn (by decide) ?_
  refine va_upn (by decide) ?_
  refine va_upn (by decide) ?_
  refine va_upn (by decide) ?_
  refine va_upn (by decide) ?_
  refine va_upn (by decide) ?_
  refine va_upn (by decide) ?_
  refine va_upn (by decide) ?_
  refine va_upn (by decide) ?_
  refine va_upn (by decide) ?_
  refine va_upn (by decide) ?_
  refine va_upn (by decide) ?_
  refine va_upn (by decide) ?_
  refine va_upn (by decide) ?_
  refine va_upn (by decide) ?_
  refine va_upn (by decide) ?_
  refine va_upn (by decide) ?_
  exact va_ups.trans rfl
theorem we_188 (b : Nat) (D : va_G) (AI : FieldType → ClassId) : wEnd (wGm b D AI) 188 = wE (wGm b D AI) wS0 188 (.inl (.int, 9, 0, 0)) := by
  unfold wEnd
  refine va_upn (by decide) ?_
  unfold wEb
  unfold eM
  refine va_upn (by decide) ?_
  refine va_upn (by decide) ?_
  refine va_upn (by decide) ?_
  refine va_upn (by decide) ?_
  refine va_upn (by decide) ?_
  refine va_upn (by decide) ?_
  refine va_upn (by decide) ?_
  refine va_upn (by decide) ?_
  refine va_upn (by decide) ?_
  refine va_upn (by decide) ?_
  refine va_upn (by decide) ?_
  refine va_upn (by decide) ?_
  refine va_upn (by decide) ?_
  refine va_upn (by decide) ?_
  refine va_upn (by decide) ?_
  exact va_ups.trans rfl
theorem we_189 (b : Nat) (D : va_G) (AI : FieldType → ClassId) : wEnd (wGm b D AI) 189 = wE (wGm b D AI) wS0 189 (.inl (.int, 9, 0, 0)) := by
  unfold wEnd
  refine va_upn (by decide) ?_
  unfold wEb
  unfold eM
  refine va_upn (by decide) ?_
  refine va_upn (by decide) ?_
  refine va_upn (by decide) ?_
  refine va_upn (by decide) ?_
  refine va_upn (by decide) ?_
  refine va_upn (by decide) ?_
  refine va_upn (by decide) ?_
  refine va_upn (by decide) ?_
  refine va_upn (by decide) ?_
  refine va_upn (by decide) ?_
  refine va_upn (by decide) ?_
  refine va_upn (by decide) ?_
  refine va_upn (by decide) ?_
  exact va_ups.trans rfl
theorem we_190 (b : Nat) (D : va_G) (AI : FieldType → ClassId) : wEnd (wGm b D AI) 190 = wE (wGm b D AI) wS0 190 (.inl (.int, 9, 0, 0)) := by
  unfold wEnd
  refine va_upn (by decide) ?_
  unfold wEb
  unfold eM
  refine va_upn (by decide) ?_
  refine va_upn (by decide) ?_
  refine va_upn (by decide) ?_
  refine va_upn (by decide) ?_
  refine va_upn (by decide) ?_
  refine va_upn (by decide) ?_
  refine va_upn (by decide) ?_
  refine va_upn (by decide) ?_
  refine va_upn (by decide) ?_
  refine va_upn (by decide) ?_
  refine va_upn (by decide) ?_
  exact va_ups.trans rfl
theorem we_191 (b : Nat) (D : va_G) (AI : FieldType → ClassId) : wEnd (wGm b D AI) 191 = wE (wGm b D AI) wS0 191 (.inl (.int, 10, 0, 0)) := by
  unfold wEnd
  refine va_upn (by decide) ?_
  unfold wEb
  unfold eM
  refine va_upn (by decide) ?_
  refine va_upn (by decide) ?_
  refine va_upn (by decide) ?_
  refine va_upn (by decide) ?_
  refine va_upn (by decide) ?_
  refine va_upn (by decide) ?_
  refine va_upn (by decide) ?_
  refine va_upn (by decide) ?_
  refine va_upn (by decide) ?_
  exact va_ups.trans rfl
theorem we_192 (b : Nat) (D : va_G) (AI : FieldType → ClassId) : wEnd (wGm b D AI) 192 = wE (wGm b D AI) wS0 192 (.inl (.int, 10, 0, 0)) := by
  unfold wEnd
  refine va_upn (by decide) ?_
  unfold wEb
  unfold eM
  refine va_upn (by decide) ?_
  refine va_upn (by decide) ?_
  refine va_upn (by decide) ?_
  refine va_upn (by decide) ?_
  refine va_upn (by decide) ?_
  refine va_upn (by decide) ?_
  refine va_upn (by decide) ?_
  exact va_ups.trans rfl
theorem we_193 (b : Nat) (D : va_G) (AI : FieldType → ClassId) : wEnd (wGm b D AI) 193 = wE (wGm b D AI) wS0 193 (.inl (.int, 777, 0, 0)) := by
  unfold wEnd
  refine va_upn (by decide) ?_
  unfold wEb
  unfold eM
  refine va_upn (by decide) ?_
  refine va_upn (by decide) ?_
  refine va_upn (by decide) ?_
  refine va_upn (by decide) ?_
  refine va_upn (by decide) ?_
  exact va_ups.trans rfl
theorem we_194 (b : Nat) (D : va_G) (AI : FieldType → ClassId) : wEnd (wGm b D AI) 194 = wE (wGm b D AI) wS0 194 (.inl (.boolean, 3, 0, 0)) := by
  unfold wEnd
  refine va_upn (by decide) ?_
  unfold wEb
  unfold eM
  refine va_upn (by decide) ?_
  refine va_upn (by decide) ?_
  refine va_upn (by decide) ?_
  exact va_ups.trans rfl
theorem we_195 (b : Nat) (D : va_G) (AI : FieldType → ClassId) : wEnd (wGm b D AI) 195 = wE (wGm b D AI) wS0 195 (.inl (.int, 96, 0, 0)) := by
  unfold wEnd
  refine va_upn (by decide) ?_
  unfold wEb
  unfold eM
  refine va_upn (by decide) ?_
  exact va_ups.trans rfl
theorem we_196 (b : Nat) (D : va_G) (AI : FieldType → ClassId) : wEnd (wGm b D AI) 196 = wE (wGm b D AI) wS0 196 (.inl (.long, 1, 0, 0)) := by
  unfold wEnd
  exact va_ups.trans rfl
theorem we_35 (b : Nat) (D : va_G) (AI : FieldType → ClassId) : wEnd (wGm b D AI) 35 = .inl (AI wSn, 21, .inr (.inr (.inr (.inr (ringF (wGm b D AI) 36 21))))) := by
  unfold wEnd
  refine va_upn (by decide) ?_
  unfold wEb
  refine (eM_off (by decide) (by decide)).trans ?_
  refine va_upn (by decide) ?_
  unfold wEa eW
  refine (eSnaps_off 3 (by decide) (by decide)).trans ?_
  unfold eW11
  refine va_upn (by decide) ?_
  refine va_upn (by decide) ?_
  unfold eW10
  refine va_upn (by decide) ?_
  refine (eSi_off (by decide) (by decide)).trans ?_
  refine va_upn (by decide) ?_
  unfold eW9
  refine va_upn (by decide) ?_
  refine va_upn (by decide) ?_
  unfold eW8
  refine va_upn (by decide) ?_
  unfold ePa
  exact eSnaps_rg (by unfold ePa0; exact va_upn (by decide) (va_upn (by decide) va_ups)) 21
theorem we_141 (b : Nat) (D : va_G) (AI : FieldType → ClassId) : wEnd (wGm b D AI) 141 = .inl (AI wSn, 3, .inr (.inr (.inr (.inr (ringF (wGm b D AI) 146 3))))) := by
  unfold wEnd
  refine va_upn (by decide) ?_
  unfold wEb
  refine (eM_off (by decide) (by decide)).trans ?_
  refine va_upn (by decide) ?_
  unfold wEa eW
  exact eSnaps_rg (eW_kept11 (by decide)) 3
theorem ring_cell (b m0 n : Nat) (D : va_G) (AI : FieldType → ClassId) : vp_cell (AI wSn) (n, .inr (.inr (.inr (.inr (ringF (wGm b D AI) m0 n))))) = vp_cell (AI wSn) (n, .inr (.inr (.inr (.inr (fun i => some (b + (m0 + 5 * i))))))) := by
  rw [vp_cell_q, vp_cell_q]
  unfold arrV
  congr 1
  congr 1
  funext j
  simp [ringF, j.isLt]
set_option maxHeartbeats 8000000 in
set_option maxRecDepth 100000 in
theorem we_all {b : Nat} {D : va_G} {AI : FieldType → ClassId} {H : Heap} : ∀ (k : Nat) (e : wS), wSh[k]? = some e → va_at D vwCl (b + k, wEnd (wGm b D AI) k) H → va_at D vwCl (b + k, wE (wGm b D AI) wS0 k e) H
  | 0, e, he, h => by
    obtain rfl := Option.some.inj ((rfl : wSh[0]? = some (.inr (10, [some 1, some 3, some 7, some 13, some 23, some 28, some 32, some 34, some 141, some 142, some 145]))).symm.trans he)
    rw [we_0] at h
    exact h
  | 1, e, he, h => by
    obtain rfl := Option.some.inj ((rfl : wSh[1]? = some (.inr (9, [some 2, none]))).symm.trans he)
    rw [we_1] at h
    exact h
  | 2, e, he, h => by
    obtain rfl := Option.some.inj ((rfl : wSh[2]? = some (.inl (.char, 80, 0, 0))).symm.trans he)
    rw [we_2] at h
    exact h
  | 3, e, he, h => by
    obtain rfl := Option.some.inj ((rfl : wSh[3]? = some (.inr (5, [some 4, some 5, some 6, none, none, none, none]))).symm.trans he)
    rw [we_3] at h
    exact h
  | 4, e, he, h => by
    obtain rfl := Option.some.inj ((rfl : wSh[4]? = some (.inl (.int, 40, 0, 0))).symm.trans he)
    rw [we_4] at h
    exact h
  | 5, e, he, h => by
    obtain rfl := Option.some.inj ((rfl : wSh[5]? = some (.inl (.int, 40, 0, 0))).symm.trans he)
    rw [we_5] at h
    exact h
  | 6, e, he, h => by
    obtain rfl := Option.some.inj ((rfl : wSh[6]? = some (.inl (.int, 40, 0, 0))).symm.trans he)
    rw [we_6] at h
    exact h
  | 7, e, he, h => by
    obtain rfl := Option.some.inj ((rfl : wSh[7]? = some (.inr (2, [some 8, some 9, some 10, some 11, none, none, some 12]))).symm.trans he)
    rw [we_7] at h
    exact h
  | 8, e, he, h => by
    obtain rfl := Option.some.inj ((rfl : wSh[8]? = some (.inl (.int, 9, 0, 0))).symm.trans he)
    rw [we_8] at h
    exact h
  | 9, e, he, h => by
    obtain rfl := Option.some.inj ((rfl : wSh[9]? = some (.inl (.int, 9, 0, 0))).symm.trans he)
    rw [we_9] at h
    exact h
  | 10, e, he, h => by
    obtain rfl := Option.some.inj ((rfl : wSh[10]? = some (.inl (.int, 9, 0, 0))).symm.trans he)
    rw [we_10] at h
    exact h
  | 11, e, he, h => by
    obtain rfl := Option.some.inj ((rfl : wSh[11]? = some (.inl (.int, 3, 0, 0))).symm.trans he)
    rw [we_11] at h
    exact h
  | 12, e, he, h => by
    obtain rfl := Option.some.inj ((rfl : wSh[12]? = some (.inl (.int, 81, 0, 0))).symm.trans he)
    rw [we_12] at h
    exact h
  | 13, e, he, h => by
    obtain rfl := Option.some.inj ((rfl : wSh[13]? = some (.inr (0, [some 14, some 15, some 16, some 17, some 18, some 19, none, none, none, some 20, some 21, some 22, none, none]))).symm.trans he)
    rw [we_13] at h
    exact h
  | 14, e, he, h => by
    obtain rfl := Option.some.inj ((rfl : wSh[14]? = some (.inl (.int, 9, 0, 0))).symm.trans he)
    rw [we_14] at h
    exact h
  | 15, e, he, h => by
    obtain rfl := Option.some.inj ((rfl : wSh[15]? = some (.inl (.int, 9, 0, 0))).symm.trans he)
    rw [we_15] at h
    exact h
  | 16, e, he, h => by
    obtain rfl := Option.some.inj ((rfl : wSh[16]? = some (.inl (.int, 9, 0, 0))).symm.trans he)
    rw [we_16] at h
    exact h
  | 17, e, he, h => by
    obtain rfl := Option.some.inj ((rfl : wSh[17]? = some (.inl (.int, 36, 0, 0))).symm.trans he)
    rw [we_17] at h
    exact h
  | 18, e, he, h => by
    obtain rfl := Option.some.inj ((rfl : wSh[18]? = some (.inl (.int, 36, 0, 0))).symm.trans he)
    rw [we_18] at h
    exact h
  | 19, e, he, h => by
    obtain rfl := Option.some.inj ((rfl : wSh[19]? = some (.inl (.int, 36, 0, 0))).symm.trans he)
    rw [we_19] at h
    exact h
  | 20, e, he, h => by
    obtain rfl := Option.some.inj ((rfl : wSh[20]? = some (.inl (.int, 9, 0, 0))).symm.trans he)
    rw [we_20] at h
    exact h
  | 21, e, he, h => by
    obtain rfl := Option.some.inj ((rfl : wSh[21]? = some (.inl (.int, 36, 0, 0))).symm.trans he)
    rw [we_21] at h
    exact h
  | 22, e, he, h => by
    obtain rfl := Option.some.inj ((rfl : wSh[22]? = some (.inl (.int, 9, 0, 0))).symm.trans he)
    rw [we_22] at h
    exact h
  | 23, e, he, h => by
    obtain rfl := Option.some.inj ((rfl : wSh[23]? = some (.inr (6, [some 24, none, some 25, none, some 26, some 27, none, none, none, none, none]))).symm.trans he)
    rw [we_23] at h
    exact h
  | 24, e, he, h => by
    obtain rfl := Option.some.inj ((rfl : wSh[24]? = some (.inl (.long, 3000, 0, 0))).symm.trans he)
    rw [we_24] at h
    exact h
  | 25, e, he, h => by
    obtain rfl := Option.some.inj ((rfl : wSh[25]? = some (.inl (.long, 2048, 0, 0))).symm.trans he)
    rw [we_25] at h
    exact h
  | 26, e, he, h => by
    obtain rfl := Option.some.inj ((rfl : wSh[26]? = some (.inl (.int, 72, 0, 0))).symm.trans he)
    rw [we_26] at h
    exact h
  | 27, e, he, h => by
    obtain rfl := Option.some.inj ((rfl : wSh[27]? = some (.inl (.int, 72, 0, 0))).symm.trans he)
    rw [we_27] at h
    exact h
  | 28, e, he, h => by
    obtain rfl := Option.some.inj ((rfl : wSh[28]? = some (.inr (1, [some 29, some 30, none, some 31]))).symm.trans he)
    rw [we_28] at h
    exact h
  | 29, e, he, h => by
    obtain rfl := Option.some.inj ((rfl : wSh[29]? = some (.inl (.int, 9, 0, 0))).symm.trans he)
    rw [we_29] at h
    exact h
  | 30, e, he, h => by
    obtain rfl := Option.some.inj ((rfl : wSh[30]? = some (.inl (.int, 9, 0, 0))).symm.trans he)
    rw [we_30] at h
    exact h
  | 31, e, he, h => by
    obtain rfl := Option.some.inj ((rfl : wSh[31]? = some (.inl (.int, 9, 0, 0))).symm.trans he)
    rw [we_31] at h
    exact h
  | 32, e, he, h => by
    obtain rfl := Option.some.inj ((rfl : wSh[32]? = some (.inr (3, [some 33, none]))).symm.trans he)
    rw [we_32] at h
    exact h
  | 33, e, he, h => by
    obtain rfl := Option.some.inj ((rfl : wSh[33]? = some (.inl (.int, 10, 0, 0))).symm.trans he)
    rw [we_33] at h
    exact h
  | 34, e, he, h => by
    obtain rfl := Option.some.inj ((rfl : wSh[34]? = some (.inr (4, [none, some 35, none]))).symm.trans he)
    rw [we_34] at h
    exact h
  | 35, e, he, h => by
    obtain rfl := Option.some.inj ((rfl : wSh[35]? = some (.inl (.object "WellsNotEven$Snapshot", 21, 36, 5))).symm.trans he)
    rw [we_35] at h
    exact Eq.trans h (congrArg some (ring_cell b 36 21 D AI))
  | 36, e, he, h => by
    obtain rfl := Option.some.inj ((rfl : wSh[36]? = some (.inr (8, [some 37, some 38, some 39, some 40, none, none]))).symm.trans he)
    rw [we_36] at h
    exact h
  | 37, e, he, h => by
    obtain rfl := Option.some.inj ((rfl : wSh[37]? = some (.inl (.int, 9, 0, 0))).symm.trans he)
    rw [we_37] at h
    exact h
  | 38, e, he, h => by
    obtain rfl := Option.some.inj ((rfl : wSh[38]? = some (.inl (.int, 9, 0, 0))).symm.trans he)
    rw [we_38] at h
    exact h
  | 39, e, he, h => by
    obtain rfl := Option.some.inj ((rfl : wSh[39]? = some (.inl (.int, 9, 0, 0))).symm.trans he)
    rw [we_39] at h
    exact h
  | 40, e, he, h => by
    obtain rfl := Option.some.inj ((rfl : wSh[40]? = some (.inl (.int, 3, 0, 0))).symm.trans he)
    rw [we_40] at h
    exact h
  | 41, e, he, h => by
    obtain rfl := Option.some.inj ((rfl : wSh[41]? = some (.inr (8, [some 42, some 43, some 44, some 45, none, none]))).symm.trans he)
    rw [we_41] at h
    exact h
  | 42, e, he, h => by
    obtain rfl := Option.some.inj ((rfl : wSh[42]? = some (.inl (.int, 9, 0, 0))).symm.trans he)
    rw [we_42] at h
    exact h
  | 43, e, he, h => by
    obtain rfl := Option.some.inj ((rfl : wSh[43]? = some (.inl (.int, 9, 0, 0))).symm.trans he)
    rw [we_43] at h
    exact h
  | 44, e, he, h => by
    obtain rfl := Option.some.inj ((rfl : wSh[44]? = some (.inl (.int, 9, 0, 0))).symm.trans he)
    rw [we_44] at h
    exact h
  | 45, e, he, h => by
    obtain rfl := Option.some.inj ((rfl : wSh[45]? = some (.inl (.int, 3, 0, 0))).symm.trans he)
    rw [we_45] at h
    exact h
  | 46, e, he, h => by
    obtain rfl := Option.some.inj ((rfl : wSh[46]? = some (.inr (8, [some 47, some 48, some 49, some 50, none, none]))).symm.trans he)
    rw [we_46] at h
    exact h
  | 47, e, he, h => by
    obtain rfl := Option.some.inj ((rfl : wSh[47]? = some (.inl (.int, 9, 0, 0))).symm.trans he)
    rw [we_47] at h
    exact h
  | 48, e, he, h => by
    obtain rfl := Option.some.inj ((rfl : wSh[48]? = some (.inl (.int, 9, 0, 0))).symm.trans he)
    rw [we_48] at h
    exact h
  | 49, e, he, h => by
    obtain rfl := Option.some.inj ((rfl : wSh[49]? = some (.inl (.int, 9, 0, 0))).symm.trans he)
    rw [we_49] at h
    exact h
  | 50, e, he, h => by
    obtain rfl := Option.some.inj ((rfl : wSh[50]? = some (.inl (.int, 3, 0, 0))).symm.trans he)
    rw [we_50] at h
    exact h
  | 51, e, he, h => by
    obtain rfl := Option.some.inj ((rfl : wSh[51]? = some (.inr (8, [some 52, some 53, some 54, some 55, none, none]))).symm.trans he)
    rw [we_51] at h
    exact h
  | 52, e, he, h => by
    obtain rfl := Option.some.inj ((rfl : wSh[52]? = some (.inl (.int, 9, 0, 0))).symm.trans he)
    rw [we_52] at h
    exact h
  | 53, e, he, h => by
    obtain rfl := Option.some.inj ((rfl : wSh[53]? = some (.inl (.int, 9, 0, 0))).symm.trans he)
    rw [we_53] at h
    exact h
  | 54, e, he, h => by
    obtain rfl := Option.some.inj ((rfl : wSh[54]? = some (.inl (.int, 9, 0, 0))).symm.trans he)
    rw [we_54] at h
    exact h
  | 55, e, he, h => by
    obtain rfl := Option.some.inj ((rfl : wSh[55]? = some (.inl (.int, 3, 0, 0))).symm.trans he)
    rw [we_55] at h
    exact h
  | 56, e, he, h => by
    obtain rfl := Option.some.inj ((rfl : wSh[56]? = some (.inr (8, [some 57, some 58, some 59, some 60, none, none]))).symm.trans he)
    rw [we_56] at h
    exact h
  | 57, e, he, h => by
    obtain rfl := Option.some.inj ((rfl : wSh[57]? = some (.inl (.int, 9, 0, 0))).symm.trans he)
    rw [we_57] at h
    exact h
  | 58, e, he, h => by
    obtain rfl := Option.some.inj ((rfl : wSh[58]? = some (.inl (.int, 9, 0, 0))).symm.trans he)
    rw [we_58] at h
    exact h
  | 59, e, he, h => by
    obtain rfl := Option.some.inj ((rfl : wSh[59]? = some (.inl (.int, 9, 0, 0))).symm.trans he)
    rw [we_59] at h
    exact h
  | 60, e, he, h => by
    obtain rfl := Option.some.inj ((rfl : wSh[60]? = some (.inl (.int, 3, 0, 0))).symm.trans he)
    rw [we_60] at h
    exact h
  | 61, e, he, h => by
    obtain rfl := Option.some.inj ((rfl : wSh[61]? = some (.inr (8, [some 62, some 63, some 64, some 65, none, none]))).symm.trans he)
    rw [we_61] at h
    exact h
  | 62, e, he, h => by
    obtain rfl := Option.some.inj ((rfl : wSh[62]? = some (.inl (.int, 9, 0, 0))).symm.trans he)
    rw [we_62] at h
    exact h
  | 63, e, he, h => by
    obtain rfl := Option.some.inj ((rfl : wSh[63]? = some (.inl (.int, 9, 0, 0))).symm.trans he)
    rw [we_63] at h
    exact h
  | 64, e, he, h => by
    obtain rfl := Option.some.inj ((rfl : wSh[64]? = some (.inl (.int, 9, 0, 0))).symm.trans he)
    rw [we_64] at h
    exact h
  | 65, e, he, h => by
    obtain rfl := Option.some.inj ((rfl : wSh[65]? = some (.inl (.int, 3, 0, 0))).symm.trans he)
    rw [we_65] at h
    exact h
  | 66, e, he, h => by
    obtain rfl := Option.some.inj ((rfl : wSh[66]? = some (.inr (8, [some 67, some 68, some 69, some 70, none, none]))).symm.trans he)
    rw [we_66] at h
    exact h
  | 67, e, he, h => by
    obtain rfl := Option.some.inj ((rfl : wSh[67]? = some (.inl (.int, 9, 0, 0))).symm.trans he)
    rw [we_67] at h
    exact h
  | 68, e, he, h => by
    obtain rfl := Option.some.inj ((rfl : wSh[68]? = some (.inl (.int, 9, 0, 0))).symm.trans he)
    rw [we_68] at h
    exact h
  | 69, e, he, h => by
    obtain rfl := Option.some.inj ((rfl : wSh[69]? = some (.inl (.int, 9, 0, 0))).symm.trans he)
    rw [we_69] at h
    exact h
  | 70, e, he, h => by
    obtain rfl := Option.some.inj ((rfl : wSh[70]? = some (.inl (.int, 3, 0, 0))).symm.trans he)
    rw [we_70] at h
    exact h
  | 71, e, he, h => by
    obtain rfl := Option.some.inj ((rfl : wSh[71]? = some (.inr (8, [some 72, some 73, some 74, some 75, none, none]))).symm.trans he)
    rw [we_71] at h
    exact h
  | 72, e, he, h => by
    obtain rfl := Option.some.inj ((rfl : wSh[72]? = some (.inl (.int, 9, 0, 0))).symm.trans he)
    rw [we_72] at h
    exact h
  | 73, e, he, h => by
    obtain rfl := Option.some.inj ((rfl : wSh[73]? = some (.inl (.int, 9, 0, 0))).symm.trans he)
    rw [we_73] at h
    exact h
  | 74, e, he, h => by
    obtain rfl := Option.some.inj ((rfl : wSh[74]? = some (.inl (.int, 9, 0, 0))).symm.trans he)
    rw [we_74] at h
    exact h
  | 75, e, he, h => by
    obtain rfl := Option.some.inj ((rfl : wSh[75]? = some (.inl (.int, 3, 0, 0))).symm.trans he)
    rw [we_75] at h
    exact h
  | 76, e, he, h => by
    obtain rfl := Option.some.inj ((rfl : wSh[76]? = some (.inr (8, [some 77, some 78, some 79, some 80, none, none]))).symm.trans he)
    rw [we_76] at h
    exact h
  | 77, e, he, h => by
    obtain rfl := Option.some.inj ((rfl : wSh[77]? = some (.inl (.int, 9, 0, 0))).symm.trans he)
    rw [we_77] at h
    exact h
  | 78, e, he, h => by
    obtain rfl := Option.some.inj ((rfl : wSh[78]? = some (.inl (.int, 9, 0, 0))).symm.trans he)
    rw [we_78] at h
    exact h
  | 79, e, he, h => by
    obtain rfl := Option.some.inj ((rfl : wSh[79]? = some (.inl (.int, 9, 0, 0))).symm.trans he)
    rw [we_79] at h
    exact h
  | 80, e, he, h => by
    obtain rfl := Option.some.inj ((rfl : wSh[80]? = some (.inl (.int, 3, 0, 0))).symm.trans he)
    rw [we_80] at h
    exact h
  | 81, e, he, h => by
    obtain rfl := Option.some.inj ((rfl : wSh[81]? = some (.inr (8, [some 82, some 83, some 84, some 85, none, none]))).symm.trans he)
    rw [we_81] at h
    exact h
  | 82, e, he, h => by
    obtain rfl := Option.some.inj ((rfl : wSh[82]? = some (.inl (.int, 9, 0, 0))).symm.trans he)
    rw [we_82] at h
    exact h
  | 83, e, he, h => by
    obtain rfl := Option.some.inj ((rfl : wSh[83]? = some (.inl (.int, 9, 0, 0))).symm.trans he)
    rw [we_83] at h
    exact h
  | 84, e, he, h => by
    obtain rfl := Option.some.inj ((rfl : wSh[84]? = some (.inl (.int, 9, 0, 0))).symm.trans he)
    rw [we_84] at h
    exact h
  | 85, e, he, h => by
    obtain rfl := Option.some.inj ((rfl : wSh[85]? = some (.inl (.int, 3, 0, 0))).symm.trans he)
    rw [we_85] at h
    exact h
  | 86, e, he, h => by
    obtain rfl := Option.some.inj ((rfl : wSh[86]? = some (.inr (8, [some 87, some 88, some 89, some 90, none, none]))).symm.trans he)
    rw [we_86] at h
    exact h
  | 87, e, he, h => by
    obtain rfl := Option.some.inj ((rfl : wSh[87]? = some (.inl (.int, 9, 0, 0))).symm.trans he)
    rw [we_87] at h
    exact h
  | 88, e, he, h => by
    obtain rfl := Option.some.inj ((rfl : wSh[88]? = some (.inl (.int, 9, 0, 0))).symm.trans he)
    rw [we_88] at h
    exact h
  | 89, e, he, h => by
    obtain rfl := Option.some.inj ((rfl : wSh[89]? = some (.inl (.int, 9, 0, 0))).symm.trans he)
    rw [we_89] at h
    exact h
  | 90, e, he, h => by
    obtain rfl := Option.some.inj ((rfl : wSh[90]? = some (.inl (.int, 3, 0, 0))).symm.trans he)
    rw [we_90] at h
    exact h
  | 91, e, he, h => by
    obtain rfl := Option.some.inj ((rfl : wSh[91]? = some (.inr (8, [some 92, some 93, some 94, some 95, none, none]))).symm.trans he)
    rw [we_91] at h
    exact h
  | 92, e, he, h => by
    obtain rfl := Option.some.inj ((rfl : wSh[92]? = some (.inl (.int, 9, 0, 0))).symm.trans he)
    rw [we_92] at h
    exact h
  | 93, e, he, h => by
    obtain rfl := Option.some.inj ((rfl : wSh[93]? = some (.inl (.int, 9, 0, 0))).symm.trans he)
    rw [we_93] at h
    exact h
  | 94, e, he, h => by
    obtain rfl := Option.some.inj ((rfl : wSh[94]? = some (.inl (.int, 9, 0, 0))).symm.trans he)
    rw [we_94] at h
    exact h
  | 95, e, he, h => by
    obtain rfl := Option.some.inj ((rfl : wSh[95]? = some (.inl (.int, 3, 0, 0))).symm.trans he)
    rw [we_95] at h
    exact h
  | 96, e, he, h => by
    obtain rfl := Option.some.inj ((rfl : wSh[96]? = some (.inr (8, [some 97, some 98, some 99, some 100, none, none]))).symm.trans he)
    rw [we_96] at h
    exact h
  | 97, e, he, h => by
    obtain rfl := Option.some.inj ((rfl : wSh[97]? = some (.inl (.int, 9, 0, 0))).symm.trans he)
    rw [we_97] at h
    exact h
  | 98, e, he, h => by
    obtain rfl := Option.some.inj ((rfl : wSh[98]? = some (.inl (.int, 9, 0, 0))).symm.trans he)
    rw [we_98] at h
    exact h
  | 99, e, he, h => by
    obtain rfl := Option.some.inj ((rfl : wSh[99]? = some (.inl (.int, 9, 0, 0))).symm.trans he)
    rw [we_99] at h
    exact h
  | 100, e, he, h => by
    obtain rfl := Option.some.inj ((rfl : wSh[100]? = some (.inl (.int, 3, 0, 0))).symm.trans he)
    rw [we_100] at h
    exact h
  | 101, e, he, h => by
    obtain rfl := Option.some.inj ((rfl : wSh[101]? = some (.inr (8, [some 102, some 103, some 104, some 105, none, none]))).symm.trans he)
    rw [we_101] at h
    exact h
  | 102, e, he, h => by
    obtain rfl := Option.some.inj ((rfl : wSh[102]? = some (.inl (.int, 9, 0, 0))).symm.trans he)
    rw [we_102] at h
    exact h
  | 103, e, he, h => by
    obtain rfl := Option.some.inj ((rfl : wSh[103]? = some (.inl (.int, 9, 0, 0))).symm.trans he)
    rw [we_103] at h
    exact h
  | 104, e, he, h => by
    obtain rfl := Option.some.inj ((rfl : wSh[104]? = some (.inl (.int, 9, 0, 0))).symm.trans he)
    rw [we_104] at h
    exact h
  | 105, e, he, h => by
    obtain rfl := Option.some.inj ((rfl : wSh[105]? = some (.inl (.int, 3, 0, 0))).symm.trans he)
    rw [we_105] at h
    exact h
  | 106, e, he, h => by
    obtain rfl := Option.some.inj ((rfl : wSh[106]? = some (.inr (8, [some 107, some 108, some 109, some 110, none, none]))).symm.trans he)
    rw [we_106] at h
    exact h
  | 107, e, he, h => by
    obtain rfl := Option.some.inj ((rfl : wSh[107]? = some (.inl (.int, 9, 0, 0))).symm.trans he)
    rw [we_107] at h
    exact h
  | 108, e, he, h => by
    obtain rfl := Option.some.inj ((rfl : wSh[108]? = some (.inl (.int, 9, 0, 0))).symm.trans he)
    rw [we_108] at h
    exact h
  | 109, e, he, h => by
    obtain rfl := Option.some.inj ((rfl : wSh[109]? = some (.inl (.int, 9, 0, 0))).symm.trans he)
    rw [we_109] at h
    exact h
  | 110, e, he, h => by
    obtain rfl := Option.some.inj ((rfl : wSh[110]? = some (.inl (.int, 3, 0, 0))).symm.trans he)
    rw [we_110] at h
    exact h
  | 111, e, he, h => by
    obtain rfl := Option.some.inj ((rfl : wSh[111]? = some (.inr (8, [some 112, some 113, some 114, some 115, none, none]))).symm.trans he)
    rw [we_111] at h
    exact h
  | 112, e, he, h => by
    obtain rfl := Option.some.inj ((rfl : wSh[112]? = some (.inl (.int, 9, 0, 0))).symm.trans he)
    rw [we_112] at h
    exact h
  | 113, e, he, h => by
    obtain rfl := Option.some.inj ((rfl : wSh[113]? = some (.inl (.int, 9, 0, 0))).symm.trans he)
    rw [we_113] at h
    exact h
  | 114, e, he, h => by
    obtain rfl := Option.some.inj ((rfl : wSh[114]? = some (.inl (.int, 9, 0, 0))).symm.trans he)
    rw [we_114] at h
    exact h
  | 115, e, he, h => by
    obtain rfl := Option.some.inj ((rfl : wSh[115]? = some (.inl (.int, 3, 0, 0))).symm.trans he)
    rw [we_115] at h
    exact h
  | 116, e, he, h => by
    obtain rfl := Option.some.inj ((rfl : wSh[116]? = some (.inr (8, [some 117, some 118, some 119, some 120, none, none]))).symm.trans he)
    rw [we_116] at h
    exact h
  | 117, e, he, h => by
    obtain rfl := Option.some.inj ((rfl : wSh[117]? = some (.inl (.int, 9, 0, 0))).symm.trans he)
    rw [we_117] at h
    exact h
  | 118, e, he, h => by
    obtain rfl := Option.some.inj ((rfl : wSh[118]? = some (.inl (.int, 9, 0, 0))).symm.trans he)
    rw [we_118] at h
    exact h
  | 119, e, he, h => by
    obtain rfl := Option.some.inj ((rfl : wSh[119]? = some (.inl (.int, 9, 0, 0))).symm.trans he)
    rw [we_119] at h
    exact h
  | 120, e, he, h => by
    obtain rfl := Option.some.inj ((rfl : wSh[120]? = some (.inl (.int, 3, 0, 0))).symm.trans he)
    rw [we_120] at h
    exact h
  | 121, e, he, h => by
    obtain rfl := Option.some.inj ((rfl : wSh[121]? = some (.inr (8, [some 122, some 123, some 124, some 125, none, none]))).symm.trans he)
    rw [we_121] at h
    exact h
  | 122, e, he, h => by
    obtain rfl := Option.some.inj ((rfl : wSh[122]? = some (.inl (.int, 9, 0, 0))).symm.trans he)
    rw [we_122] at h
    exact h
  | 123, e, he, h => by
    obtain rfl := Option.some.inj ((rfl : wSh[123]? = some (.inl (.int, 9, 0, 0))).symm.trans he)
    rw [we_123] at h
    exact h
  | 124, e, he, h => by
    obtain rfl := Option.some.inj ((rfl : wSh[124]? = some (.inl (.int, 9, 0, 0))).symm.trans he)
    rw [we_124] at h
    exact h
  | 125, e, he, h => by
    obtain rfl := Option.some.inj ((rfl : wSh[125]? = some (.inl (.int, 3, 0, 0))).symm.trans he)
    rw [we_125] at h
    exact h
  | 126, e, he, h => by
    obtain rfl := Option.some.inj ((rfl : wSh[126]? = some (.inr (8, [some 127, some 128, some 129, some 130, none, none]))).symm.trans he)
    rw [we_126] at h
    exact h
  | 127, e, he, h => by
    obtain rfl := Option.some.inj ((rfl : wSh[127]? = some (.inl (.int, 9, 0, 0))).symm.trans he)
    rw [we_127] at h
    exact h
  | 128, e, he, h => by
    obtain rfl := Option.some.inj ((rfl : wSh[128]? = some (.inl (.int, 9, 0, 0))).symm.trans he)
    rw [we_128] at h
    exact h
  | 129, e, he, h => by
    obtain rfl := Option.some.inj ((rfl : wSh[129]? = some (.inl (.int, 9, 0, 0))).symm.trans he)
    rw [we_129] at h
    exact h
  | 130, e, he, h => by
    obtain rfl := Option.some.inj ((rfl : wSh[130]? = some (.inl (.int, 3, 0, 0))).symm.trans he)
    rw [we_130] at h
    exact h
  | 131, e, he, h => by
    obtain rfl := Option.some.inj ((rfl : wSh[131]? = some (.inr (8, [some 132, some 133, some 134, some 135, none, none]))).symm.trans he)
    rw [we_131] at h
    exact h
  | 132, e, he, h => by
    obtain rfl := Option.some.inj ((rfl : wSh[132]? = some (.inl (.int, 9, 0, 0))).symm.trans he)
    rw [we_132] at h
    exact h
  | 133, e, he, h => by
    obtain rfl := Option.some.inj ((rfl : wSh[133]? = some (.inl (.int, 9, 0, 0))).symm.trans he)
    rw [we_133] at h
    exact h
  | 134, e, he, h => by
    obtain rfl := Option.some.inj ((rfl : wSh[134]? = some (.inl (.int, 9, 0, 0))).symm.trans he)
    rw [we_134] at h
    exact h
  | 135, e, he, h => by
    obtain rfl := Option.some.inj ((rfl : wSh[135]? = some (.inl (.int, 3, 0, 0))).symm.trans he)
    rw [we_135] at h
    exact h
  | 136, e, he, h => by
    obtain rfl := Option.some.inj ((rfl : wSh[136]? = some (.inr (8, [some 137, some 138, some 139, some 140, none, none]))).symm.trans he)
    rw [we_136] at h
    exact h
  | 137, e, he, h => by
    obtain rfl := Option.some.inj ((rfl : wSh[137]? = some (.inl (.int, 9, 0, 0))).symm.trans he)
    rw [we_137] at h
    exact h
  | 138, e, he, h => by
    obtain rfl := Option.some.inj ((rfl : wSh[138]? = some (.inl (.int, 9, 0, 0))).symm.trans he)
    rw [we_138] at h
    exact h
  | 139, e, he, h => by
    obtain rfl := Option.some.inj ((rfl : wSh[139]? = some (.inl (.int, 9, 0, 0))).symm.trans he)
    rw [we_139] at h
    exact h
  | 140, e, he, h => by
    obtain rfl := Option.some.inj ((rfl : wSh[140]? = some (.inl (.int, 3, 0, 0))).symm.trans he)
    rw [we_140] at h
    exact h
  | 141, e, he, h => by
    obtain rfl := Option.some.inj ((rfl : wSh[141]? = some (.inl (.object "WellsNotEven$Snapshot", 3, 146, 5))).symm.trans he)
    rw [we_141] at h
    exact Eq.trans h (congrArg some (ring_cell b 146 3 D AI))
  | 142, e, he, h => by
    obtain rfl := Option.some.inj ((rfl : wSh[142]? = some (.inr (7, [none, some 143, some 144]))).symm.trans he)
    rw [we_142] at h
    exact h
  | 143, e, he, h => by
    obtain rfl := Option.some.inj ((rfl : wSh[143]? = some (.inl (.int, 10, 0, 0))).symm.trans he)
    rw [we_143] at h
    exact h
  | 144, e, he, h => by
    obtain rfl := Option.some.inj ((rfl : wSh[144]? = some (.inl (.int, 10, 0, 0))).symm.trans he)
    rw [we_144] at h
    exact h
  | 145, e, he, h => by
    obtain rfl := Option.some.inj ((rfl : wSh[145]? = some (.inl (.int, 200, 0, 0))).symm.trans he)
    rw [we_145] at h
    exact h
  | 146, e, he, h => by
    obtain rfl := Option.some.inj ((rfl : wSh[146]? = some (.inr (8, [some 147, some 148, some 149, some 150, none, none]))).symm.trans he)
    rw [we_146] at h
    exact h
  | 147, e, he, h => by
    obtain rfl := Option.some.inj ((rfl : wSh[147]? = some (.inl (.int, 9, 0, 0))).symm.trans he)
    rw [we_147] at h
    exact h
  | 148, e, he, h => by
    obtain rfl := Option.some.inj ((rfl : wSh[148]? = some (.inl (.int, 9, 0, 0))).symm.trans he)
    rw [we_148] at h
    exact h
  | 149, e, he, h => by
    obtain rfl := Option.some.inj ((rfl : wSh[149]? = some (.inl (.int, 9, 0, 0))).symm.trans he)
    rw [we_149] at h
    exact h
  | 150, e, he, h => by
    obtain rfl := Option.some.inj ((rfl : wSh[150]? = some (.inl (.int, 3, 0, 0))).symm.trans he)
    rw [we_150] at h
    exact h
  | 151, e, he, h => by
    obtain rfl := Option.some.inj ((rfl : wSh[151]? = some (.inr (8, [some 152, some 153, some 154, some 155, none, none]))).symm.trans he)
    rw [we_151] at h
    exact h
  | 152, e, he, h => by
    obtain rfl := Option.some.inj ((rfl : wSh[152]? = some (.inl (.int, 9, 0, 0))).symm.trans he)
    rw [we_152] at h
    exact h
  | 153, e, he, h => by
    obtain rfl := Option.some.inj ((rfl : wSh[153]? = some (.inl (.int, 9, 0, 0))).symm.trans he)
    rw [we_153] at h
    exact h
  | 154, e, he, h => by
    obtain rfl := Option.some.inj ((rfl : wSh[154]? = some (.inl (.int, 9, 0, 0))).symm.trans he)
    rw [we_154] at h
    exact h
  | 155, e, he, h => by
    obtain rfl := Option.some.inj ((rfl : wSh[155]? = some (.inl (.int, 3, 0, 0))).symm.trans he)
    rw [we_155] at h
    exact h
  | 156, e, he, h => by
    obtain rfl := Option.some.inj ((rfl : wSh[156]? = some (.inr (8, [some 157, some 158, some 159, some 160, none, none]))).symm.trans he)
    rw [we_156] at h
    exact h
  | 157, e, he, h => by
    obtain rfl := Option.some.inj ((rfl : wSh[157]? = some (.inl (.int, 9, 0, 0))).symm.trans he)
    rw [we_157] at h
    exact h
  | 158, e, he, h => by
    obtain rfl := Option.some.inj ((rfl : wSh[158]? = some (.inl (.int, 9, 0, 0))).symm.trans he)
    rw [we_158] at h
    exact h
  | 159, e, he, h => by
    obtain rfl := Option.some.inj ((rfl : wSh[159]? = some (.inl (.int, 9, 0, 0))).symm.trans he)
    rw [we_159] at h
    exact h
  | 160, e, he, h => by
    obtain rfl := Option.some.inj ((rfl : wSh[160]? = some (.inl (.int, 3, 0, 0))).symm.trans he)
    rw [we_160] at h
    exact h
  | 161, e, he, h => by
    obtain rfl := Option.some.inj ((rfl : wSh[161]? = some (.inr (11, [none, none, some 162, none, some 163, some 164, some 165, some 166, some 167, some 168, none, some 169, none, none, none, none, some 170, some 171, some 172, some 173, none, some 174, some 175, some 176, some 177, none, some 178, none, some 179, some 180, some 181, some 182, some 183, some 184, none, none, some 185, none, some 186, some 187, some 188, some 189, some 190, none, some 191, some 192, some 193, some 194, some 195]))).symm.trans he)
    rw [we_161] at h
    exact h
  | 162, e, he, h => by
    obtain rfl := Option.some.inj ((rfl : wSh[162]? = some (.inl (.int, 24, 0, 0))).symm.trans he)
    rw [we_162] at h
    exact h
  | 163, e, he, h => by
    obtain rfl := Option.some.inj ((rfl : wSh[163]? = some (.inl (.int, 9, 0, 0))).symm.trans he)
    rw [we_163] at h
    exact h
  | 164, e, he, h => by
    obtain rfl := Option.some.inj ((rfl : wSh[164]? = some (.inl (.int, 9, 0, 0))).symm.trans he)
    rw [we_164] at h
    exact h
  | 165, e, he, h => by
    obtain rfl := Option.some.inj ((rfl : wSh[165]? = some (.inl (.int, 9, 0, 0))).symm.trans he)
    rw [we_165] at h
    exact h
  | 166, e, he, h => by
    obtain rfl := Option.some.inj ((rfl : wSh[166]? = some (.inl (.int, 81, 0, 0))).symm.trans he)
    rw [we_166] at h
    exact h
  | 167, e, he, h => by
    obtain rfl := Option.some.inj ((rfl : wSh[167]? = some (.inl (.int, 9, 0, 0))).symm.trans he)
    rw [we_167] at h
    exact h
  | 168, e, he, h => by
    obtain rfl := Option.some.inj ((rfl : wSh[168]? = some (.inl (.int, 3, 0, 0))).symm.trans he)
    rw [we_168] at h
    exact h
  | 169, e, he, h => by
    obtain rfl := Option.some.inj ((rfl : wSh[169]? = some (.inl (.int, 80, 0, 0))).symm.trans he)
    rw [we_169] at h
    exact h
  | 170, e, he, h => by
    obtain rfl := Option.some.inj ((rfl : wSh[170]? = some (.inl (.int, 9, 0, 0))).symm.trans he)
    rw [we_170] at h
    exact h
  | 171, e, he, h => by
    obtain rfl := Option.some.inj ((rfl : wSh[171]? = some (.inl (.int, 9, 0, 0))).symm.trans he)
    rw [we_171] at h
    exact h
  | 172, e, he, h => by
    obtain rfl := Option.some.inj ((rfl : wSh[172]? = some (.inl (.int, 9, 0, 0))).symm.trans he)
    rw [we_172] at h
    exact h
  | 173, e, he, h => by
    obtain rfl := Option.some.inj ((rfl : wSh[173]? = some (.inl (.int, 81, 0, 0))).symm.trans he)
    rw [we_173] at h
    exact h
  | 174, e, he, h => by
    obtain rfl := Option.some.inj ((rfl : wSh[174]? = some (.inl (.int, 399, 0, 0))).symm.trans he)
    rw [we_174] at h
    exact h
  | 175, e, he, h => by
    obtain rfl := Option.some.inj ((rfl : wSh[175]? = some (.inl (.int, 16, 0, 0))).symm.trans he)
    rw [we_175] at h
    exact h
  | 176, e, he, h => by
    obtain rfl := Option.some.inj ((rfl : wSh[176]? = some (.inl (.int, 16, 0, 0))).symm.trans he)
    rw [we_176] at h
    exact h
  | 177, e, he, h => by
    obtain rfl := Option.some.inj ((rfl : wSh[177]? = some (.inl (.int, 16, 0, 0))).symm.trans he)
    rw [we_177] at h
    exact h
  | 178, e, he, h => by
    obtain rfl := Option.some.inj ((rfl : wSh[178]? = some (.inl (.int, 9, 0, 0))).symm.trans he)
    rw [we_178] at h
    exact h
  | 179, e, he, h => by
    obtain rfl := Option.some.inj ((rfl : wSh[179]? = some (.inl (.long, 3000, 0, 0))).symm.trans he)
    rw [we_179] at h
    exact h
  | 180, e, he, h => by
    obtain rfl := Option.some.inj ((rfl : wSh[180]? = some (.inl (.int, 3000, 0, 0))).symm.trans he)
    rw [we_180] at h
    exact h
  | 181, e, he, h => by
    obtain rfl := Option.some.inj ((rfl : wSh[181]? = some (.inl (.int, 3000, 0, 0))).symm.trans he)
    rw [we_181] at h
    exact h
  | 182, e, he, h => by
    obtain rfl := Option.some.inj ((rfl : wSh[182]? = some (.inl (.int, 3000, 0, 0))).symm.trans he)
    rw [we_182] at h
    exact h
  | 183, e, he, h => by
    obtain rfl := Option.some.inj ((rfl : wSh[183]? = some (.inl (.int, 16384, 0, 0))).symm.trans he)
    rw [we_183] at h
    exact h
  | 184, e, he, h => by
    obtain rfl := Option.some.inj ((rfl : wSh[184]? = some (.inl (.int, 9, 0, 0))).symm.trans he)
    rw [we_184] at h
    exact h
  | 185, e, he, h => by
    obtain rfl := Option.some.inj ((rfl : wSh[185]? = some (.inl (.int, 3000, 0, 0))).symm.trans he)
    rw [we_185] at h
    exact h
  | 186, e, he, h => by
    obtain rfl := Option.some.inj ((rfl : wSh[186]? = some (.inl (.int, 9, 0, 0))).symm.trans he)
    rw [we_186] at h
    exact h
  | 187, e, he, h => by
    obtain rfl := Option.some.inj ((rfl : wSh[187]? = some (.inl (.int, 9, 0, 0))).symm.trans he)
    rw [we_187] at h
    exact h
  | 188, e, he, h => by
    obtain rfl := Option.some.inj ((rfl : wSh[188]? = some (.inl (.int, 9, 0, 0))).symm.trans he)
    rw [we_188] at h
    exact h
  | 189, e, he, h => by
    obtain rfl := Option.some.inj ((rfl : wSh[189]? = some (.inl (.int, 9, 0, 0))).symm.trans he)
    rw [we_189] at h
    exact h
  | 190, e, he, h => by
    obtain rfl := Option.some.inj ((rfl : wSh[190]? = some (.inl (.int, 9, 0, 0))).symm.trans he)
    rw [we_190] at h
    exact h
  | 191, e, he, h => by
    obtain rfl := Option.some.inj ((rfl : wSh[191]? = some (.inl (.int, 10, 0, 0))).symm.trans he)
    rw [we_191] at h
    exact h
  | 192, e, he, h => by
    obtain rfl := Option.some.inj ((rfl : wSh[192]? = some (.inl (.int, 10, 0, 0))).symm.trans he)
    rw [we_192] at h
    exact h
  | 193, e, he, h => by
    obtain rfl := Option.some.inj ((rfl : wSh[193]? = some (.inl (.int, 777, 0, 0))).symm.trans he)
    rw [we_193] at h
    exact h
  | 194, e, he, h => by
    obtain rfl := Option.some.inj ((rfl : wSh[194]? = some (.inl (.boolean, 3, 0, 0))).symm.trans he)
    rw [we_194] at h
    exact h
  | 195, e, he, h => by
    obtain rfl := Option.some.inj ((rfl : wSh[195]? = some (.inl (.int, 96, 0, 0))).symm.trans he)
    rw [we_195] at h
    exact h
  | 196, e, he, h => by
    obtain rfl := Option.some.inj ((rfl : wSh[196]? = some (.inl (.long, 1, 0, 0))).symm.trans he)
    rw [we_196] at h
    exact h
  | k + 197, e, he, _ => by
    have h1 := (List.getElem?_eq_some_iff.mp he).1
    have h2 : wSh.length = 197 := rfl
    omega
theorem world_ok {b : Nat} {D : va_G} {AI : FieldType → ClassId} {H : Heap} (hP : va_P D vwCl (wR b 197 (wEnd (wGm b D AI))) H) : va_P D vwCl (wL (wGm b D AI) wS0) H := by
  intro k q hk
  cases he : wSh[k]? with
  | none =>
    simp [wL, List.getElem?_mapIdx, he] at hk
  | some e =>
    rw [wL_at he] at hk
    cases hk
    have hl : k < 197 := (List.getElem?_eq_some_iff.mp he).1
    exact we_all k e he (hP k _ (wR_at hl))
