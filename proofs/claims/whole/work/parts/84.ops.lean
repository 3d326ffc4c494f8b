def op_0 (Inv : wM → Prop) : Prop := ∀ (s : wM) (a1 : Int32), Inv s → ∃ (r : Int32) (s1 s2 : wM), fW_sign s a1 = some (r, s1) ∧ fM_sign s1 a1 = some (r, s2) ∧ Inv s2
def op_1 (Inv : wM → Prop) : Prop := ∀ (s : wM) (a1 : Int32), Inv s → ∃ (r : Int32) (s1 s2 : wM), fW_end s a1 = some (r, s1) ∧ fM_end s1 a1 = some (r, s2) ∧ Inv s2
def op_2 (Inv : wM → Prop) : Prop := ∀ (s : wM), Inv s → ∃ (r : Int32) (s1 s2 : wM), fW_county s  = some (r, s1) ∧ fM_county s1  = some (r, s2) ∧ Inv s2
def op_3 (Inv : wM → Prop) : Prop := ∀ (s : wM) (a1 a2 : Int32), Inv s → ∃ (kk rb : Int32) (s1 s2 : wM), fL_farm s a1 a2 = some (kk, s1) ∧ fM_farm s1 a1 a2 = some (rb, s2) ∧ fM_thrown s2 = some kk ∧ (kk = iI 0 → s2.2 196 0 = rb.toInt64) ∧ Inv s2
def op_4 (Inv : wM → Prop) : Prop := ∀ (s : wM) (a1 a2 : Int32), Inv s → ∃ (r : Int32) (s2 : wM), fW_stone s a1 a2 = some r ∧ fM_stone s a1 a2 = some (r, s2) ∧ Inv s2
def op_5 (Inv : wM → Prop) : Prop := ∀ (s : wM) (a1 a2 a3 : Int32), Inv s → ∃ (r : Int32) (s1 s2 : wM), fW_touch s a1 a2 a3 = some (r, s1) ∧ fM_touch s1 a1 a2 a3 = some (r, s2) ∧ Inv s2
def op_6 (Inv : wM → Prop) : Prop := ∀ (s : wM) (a1 a2 : Int32), Inv s → ∃ (r : Int32) (s1 s2 : wM), fW_law s a1 a2 = some (r, s1) ∧ fM_law s1 a1 a2 = some (r, s2) ∧ Inv s2
def op_7 (Inv : wM → Prop) : Prop := ∀ (s : wM) (a1 a2 a3 : Int32), Inv s → ∃ (r : Int32) (s1 s2 : wM), fW_set s a1 a2 a3 = some (r, s1) ∧ fM_set s1 a1 a2 a3 = some (r, s2) ∧ Inv s2
def op_8 (Inv : wM → Prop) : Prop := ∀ (s : wM) (a1 a2 a3 a4 : Int32), Inv s → ∃ (r : Int32) (s1 s2 : wM), fW_sheet s a1 a2 a3 a4 = some (r, s1) ∧ fM_sheet s1 a1 a2 a3 a4 = some (r, s2) ∧ Inv s2
def op_9 (Inv : wM → Prop) : Prop := ∀ (s : wM) (a1 a2 : Int32), Inv s → ∃ (r : Int32) (s1 s2 : wM), fW_carry s a1 a2 = some (r, s1) ∧ fM_carry s1 a1 a2 = some (r, s2) ∧ Inv s2
def op_10 (Inv : wM → Prop) : Prop := ∀ (s : wM), Inv s → ∃ (r : Int32) (s1 s2 : wM), fW_night s  = some (r, s1) ∧ fM_night s1  = some (r, s2) ∧ Inv s2
def op_11 (Inv : wM → Prop) : Prop := ∀ (s : wM) (a1 a2 : Int32), Inv s → ∃ (r : Int32) (s1 s2 : wM), fW_week s a1 a2 = some (r, s1) ∧ fM_week s1 a1 a2 = some (r, s2) ∧ Inv s2
def op_12 (Inv : wM → Prop) : Prop := ∀ (s : wM) (a1 : Int32), Inv s → ∃ (r : Int32) (s1 s2 : wM), fW_weeks s a1 = some (r, s1) ∧ fM_weeks s1 a1 = some (r, s2) ∧ Inv s2
def op_13 (Inv : wM → Prop) : Prop := ∀ (s : wM), Inv s → ∃ (r : Int32) (s1 s2 : wM), fW_undo s  = some (r, s1) ∧ fM_undo s1  = some (r, s2) ∧ Inv s2
def op_14 (Inv : wM → Prop) : Prop := ∀ (s : wM), Inv s → ∃ (r : Int32) (s1 s2 : wM), fW_even s  = some (r, s1) ∧ fM_even s1  = some (r, s2) ∧ Inv s2
def op_15 (Inv : wM → Prop) : Prop := ∀ (s : wM), Inv s → ∃ (r : Int32) (s1 s2 : wM), fW_fewest s  = some (r, s1) ∧ fM_fewest s1  = some (r, s2) ∧ Inv s2
def op_16 (Inv : wM → Prop) : Prop := ∀ (s : wM) (a1 : Int32), Inv s → ∃ (r : Int32) (s1 s2 : wM), fW_reach s a1 = some (r, s1) ∧ fM_reach s1 a1 = some (r, s2) ∧ Inv s2
def op_17 (Inv : wM → Prop) : Prop := ∀ (s : wM) (a1 : Int32), Inv s → ∃ (r : Int32) (s1 s2 : wM), fW_selfish s a1 = some (r, s1) ∧ fM_selfish s1 a1 = some (r, s2) ∧ Inv s2
def op_18 (Inv : wM → Prop) : Prop := ∀ (s : wM) (a1 : Int32), Inv s → ∃ (r : Int32) (s1 s2 : wM), fW_rests s a1 = some (r, s1) ∧ fM_rests s1 a1 = some (r, s2) ∧ Inv s2
def op_19 (Inv : wM → Prop) : Prop := ∀ (s : wM) (a1 : Int32), Inv s → ∃ (r : Int32) (s1 s2 : wM), fW_alter s a1 = some (r, s1) ∧ fM_alter s1 a1 = some (r, s2) ∧ Inv s2
def op_20 (Inv : wM → Prop) : Prop := ∀ (s : wM) (a1 a2 : Int32), Inv s → ∃ (r : Int32) (s1 s2 : wM), fW_fill s a1 a2 = some (r, s1) ∧ fM_fill s1 a1 a2 = some (r, s2) ∧ Inv s2
def op_21 (Inv : wM → Prop) : Prop := ∀ (s : wM), Inv s → ∃ (r : Int32) (s1 s2 : wM), fW_colours s  = some (r, s1) ∧ fM_colours s1  = some (r, s2) ∧ Inv s2
def op_22 (Inv : wM → Prop) : Prop := ∀ (s : wM), Inv s → ∃ (r : Int32) (s1 s2 : wM), fW_clique s  = some (r, s1) ∧ fM_clique s1  = some (r, s2) ∧ Inv s2
def op_23 (Inv : wM → Prop) : Prop := ∀ (s : wM), Inv s → ∃ (r : Int32) (s1 s2 : wM), fW_lowest s  = some (r, s1) ∧ fM_lowest s1  = some (r, s2) ∧ Inv s2
def op_24 (Inv : wM → Prop) : Prop := ∀ (s : wM) (a1 : Int32), Inv s → ∃ (r : Int32) (s1 s2 : wM), fW_place s a1 = some (r, s1) ∧ fM_place s1 a1 = some (r, s2) ∧ Inv s2
def op_25 (Inv : wM → Prop) : Prop := ∀ (s : wM), Inv s → ∃ (r : Int32) (s1 s2 : wM), fW_lasts s  = some (r, s1) ∧ fM_lasts s1  = some (r, s2) ∧ Inv s2
def op_26 (Inv : wM → Prop) : Prop := ∀ (s : wM) (a1 a2 : Int32), Inv s → ∃ (r : Int32) (s1 s2 : wM), fW_later s a1 a2 = some (r, s1) ∧ fM_later s1 a1 a2 = some (r, s2) ∧ Inv s2
def op_27 (Inv : wM → Prop) : Prop := ∀ (s : wM), Inv s → ∃ (r : Int32) (s1 s2 : wM), fW_still s  = some (r, s1) ∧ fM_still s1  = some (r, s2) ∧ Inv s2
def op_28 (Inv : wM → Prop) : Prop := ∀ (s : wM) (a1 a2 : Int32), Inv s → ∃ (r : Int32) (s1 s2 : wM), fW_keeps s a1 a2 = some (r, s1) ∧ fM_keeps s1 a1 a2 = some (r, s2) ∧ Inv s2
def op_29 (Inv : wM → Prop) : Prop := ∀ (s : wM) (a1 : Int32), Inv s → ∃ (r : Int32) (s1 s2 : wM), fW_mercy s a1 = some (r, s1) ∧ fM_mercy s1 a1 = some (r, s2) ∧ Inv s2
def op_30 (Inv : wM → Prop) : Prop := ∀ (s : wM) (a1 : Int32), Inv s → ∃ (r : Int32) (s1 s2 : wM), fW_drought s a1 = some (r, s1) ∧ fM_drought s1 a1 = some (r, s2) ∧ Inv s2
def op_31 (Inv : wM → Prop) : Prop := ∀ (s : wM) (a1 a2 : Int32), Inv s → ∃ (r : Int32) (s1 s2 : wM), fW_clash s a1 a2 = some (r, s1) ∧ fM_clash s1 a1 a2 = some (r, s2) ∧ Inv s2
def op_32 (Inv : wM → Prop) : Prop := ∀ (s : wM) (a1 : Int32), Inv s → ∃ (r : Int32) (s1 s2 : wM), fW_payer s a1 = some (r, s1) ∧ fM_payer s1 a1 = some (r, s2) ∧ Inv s2
def op_33 (Inv : wM → Prop) : Prop := ∀ (s : wM) (a1 : Int32), Inv s → ∃ (r : Int32) (s1 s2 : wM), fW_pray s a1 = some (r, s1) ∧ fM_pray s1 a1 = some (r, s2) ∧ Inv s2
def op_34 (Inv : wM → Prop) : Prop := ∀ (s : wM), Inv s → ∃ (r : Int32) (s1 s2 : wM), fW_seal s  = some (r, s1) ∧ fM_seal s1  = some (r, s2) ∧ Inv s2
def op_35 (Inv : wM → Prop) : Prop := ∀ (s : wM) (a1 a2 : Int32), Inv s → ∃ (r : Int32) (s1 s2 : wM), fW_road s a1 a2 = some (r, s1) ∧ fM_road s1 a1 a2 = some (r, s2) ∧ Inv s2
def op_36 (Inv : wM → Prop) : Prop := ∀ (s : wM), Inv s → ∃ (r : Int32) (s1 s2 : wM), fW_boon s  = some (r, s1) ∧ fM_boon s1  = some (r, s2) ∧ Inv s2
def op_37 (Inv : wM → Prop) : Prop := ∀ (s : wM) (a1 a2 : Int32), Inv s → ∃ (r : Int32) (s1 s2 : wM), fW_seen s a1 a2 = some (r, s1) ∧ fM_seen s1 a1 a2 = some (r, s2) ∧ Inv s2
def op_38 (Inv : wM → Prop) : Prop := ∀ (s : wM), Inv s → ∃ (r : Int32) (s1 s2 : wM), fW_forget s  = some (r, s1) ∧ fM_forget s1  = some (r, s2) ∧ Inv s2
def op_39 (Inv : wM → Prop) : Prop := ∀ (s : wM) (a1 : Int32), Inv s → ∃ (r : Int32) (s1 s2 : wM), fW_springs s a1 = some (r, s1) ∧ fM_springs s1 a1 = some (r, s2) ∧ Inv s2
def op_40 (Inv : wM → Prop) : Prop := ∀ (s : wM) (a1 a2 : Int32), Inv s → ∃ (r : Int32) (s1 s2 : wM), fW_stones s a1 a2 = some (r, s1) ∧ fM_stones s1 a1 a2 = some (r, s2) ∧ Inv s2
def op_41 (Inv : wM → Prop) : Prop := ∀ (s : wM), Inv s → ∃ (r : Int32) (s1 s2 : wM), fW_nights s  = some (r, s1) ∧ fM_nights s1  = some (r, s2) ∧ Inv s2
def op_42 (Inv : wM → Prop) : Prop := ∀ (s : wM), Inv s → ∃ (r : Int32) (s1 s2 : wM), fW_sunday s  = some (r, s1) ∧ fM_sunday s1  = some (r, s2) ∧ Inv s2
def op_43 (Inv : wM → Prop) : Prop := ∀ (s : wM) (a1 a2 : Int32), Inv s → ∃ (r : Int32) (s1 s2 : wM), fW_divide s a1 a2 = some (r, s1) ∧ fM_divide s1 a1 a2 = some (r, s2) ∧ Inv s2
def op_44 (Inv : wM → Prop) : Prop := ∀ (s : wM) (a1 : Int32), Inv s → ∃ (r : Int32) (s1 s2 : wM), fW_keep s a1 = some (r, s1) ∧ fM_keep s1 a1 = some (r, s2) ∧ Inv s2
def op_45 (Inv : wM → Prop) : Prop := ∀ (s : wM) (a1 : Int32), Inv s → ∃ (r : Int32) (s1 s2 : wM), fW_again s a1 = some (r, s1) ∧ fM_again s1 a1 = some (r, s2) ∧ Inv s2
def op_46 (Inv : wM → Prop) : Prop := ∀ (s : wM) (a1 : Int32), Inv s → ∃ (r : Int32) (s2 : wM), fW_count s a1 = some r ∧ fM_count s a1 = some (r, s2) ∧ Inv s2
def op_47 (Inv : wM → Prop) : Prop := ∀ (s : wM) (a1 : Int32), Inv s → ∃ (kk rb : Int32) (s1 s2 : wM), fL_row s a1 = some (kk, s1) ∧ fM_row s1 a1 = some (rb, s2) ∧ fM_thrown s2 = some kk ∧ (kk = iI 0 → s2.2 196 0 = rb.toInt64) ∧ Inv s2
def wOps (Inv : wM → Prop) : Prop := op_0 Inv ∧ op_1 Inv ∧ op_2 Inv ∧ op_3 Inv ∧ op_4 Inv ∧ op_5 Inv ∧ op_6 Inv ∧ op_7 Inv ∧ op_8 Inv ∧ op_9 Inv ∧ op_10 Inv ∧ op_11 Inv ∧ op_12 Inv ∧ op_13 Inv ∧ op_14 Inv ∧ op_15 Inv ∧ op_16 Inv ∧ op_17 Inv ∧ op_18 Inv ∧ op_19 Inv ∧ op_20 Inv ∧ op_21 Inv ∧ op_22 Inv ∧ op_23 Inv ∧ op_24 Inv ∧ op_25 Inv ∧ op_26 Inv ∧ op_27 Inv ∧ op_28 Inv ∧ op_29 Inv ∧ op_30 Inv ∧ op_31 Inv ∧ op_32 Inv ∧ op_33 Inv ∧ op_34 Inv ∧ op_35 Inv ∧ op_36 Inv ∧ op_37 Inv ∧ op_38 Inv ∧ op_39 Inv ∧ op_40 Inv ∧ op_41 Inv ∧ op_42 Inv ∧ op_43 Inv ∧ op_44 Inv ∧ op_45 Inv ∧ op_46 Inv ∧ op_47 Inv
