def wInv : wM → Prop := fun _ => True
theorem wInv_0 : wInv wS0 := trivial
theorem wInv_ops : wOps wInv := sorry
