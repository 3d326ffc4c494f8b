/-! the start, and all calls -/
theorem wInv_0 : wInv wS0 := by
  have z8 : wS0.1 8 = fun _ => iI 0 := rfl
  have z9 : wS0.1 9 = fun _ => iI 0 := rfl
  have z163 : wS0.1 163 = fun _ => iI 0 := rfl
  have z164 : wS0.1 164 = fun _ => iI 0 := rfl
  have z165 : wS0.1 165 = fun _ => iI 0 := rfl
  have z14 : wS0.1 14 = fun _ => iI 0 := rfl
  have z15 : wS0.1 15 = fun _ => iI 0 := rfl
  have z184 : wS0.1 184 = fun _ => iI 0 := rfl
  have z187 : wS0.1 187 = fun _ => iI 0 := rfl
  have z10 : wS0.1 10 = fun _ => iI 0 := rfl
  have z167 : wS0.1 167 = fun _ => iI 0 := rfl
  have z161 : wS0.1 161 = fun _ => iI 0 := rfl
  have z7 : wS0.1 7 = fun _ => iI 0 := rfl
  have z1 : wS0.1 1 = fun _ => iI 0 := rfl
  have z32 : wS0.1 32 = fun _ => iI 0 := rfl
  have z34 : wS0.1 34 = fun _ => iI 0 := rfl
  have z142 : wS0.1 142 = fun _ => iI 0 := rfl
  have z194 : wS0.1 194 = fun _ => iI 0 := rfl
  have z12 : wS0.1 12 = fun j => if j < 81 then iI (-1) else 0 := rfl
  refine ⟨0, fun _ _ => false, fun _ _ => 0, fun _ => 0, fun _ => 0, 1, 1, 1, fun _ => iI 0, iI 0, [], fun _ => none, [], [], [], ⟨⟨⟨by omega, fun _ _ => rfl, fun a b h => (by cases h), fun _ _ => rfl, fun _ _ => ⟨Int.le_refl 0, (by decide : (0 : Int) ≤ 9)⟩⟩, fun _ => ⟨Int.le_refl 0, (by decide : (0 : Int) ≤ 99)⟩, fun _ _ => rfl, fun _ => ⟨Int.le_refl 0, (by decide : (0 : Int) ≤ 9)⟩, fun _ _ => rfl, ⟨by omega, by omega⟩, ⟨by omega, by omega⟩, ⟨by omega, by omega⟩⟩, ⟨by simp, fun x h => (by cases h)⟩, fun _ _ => trivial, ⟨by simp, fun x h => (by cases h)⟩, ⟨by simp, fun x h => (by cases h)⟩⟩, ⟨⟨⟨?_, fun a b ha hb => ?_⟩, z8, z9, rfl, rfl, rfl, fun j hj => ?_⟩, ⟨z10, ?_, fun j _ => rfl⟩, ⟨0, by omega, ?_, ?_, fun i hi => (by cases hi)⟩, fun i hi => ?_, ⟨?_, fun i hi => (by cases hi)⟩, ⟨?_, fun i hi => (by cases hi)⟩⟩, ⟨⟨⟨?_, fun a ha => ?_, fun a b ha hb hT => (by cases hT)⟩, z163, z164, rfl, rfl, rfl, fun j hj => ?_⟩, ⟨z167, ?_⟩, ⟨?_, fun i hi => (by cases hi)⟩, fun i hi => ?_, ⟨?_, fun i hi => (by cases hi)⟩, ⟨?_, fun i hi => (by cases hi)⟩⟩, ⟨?_, fun i hi => (by cases hi)⟩, ⟨?_, fun i hi => (by cases hi)⟩, by simp⟩
  · rw [z7]; rfl
  · rw [z12]; show (if 9 * a + b < 81 then iI (-1) else 0) = iI (-1); rw [if_pos (by omega)]
  · rw [z14, z15]; exact ⟨rfl, rfl⟩
  · rw [z7]
  · rw [z34]; rfl
  · rw [z34]; rfl
  · have : i = 0 ∨ i = 1 ∨ i = 2 := by omega
    rcases this with rfl | rfl | rfl <;> rfl
  · rw [z1]; rfl
  · rw [z142]; rfl
  · rw [z161]; rfl
  · rw [z165, bt_false fun _ _ => rfl]; rfl
  · rw [z184, z187]; exact ⟨rfl, rfl⟩
  · rw [z161]
  · rw [z161]; rfl
  · show wS0.1 194 i = iI 0
    rw [z194]
  · rw [z161]; rfl
  · rw [z161]; rfl
  · rw [z32]; rfl
  · rw [z161]; rfl
theorem wInv_ops : wOps wInv := ⟨op0, op1, op2, op3, op4, op5, op6, op7, op8, op9, op10, op11, op12, op13, op14, op15, op16, op17, op18, op19, op20, op21, op22, op23, op24, op25, op26, op27, op28, op29, op30, op31, op32, op33, op34, op35, op36, op37, op38, op39, op40, op41, op42, op43, op44, op45, op46, op47⟩
