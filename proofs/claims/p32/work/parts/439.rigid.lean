section LVBE
theorem gMax_len {P : Nat × Nat → Prop} {I : List (Nat × Nat)} (h : gMax P I) : I.length + 3 ≤ 16 := by
  have h2 : gSz (fun _ => true) = 8 := by decide
  have := h.1 (fun _ => true) (by omega)
  have e : gCn (fun _ => true) I = I.length := by
    unfold gCn
    rw [List.countP_eq_length]
    intro e _; rfl
  omega
end LVBE
