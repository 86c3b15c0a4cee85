section LVT
theorem gSz8 (V : Nat → Bool) : gSz V = cn8 V := by
  unfold gSz cn8
  rw [show List.range 8 = [0, 1, 2, 3, 4, 5, 6, 7] from rfl]
  simp only [List.countP_cons, List.countP_nil]
  generalize V 0 = a; generalize V 1 = b; generalize V 2 = c; generalize V 3 = d; generalize V 4 = e; generalize V 5 = f; generalize V 6 = g; generalize V 7 = h
  revert a b c d e f g h
  decide
theorem vm0 : ∀ a b c d e f g h : Bool, ∃ m, m < 256 ∧ m.testBit 0 = a ∧ m.testBit 1 = b ∧ m.testBit 2 = c ∧ m.testBit 3 = d ∧ m.testBit 4 = e ∧ m.testBit 5 = f ∧ m.testBit 6 = g ∧ m.testBit 7 = h := by
  intro a b c d e f g h
  refine ⟨a.toNat + 2 * b.toNat + 4 * c.toNat + 8 * d.toNat + 16 * e.toNat + 32 * f.toNat + 64 * g.toNat + 128 * h.toNat, ?_⟩
  revert a b c d e f g h
  decide +kernel
/-- every set of members is a mask -/
theorem vm (V : Nat → Bool) : ∃ m, m < 256 ∧ ∀ j, j < 8 → m.testBit j = V j := by
  obtain ⟨m, h, h0, h1, h2, h3, h4, h5, h6, h7⟩ := vm0 (V 0) (V 1) (V 2) (V 3) (V 4) (V 5) (V 6) (V 7)
  refine ⟨m, h, fun j hj => ?_⟩
  match j, hj with
  | 0, _ => exact h0
  | 1, _ => exact h1
  | 2, _ => exact h2
  | 3, _ => exact h3
  | 4, _ => exact h4
  | 5, _ => exact h5
  | 6, _ => exact h6
  | 7, _ => exact h7
  | n + 8, h => exact absurd h (by omega)
theorem gCn_congr {V V' : Nat → Bool} {S : List (Nat × Nat)} (hO : gOk S) (h : ∀ j, j < 8 → V j = V' j) : gCn V S = gCn V' S := by
  unfold gCn
  apply List.countP_congr
  intro e he
  obtain ⟨h1, h2, -⟩ := hO e he
  rw [h _ h1, h _ h2]
theorem cnt_congr {P Q : Nat → Bool} : ∀ n, (∀ j, j < n → P j = Q j) → cnt P n = cnt Q n := by
  intro n
  induction n with
  | zero => intro _; rfl
  | succ n ih => intro h; rw [cnt, cnt, ih (fun j hj => h j (by omega)), h n (by omega)]
/-- the kept links with both ends in V -/
def kc (κ : Nat → Bool) (V : Nat → Bool) : Nat → Nat := cnt (fun k => κ k && V (k / 8) && V (k % 8))
end LVT
