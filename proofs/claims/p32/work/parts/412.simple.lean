section LVC
def bI (b : Bool) : Int32 := if b then 1 else 0
theorem bI0 (b : Bool) : bI b = 0 ↔ b = false := by cases b <;> decide
def mem (x : Int32) (c : Nat) : Prop := ∃ j, j < c ∧ x = nI j
def win (x lo hi : Int32) : Bool := decide (¬ x < lo) && decide (x ≤ hi)
end LVC
