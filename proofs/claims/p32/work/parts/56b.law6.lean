section PVH
def nthC (U a : Nat) : Nat := ((List.range 5).filter U.testBit).getD a 0
def degG (G x : Nat) : Nat := cnt (fun j => decide (x ≠ j) && G.testBit (pr x j)) 5
def eUG (G x y : Nat) : Int := if x = y then (degG G x : Int) else if G.testBit (pr x y) = true then -1 else 0
def AUG (U G : Nat) (i j : Nat) : Int := if i ≤ cnt U.testBit 5 - 1 ∧ j ≤ cnt U.testBit 5 - 1 then eUG G (nthC U (fU (cnt U.testBit 5 - 1) i)) (nthC U (fU (cnt U.testBit 5 - 1) j)) else 0
/-- how many of the trees lie within G -/
def tv (U G : Nat) : Nat := (TU U).countP (fun t => t &&& G == t)
def c2 (U G : Nat) : Bool := !(decide (gN G (loU U) = U)) || decide (dd (AUG U G) (cnt U.testBit 5 - 1) = if cnt U.testBit 5 = 1 then 1 else (tv U G : Int))
theorem t_det : ∀ U, U < 31 → U = 0 ∨ allS (c2 U) (PU U) 1100 (PU U) = true := by decide +kernel
end PVH
