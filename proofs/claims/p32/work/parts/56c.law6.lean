section PVI
theorem t_det31 : allS (c2 31) (PU 31) 1100 (PU 31) = true := by decide +kernel
end PVI
