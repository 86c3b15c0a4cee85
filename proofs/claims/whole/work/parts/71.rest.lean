section LVY
-- THE FOUR THAT REMAIN
theorem c_trees {τ : fm_S} (h : RR τ) : OT τ := by
  sorry
theorem c_rank {τ : fm_S} (h : RR τ) : ON (mX4_rank τ) mX5_rank := by
  sorry
theorem c_isRigid {τ : fm_S} (h : RR τ) : ON (mX4_isRigid τ) mX5_isRigid := by
  sorry
theorem c_isSpare {τ : fm_S} (h : RR τ) (x1 x2 : Int32) : OZ (mL_isSpare x1 x2 τ) (mX5_isSpare x1 x2) := by
  sorry
end LVY
