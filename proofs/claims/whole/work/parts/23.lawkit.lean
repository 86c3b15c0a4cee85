section FML
theorem fm_sw1 : ∀ j, j < 29 → (nI j = 0 ∨ nI j = 1 ∨ nI j = 2 ∨ nI j = 3 ∨ nI j = 4 ∨ nI j = 5 ∨ nI j = 6 ∨ nI j = 7 ∨ nI j = 8 ∨ nI j = 9 ∨ nI j = 10 ∨ nI j = 11 ∨ nI j = 12 ∨ nI j = 13 ∨ nI j = 14 ∨ nI j = 15 ∨ nI j = 16 ∨ nI j = 17 ∨ nI j = 18 ∨ nI j = 19 ∨ nI j = 20 ∨ nI j = 21 ∨ nI j = 22 ∨ nI j = 23 ∨ nI j = 24 ∨ nI j = 25 ∨ nI j = 26 ∨ nI j = 27 ∨ nI j = 28) := by decide +kernel
theorem fm_sw2 : ∀ j, j < 32 → j < 29 ∨ 28 < (nI j).toInt := by decide +kernel
theorem fm_sw (x : Int32) (h0 : ¬ x &&& 31 = 0) (h1 : ¬ x &&& 31 = 1) (h2 : ¬ x &&& 31 = 2) (h3 : ¬ x &&& 31 = 3) (h4 : ¬ x &&& 31 = 4) (h5 : ¬ x &&& 31 = 5) (h6 : ¬ x &&& 31 = 6) (h7 : ¬ x &&& 31 = 7) (h8 : ¬ x &&& 31 = 8) (h9 : ¬ x &&& 31 = 9) (h10 : ¬ x &&& 31 = 10) (h11 : ¬ x &&& 31 = 11) (h12 : ¬ x &&& 31 = 12) (h13 : ¬ x &&& 31 = 13) (h14 : ¬ x &&& 31 = 14) (h15 : ¬ x &&& 31 = 15) (h16 : ¬ x &&& 31 = 16) (h17 : ¬ x &&& 31 = 17) (h18 : ¬ x &&& 31 = 18) (h19 : ¬ x &&& 31 = 19) (h20 : ¬ x &&& 31 = 20) (h21 : ¬ x &&& 31 = 21) (h22 : ¬ x &&& 31 = 22) (h23 : ¬ x &&& 31 = 23) (h24 : ¬ x &&& 31 = 24) (h25 : ¬ x &&& 31 = 25) (h26 : ¬ x &&& 31 = 26) (h27 : ¬ x &&& 31 = 27) (h28 : ¬ x &&& 31 = 28) : (x &&& 31).toInt < 0 ∨ 28 < (x &&& 31).toInt := by
  obtain ⟨j, hj, e⟩ := pk_andE x (m := 31) 5 (by decide)
  have hj : j < 32 := hj
  rw [e] at h0 h1 h2 h3 h4 h5 h6 h7 h8 h9 h10 h11 h12 h13 h14 h15 h16 h17 h18 h19 h20 h21 h22 h23 h24 h25 h26 h27 h28 ⊢
  rcases fm_sw2 j hj with hk | hk
  · rcases fm_sw1 j hk with q | q | q | q | q | q | q | q | q | q | q | q | q | q | q | q | q | q | q | q | q | q | q | q | q | q | q | q | q <;> contradiction
  · exact Or.inr hk
end FML
