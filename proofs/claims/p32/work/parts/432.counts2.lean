section LVW
theorem k_keep {s : fm_S} {I : List (Nat × Nat)} (hs : CT s I) {i j : Nat} (hi : i < 8) (hj : j < 8) : ∃ s', mX0_keepLink (nI (2 ^ i ||| 2 ^ j)) s = some s' ∧ rowE 29 s s' ∧ CT s' ((j, i) :: I) := by
  have hp := (q_sup 0 (by omega) i hi j hj).2.2
  obtain ⟨t, e1, t1, t2⟩ := lpU (fun n x2 s => mX0_keepLink_L2 n (nI (2 ^ i ||| 2 ^ j)) x2 s) 256 (fun m u => rowE 29 s u ∧ ∀ k, k < 256 → u.1 29 k = nI (gCn k.testBit I + if k < m ∧ su i j k = true then 1 else 0)) (fun u => rowE 29 s u ∧ ∀ k, k < 256 → u.1 29 k = nI (gCn k.testBit I + if k < 256 ∧ su i j k = true then 1 else 0))
    (fun n u hu => ⟨u, by simp only [mX0_keepLink_L2]; rw [show (256 : Int32) = nI 256 from rfl, if_pos (nI_le (Nat.le_refl _) (by decide))], hu⟩)
    (fun n m u hm hu => by
      have hq := (q_sup m hm i hi j hj).1
      cases z : su i j m
      · refine ⟨u, ?_, hu.1, fun k hk => ?_⟩
        · simp only [mX0_keepLink_L2]
          rw [show (256 : Int32) = nI 256 from rfl, if_neg (nI_ge hm (by decide)), if_neg (fun w => by rw [hq, z] at w; cases w), nI_1]
        · rw [hu.2 k hk]
          by_cases w : k = m
          · subst w; rw [if_neg (fun h => by rw [z] at h; cases h.2), if_neg (fun h => by rw [z] at h; cases h.2)]
          · by_cases v : k < m ∧ su i j k = true
            · rw [if_pos v, if_pos ⟨by omega, v.2⟩]
            · rw [if_neg v, if_neg (fun h => v ⟨by omega, h.2⟩)]
      · refine ⟨fm_wr u 29 m (nI (gCn m.testBit I + 1)), ?_, hu.1.wr _ _, fun k hk => ?_⟩
        · simp only [mX0_keepLink_L2]
          rw [show (256 : Int32) = nI 256 from rfl, if_neg (nI_ge hm (by decide)), if_pos (hq.mpr z)]
          simp only [chk8 hm (by decide), if_false]
          rw [rIn _ _ (by omega), sIn _ _ _ (by omega), hu.2 m hm, if_neg (fun h => by omega), Nat.add_zero, nI_1, nI_1]
        · by_cases w : k = m
          · subst w; rw [wrS, if_pos ⟨by omega, z⟩]
          · rw [wrN _ _ (Or.inr w), hu.2 k hk]
            by_cases v : k < m ∧ su i j k = true
            · rw [if_pos v, if_pos ⟨by omega, v.2⟩]
            · rw [if_neg v, if_neg (fun h => v ⟨by omega, h.2⟩)])
    fF (2 ^ i ||| 2 ^ j) s (by omega) (by unfold fF; omega) ⟨rowE.rfl, fun k hk => by
      rw [hs k hk, if_neg (fun h => by have := (q_sup k hk i hi j hj).2.1 h.2; omega), Nat.add_zero]⟩
  refine ⟨t, by rw [mX0_keepLink, e1, b1s], t1, fun m hm => ?_⟩
  rw [t2 m hm, gCn_cons]
  by_cases z : su i j m = true
  · rw [if_pos ⟨hm, z⟩]
    unfold su at z
    simp only [Bool.and_eq_true] at z
    rw [if_pos (by simp only [Bool.and_eq_true]; exact ⟨z.2, z.1⟩)]
  · rw [if_neg (fun h => z h.2)]
    rw [if_neg (fun h => z (by unfold su; simp only [Bool.and_eq_true] at h ⊢; exact ⟨h.2, h.1⟩))]
end LVW
