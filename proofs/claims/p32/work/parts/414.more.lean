section LVE
theorem k_flip {s : fm_S} {i j : Nat} (hi : i < 8) (hj : j < 8) (hij : i ≠ j) (hm : ∀ a, a < 8 → m8 (s.1 19 a)) (hs : mk (s.1 19 j) i = mk (s.1 19 i) j) : ∃ s', (if mk (s.1 19 i) j then mX1_cut18 (nI i) (nI j) s else mX1_join18 (nI i) (nI j) s) = some s' ∧ rowE 19 s s' ∧ ∀ a, a < 8 → m8 (s'.1 19 a) ∧ ∀ b, b < 8 → mk (s'.1 19 a) b = if (a = i ∧ b = j) ∨ (a = j ∧ b = i) then !(mk (s.1 19 i) j) else mk (s.1 19 a) b := by
  by_cases hb : mk (s.1 19 i) j = true
  · rw [if_pos hb]
    obtain ⟨y, e1, y1, y2⟩ := q_without (hm i hi) hj
    obtain ⟨z, e2, z1, z2⟩ := q_without (hm j hj) hi
    have hz : (fm_wr s 19 i y).1 19 j = s.1 19 j := wrN _ _ (Or.inr (fun q => hij q.symm))
    refine ⟨fm_wr (fm_wr s 19 i y) 19 j z, ?_, (rowE.rfl.wr i y).wr j z, fun a ha => ?_⟩
    · rw [mX1_cut18]
      simp only [chk8 hi (by decide), chk8 hj (by decide), if_false, rIn _ _ (show i < 2 ^ 31 by omega), rIn _ _ (show j < 2 ^ 31 by omega), sIn _ _ _ (show i < 2 ^ 31 by omega), sIn _ _ _ (show j < 2 ^ 31 by omega)]
      rw [e1, b1s, hz, e2, b1s]
    · by_cases h1 : a = j
      · subst h1
        rw [wrS]
        refine ⟨z1, fun b hb' => ?_⟩
        rw [z2 b hb', hb]
        by_cases e : b = i
        · subst e; simp
        · have : ¬ ((a = i ∧ b = a) ∨ (a = a ∧ b = i)) := by omega
          rw [if_neg this]; simp [e]
      · rw [wrN _ _ (Or.inr h1)]
        by_cases h2 : a = i
        · subst h2
          rw [wrS]
          refine ⟨y1, fun b hb' => ?_⟩
          rw [y2 b hb', hb]
          by_cases e : b = j
          · subst e; simp
          · have : ¬ ((a = a ∧ b = j) ∨ (a = j ∧ b = a)) := by omega
            rw [if_neg this]; simp [e]
        · rw [wrN _ _ (Or.inr h2)]
          exact ⟨hm a ha, fun b _ => by rw [if_neg (by omega)]⟩
  · rw [if_neg hb]
    have hb0 : mk (s.1 19 i) j = false := Bool.eq_false_iff.mpr hb
    obtain ⟨y, e1, y1, y2⟩ := q_with (hm i hi) hj
    obtain ⟨z, e2, z1, z2⟩ := q_with (hm j hj) hi
    have hz : (fm_wr s 19 i y).1 19 j = s.1 19 j := wrN _ _ (Or.inr (fun q => hij q.symm))
    refine ⟨fm_wr (fm_wr s 19 i y) 19 j z, ?_, (rowE.rfl.wr i y).wr j z, fun a ha => ?_⟩
    · rw [mX1_join18]
      simp only [chk8 hi (by decide), chk8 hj (by decide), if_false, rIn _ _ (show i < 2 ^ 31 by omega), rIn _ _ (show j < 2 ^ 31 by omega), sIn _ _ _ (show i < 2 ^ 31 by omega), sIn _ _ _ (show j < 2 ^ 31 by omega)]
      rw [e1, b1s, hz, e2, b1s]
    · by_cases h1 : a = j
      · subst h1
        rw [wrS]
        refine ⟨z1, fun b hb' => ?_⟩
        rw [z2 b hb', hb0]
        by_cases e : b = i
        · subst e; simp
        · have : ¬ ((a = i ∧ b = a) ∨ (a = a ∧ b = i)) := by omega
          rw [if_neg this]; simp [e]
      · rw [wrN _ _ (Or.inr h1)]
        by_cases h2 : a = i
        · subst h2
          rw [wrS]
          refine ⟨y1, fun b hb' => ?_⟩
          rw [y2 b hb', hb0]
          by_cases e : b = j
          · subst e; simp
          · have : ¬ ((a = a ∧ b = j) ∨ (a = j ∧ b = a)) := by omega
            rw [if_neg this]; simp [e]
        · rw [wrN _ _ (Or.inr h2)]
          exact ⟨hm a ha, fun b _ => by rw [if_neg (by omega)]⟩
end LVE
