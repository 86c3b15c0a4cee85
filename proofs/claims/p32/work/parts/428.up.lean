section LVS
/-- who is up -/
def up (τ : fm_S) (i : Nat) : Bool := decide (τ.1 3 i ≠ 0)
theorem up_hi {τ : fm_S} {c : Nat} (hw : WF τ c) {i : Nat} (h1 : c ≤ i) (h2 : i < 8) : up τ i = false := by
  unfold up; rw [hw.2.2.2.1 i h1 h2]; rfl
theorem k_upSet {τ s : fm_S} {c : Nat} (hw : WF τ c) (he : ∀ a b, a < 20 ∨ a = 60 → s.1 a b = τ.1 a b) : ∃ y, mX4_upSet s = some y ∧ m8 y ∧ ∀ j, j < 8 → mk y j = up τ j := by
  have hc := hw.1
  obtain ⟨t, e1, t1, t2⟩ := lpU (fun n x2 (a : Int32) => mX4_upSet_L4 n a x2 s) c (fun i a => m8 a ∧ ∀ j, j < 8 → (mk a j = true ↔ j < i ∧ up τ j = true)) (fun a => m8 a ∧ ∀ j, j < 8 → (mk a j = true ↔ j < c ∧ up τ j = true))
    (fun n a ha => ⟨a, by simp only [mX4_upSet_L4]; rw [he 60 0 (by omega), hw.2.1, if_pos (nI_le (Nat.le_refl _) (by omega))], ha⟩)
    (fun n i a hi ha => by
      have hi8 : i < 8 := by omega
      by_cases u : τ.1 3 i = 0
      · have ui : up τ i = false := by simp [up, u]
        refine ⟨a, ?_, ha.1, fun j hj => ?_⟩
        · simp only [mX4_upSet_L4]
          rw [he 60 0 (by omega), hw.2.1, if_neg (nI_ge hi (by omega))]
          simp only [chk8 hi8 (by decide), if_false]
          rw [rIn _ _ (by omega), he 3 i (by omega), if_pos u, nI_1]
        · rw [ha.2 j hj]
          constructor
          · rintro ⟨h1, h2⟩; exact ⟨by omega, h2⟩
          · rintro ⟨h1, h2⟩
            by_cases z : j = i
            · rw [z, ui] at h2; cases h2
            · exact ⟨by omega, h2⟩
      · have ui : up τ i = true := by simp [up, u]
        obtain ⟨y, g1, g2, g3⟩ := q_with ha.1 hi8
        refine ⟨y, ?_, g2, fun j hj => ?_⟩
        · simp only [mX4_upSet_L4]
          rw [he 60 0 (by omega), hw.2.1, if_neg (nI_ge hi (by omega))]
          simp only [chk8 hi8 (by decide), if_false]
          rw [rIn _ _ (by omega), he 3 i (by omega), if_neg u, g1, b1s, nI_1]
        · rw [g3 j hj, Bool.or_eq_true, ha.2 j hj, beq_iff_eq]
          constructor
          · rintro (⟨h1, h2⟩ | h)
            · exact ⟨by omega, h2⟩
            · subst h; exact ⟨by omega, ui⟩
          · rintro ⟨h1, h2⟩
            by_cases z : j = i
            · exact Or.inr z
            · exact Or.inl ⟨by omega, h2⟩)
    fF 0 0 (Nat.zero_le _) (by unfold fF; omega) ⟨⟨0, by omega, rfl⟩, fun j hj => by
      have z : mk (nI 0) j = _ := mkn (by omega) j
      rw [Nat.zero_testBit] at z
      have z' : mk 0 j = false := z
      rw [z']; exact ⟨fun h => (by cases h), fun h => by omega⟩⟩
  have e1 : mX4_upSet_L4 fF 0 0 s = some t := e1
  refine ⟨t, by rw [mX4_upSet, e1, b1s], t1, fun j hj => ?_⟩
  have h := t2 j hj
  cases hu : up τ j
  · cases ht : mk t j
    · rfl
    · have := (h.mp ht).2; rw [hu] at this; cases this
  · refine h.mpr ⟨?_, hu⟩
    apply Classical.byContradiction
    intro q
    rw [up_hi hw (by omega) hj] at hu; cases hu
end LVS
