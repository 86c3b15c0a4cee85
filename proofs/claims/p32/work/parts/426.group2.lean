section LVQ
/-- the first of his group -/
def fst (τ : fm_S) (i : Nat) : Prop := τ.1 3 i ≠ 0 ∧ ∀ b, b < i → ¬ Gr τ i b
noncomputable def gc (τ : fm_S) : Nat → Int32
  | 0 => 0
  | n + 1 => gc τ n + (Classical.epsilon fun z : Int32 => (fst τ n → z = 1) ∧ (¬ fst τ n → z = 0))
theorem gc_s (τ : fm_S) (n : Nat) : (fst τ n → gc τ (n + 1) = gc τ n + 1) ∧ (¬ fst τ n → gc τ (n + 1) = gc τ n) := by
  have h := Classical.epsilon_spec (p := fun z : Int32 => (fst τ n → z = 1) ∧ (¬ fst τ n → z = 0)) (by
    by_cases q : fst τ n
    · exact ⟨1, fun _ => rfl, fun h => absurd q h⟩
    · exact ⟨0, fun h => absurd h q, fun _ => rfl⟩)
  refine ⟨fun q => ?_, fun q => ?_⟩
  · rw [gc, h.1 q]
  · rw [gc, h.2 q, Int32.add_zero]
theorem q_low : ∀ m, m < 256 → ∀ i, i < 8 → (nI m &&& (((1 : Int32) <<< (nI i &&& 31)) - 1) = 0 ↔ (List.range i).all (fun b => !m.testBit b) = true) := by decide +kernel
theorem k_countC {τ s : fm_S} {c : Nat} (hw : WF τ c) (hn : NV s (lk τ)) (he : ∀ a b, a < 20 ∨ a = 60 → s.1 a b = τ.1 a b) : mX4_countGroups s = some (gc τ c) := by
  have hc := hw.1
  obtain ⟨t, e1, e2⟩ := lpU (fun n x3 (a : Int32 × Int32) => mX4_countGroups_L6 n a.1 a.2 x3 s) c
    (fun i a => a.1 = gc τ i ∧ m8 a.2 ∧ ∀ j, j < 8 → (mk a.2 j = true ↔ ∃ b, b < i ∧ τ.1 3 b ≠ 0 ∧ Gr τ b j)) (fun r => r = gc τ c)
    (fun n a ha => ⟨a.1, by simp only [mX4_countGroups_L6]; rw [he 60 0 (by omega), hw.2.1, if_pos (nI_le (Nat.le_refl _) (by omega))], ha.1⟩)
    (fun n i a hi ha => by
      obtain ⟨h1, h2, h3⟩ := ha
      have hi8 : i < 8 := by omega
      by_cases u : τ.1 3 i = 0
      · have nf : ¬ fst τ i := fun q => q.1 u
        refine ⟨a, ?_, by rw [(gc_s τ i).2 nf]; exact h1, h2, fun j hj => ?_⟩
        · simp only [mX4_countGroups_L6]
          rw [he 60 0 (by omega), hw.2.1, if_neg (nI_ge hi (by omega))]
          simp only [chk8 hi8 (by decide), if_false]
          rw [rIn _ _ (by omega), he 3 i (by omega), if_pos u, nI_1]
        · rw [h3 j hj]
          constructor
          · rintro ⟨b, b1, b2, b3⟩; exact ⟨b, by omega, b2, b3⟩
          · rintro ⟨b, b1, b2, b3⟩
            by_cases z : b = i
            · subst z; exact absurd u b2
            · exact ⟨b, by omega, b2, b3⟩
      · have hh := q_holds h2 hi8
        by_cases q : mk a.2 i = true
        · rw [if_pos q] at hh
          obtain ⟨b, b1, b2, b3⟩ := (h3 i hi8).mp q
          have nf : ¬ fst τ i := fun z => z.2 b b1 (Gr_symm hw b3)
          refine ⟨a, ?_, by rw [(gc_s τ i).2 nf]; exact h1, h2, fun j hj => ?_⟩
          · simp only [mX4_countGroups_L6]
            rw [he 60 0 (by omega), hw.2.1, if_neg (nI_ge hi (by omega))]
            simp only [chk8 hi8 (by decide), if_false]
            rw [rIn _ _ (by omega), he 3 i (by omega), if_neg u, hh, b1s, if_neg (by decide), nI_1]
          · rw [h3 j hj]
            constructor
            · rintro ⟨b', w1, w2, w3⟩; exact ⟨b', by omega, w2, w3⟩
            · rintro ⟨b', w1, w2, w3⟩
              by_cases z : b' = i
              · subst z; exact ⟨b, b1, b2, Gr_trans b3 w3⟩
              · exact ⟨b', by omega, w2, w3⟩
        · rw [if_neg q] at hh
          obtain ⟨y, g1, g2, g3⟩ := k_groupC hn hi8
          have hf : fst τ i := ⟨u, fun b hb z => q ((h3 i hi8).mpr ⟨b, hb, by
            rcases Gr_up z with z1 | z1
            · omega
            · exact z1, Gr_symm hw z⟩)⟩
          have ho := q_or2 h2 g2
          refine ⟨(a.1 + 1, a.2 ||| y), ?_, by rw [(gc_s τ i).1 hf, h1], ho.1, fun j hj => ?_⟩
          · simp only [mX4_countGroups_L6]
            rw [he 60 0 (by omega), hw.2.1, if_neg (nI_ge hi (by omega))]
            simp only [chk8 hi8 (by decide), if_false]
            rw [rIn _ _ (by omega), he 3 i (by omega), if_neg u, hh, b1s, if_pos rfl, g1, b1s, nI_1]
          · show mk (a.2 ||| y) j = true ↔ _
            rw [ho.2 j, Bool.or_eq_true, h3 j hj, g3 j hj]
            constructor
            · rintro (⟨b', w1, w2, w3⟩ | w)
              · exact ⟨b', by omega, w2, w3⟩
              · exact ⟨i, by omega, u, w⟩
            · rintro ⟨b', w1, w2, w3⟩
              by_cases z : b' = i
              · subst z; exact Or.inr w3
              · exact Or.inl ⟨b', by omega, w2, w3⟩)
    fF 0 (0, 0) (Nat.zero_le _) (by unfold fF; omega) ⟨rfl, ⟨0, by omega, rfl⟩, fun j hj => by
      have z : mk (nI 0) j = _ := mkn (by omega) j
      rw [Nat.zero_testBit] at z
      have z' : mk 0 j = false := z
      show mk 0 j = true ↔ _
      rw [z']
      exact ⟨fun h => (by cases h), fun ⟨b, h, _⟩ => absurd h (by omega)⟩⟩
  have e1 : mX4_countGroups_L6 fF 0 0 0 s = some t := e1
  rw [mX4_countGroups, e1, b1s, e2]
end LVQ
