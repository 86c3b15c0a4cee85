section LVR
/-- r is among those of G, of the greatest priority, of these the least -/
def Ld (G : Nat → Prop) (p : Nat → Int32) (r : Nat) : Prop := G r ∧ ∀ j, G j → p j < p r ∨ (p j = p r ∧ r ≤ j)
theorem Ld_un {G : Nat → Prop} {p : Nat → Int32} {r r' : Nat} (h : Ld G p r) (h' : Ld G p r') : r = r' := by
  rcases h.2 r' h'.1 with a | ⟨a, b⟩ <;> rcases h'.2 r h.1 with a' | ⟨a', b'⟩
  · exact absurd (Int32.lt_trans a a') Int32.lt_irrefl
  · rw [a'] at a; exact absurd a Int32.lt_irrefl
  · rw [a] at a'; exact absurd a' Int32.lt_irrefl
  · omega
theorem k_outr {τ s : fm_S} (he : ∀ a b, a < 20 ∨ a = 60 → s.1 a b = τ.1 a b) {i j : Nat} (hi : i < 8) (hj : j < 8) : ∃ b : Bool, mX4_outranks (nI i) (nI j) s = some (bI b) ∧ (b = true ↔ τ.1 4 j < τ.1 4 i ∨ (τ.1 4 i = τ.1 4 j ∧ i < j)) := by
  rw [mX4_outranks]
  simp only [chk8 hi (by decide), chk8 hj (by decide), if_false]
  rw [rIn _ _ (by omega), rIn _ _ (by omega), he 4 i (by omega), he 4 j (by omega)]
  by_cases e : τ.1 4 i = τ.1 4 j
  · rw [if_pos e]
    by_cases q : j ≤ i
    · rw [if_pos (nI_le q (by omega))]
      refine ⟨false, rfl, (fun h => (by cases h)), ?_⟩
      rintro (h | ⟨_, h⟩)
      · rw [e] at h; exact absurd h Int32.lt_irrefl
      · omega
    · rw [if_neg (nI_ge (by omega) (by omega))]
      exact ⟨true, rfl, fun _ => Or.inr ⟨e, by omega⟩, fun _ => rfl⟩
  · rw [if_neg e]
    by_cases q : τ.1 4 i ≤ τ.1 4 j
    · rw [if_pos q]
      refine ⟨false, rfl, (fun h => (by cases h)), ?_⟩
      rintro (h | ⟨h, _⟩)
      · exact absurd q (Int32.not_le.mpr h)
      · exact absurd h e
    · rw [if_neg q]
      exact ⟨true, rfl, fun _ => Or.inl (Int32.not_le.mp q), fun _ => rfl⟩
theorem k_ldC {τ s : fm_S} {c : Nat} (hw : WF τ c) (he : ∀ a b, a < 20 ∨ a = 60 → s.1 a b = τ.1 a b) {x : Int32} (hx : m8 x) {i : Nat} (hi : i < c) (hxi : mk x i = true) (hhi : ∀ j, c ≤ j → j < 8 → mk x j = false) : ∃ r, r < 8 ∧ mX4_leader_L34 fF x (nI i) 0 s = some (nI r) ∧ Ld (fun j => j < 8 ∧ mk x j = true) (τ.1 4) r := by
  have hc := hw.1
  obtain ⟨t, e1, r, r1, r2, r3⟩ := lpU (fun n x4 (a : Int32) => mX4_leader_L34 n x a x4 s) c
    (fun k a => ∃ r, r < 8 ∧ a = nI r ∧ Ld (fun j => j < 8 ∧ mk x j = true ∧ (j = i ∨ j < k)) (τ.1 4) r) (fun a => ∃ r, r < 8 ∧ a = nI r ∧ Ld (fun j => j < 8 ∧ mk x j = true) (τ.1 4) r)
    (fun n a ⟨r, r1, r2, r3⟩ => ⟨a, by simp only [mX4_leader_L34]; rw [he 60 0 (by omega), hw.2.1, if_pos (nI_le (Nat.le_refl _) (by omega))], r, r1, r2, ⟨r3.1.1, r3.1.2.1⟩, fun j hj => r3.2 j ⟨hj.1, hj.2, Or.inr (by
      apply Classical.byContradiction
      intro q
      have hm : mk x j = true := hj.2
      rw [hhi j (by omega) hj.1] at hm; cases hm)⟩⟩)
    (fun n k a hk ⟨r, r1, r2, r3⟩ => by
      have hk8 : k < 8 := by omega
      have hh := q_holds hx hk8
      by_cases q : mk x k = true
      · rw [if_pos q] at hh
        obtain ⟨b, o1, o2⟩ := k_outr he hk8 r1
        cases b
        · refine ⟨a, ?_, r, r1, r2, ⟨r3.1.1, r3.1.2.1, r3.1.2.2.imp (fun h => h) (fun h => by omega)⟩, fun j hj => ?_⟩
          · simp only [mX4_leader_L34]
            rw [he 60 0 (by omega), hw.2.1, if_neg (nI_ge hk (by omega)), hh, b1s, if_neg (by decide), r2, o1, b1s, if_pos (by decide), nI_1]
          · by_cases z : j = k
            · subst z
              have no : ¬ (τ.1 4 r < τ.1 4 j ∨ (τ.1 4 j = τ.1 4 r ∧ j < r)) := fun h => by have := o2.mpr h; cases this
              by_cases z2 : τ.1 4 j < τ.1 4 r
              · exact Or.inl z2
              · have : τ.1 4 j = τ.1 4 r := Int32.le_antisymm (Int32.not_lt.mp (fun h => no (Or.inl h))) (Int32.not_lt.mp z2)
                exact Or.inr ⟨this, by
                  apply Classical.byContradiction
                  intro h
                  exact no (Or.inr ⟨this, by omega⟩)⟩
            · exact r3.2 j ⟨hj.1, hj.2.1, hj.2.2.imp (fun h => h) (fun h => by omega)⟩
        · refine ⟨nI k, ?_, k, hk8, rfl, ⟨hk8, q, Or.inr (by omega)⟩, fun j hj => ?_⟩
          · simp only [mX4_leader_L34]
            rw [he 60 0 (by omega), hw.2.1, if_neg (nI_ge hk (by omega)), hh, b1s, if_neg (by decide), r2, o1, b1s, if_neg (by decide), nI_1]
          · by_cases z : j = k
            · subst z; exact Or.inr ⟨rfl, Nat.le_refl _⟩
            · have h := r3.2 j ⟨hj.1, hj.2.1, hj.2.2.imp (fun h => h) (fun h => by omega)⟩
              rcases o2.mp rfl with g | ⟨g, g2⟩
              · left
                rcases h with h | ⟨h, _⟩
                · exact Int32.lt_trans h g
                · rw [h]; exact g
              · rcases h with h | ⟨h, h2⟩
                · left; rw [g]; exact h
                · right; exact ⟨by rw [h, g], by omega⟩
      · rw [if_neg q] at hh
        refine ⟨a, ?_, r, r1, r2, ⟨r3.1.1, r3.1.2.1, r3.1.2.2.imp (fun h => h) (fun h => by omega)⟩, fun j hj => ?_⟩
        · simp only [mX4_leader_L34]
          rw [he 60 0 (by omega), hw.2.1, if_neg (nI_ge hk (by omega)), hh, b1s, if_pos rfl, nI_1]
        · by_cases z : j = k
          · subst z; exact absurd hj.2.1 q
          · exact r3.2 j ⟨hj.1, hj.2.1, hj.2.2.imp (fun h => h) (fun h => by omega)⟩)
    fF 0 (nI i) (Nat.zero_le _) (by unfold fF; omega) ⟨i, by omega, rfl, ⟨by omega, hxi, Or.inl rfl⟩, fun j hj => by
      rcases hj.2.2 with h | h
      · subst h; exact Or.inr ⟨rfl, Nat.le_refl _⟩
      · omega⟩
  have e1 : mX4_leader_L34 fF x (nI i) 0 s = some t := e1
  exact ⟨r, r1, by rw [e1, r2], r3⟩
end LVR
