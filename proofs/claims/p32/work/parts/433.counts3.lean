section LVX
/-- the pairs before (i, j) in the class's order -/
def cP2 (τ : fm_S) (i j : Nat) (e : Nat × Nat) : Prop := e.1 < e.2 ∧ e.2 < 8 ∧ (e.2 < i ∨ (e.2 = i ∧ e.1 < j)) ∧ lk τ e.1 e.2 = true
theorem k_countsC {τ s : fm_S} {c : Nat} (hw : WF τ c) (hn : NV s (lk τ)) : ∃ s' I, mX0_rankOf s = some (nI I.length, s') ∧ rowE 29 s s' ∧ gMax (cP2 τ 8 0) I := by
  obtain ⟨s0, e0, r0, z0⟩ := k_fill 29 0 s (by decide)
  have inner : ∀ i, i < 8 → ∀ (x : Int32) (u : fm_S), (∃ I : List (Nat × Nat), rowE 29 s u ∧ x = nI I.length ∧ gMax (cP2 τ i 0) I ∧ CT u I ∧ I.length ≤ 8 * i) → ∃ y v, mX0_rankOf_L21 fF x (nI i) 0 u = some (y, v) ∧ ∃ I : List (Nat × Nat), rowE 29 s v ∧ y = nI I.length ∧ gMax (cP2 τ (i + 1) 0) I ∧ CT v I ∧ I.length ≤ 8 * (i + 1) := by
    intro i hi x u hu
    obtain ⟨I0, a1, a2, a3, a4, a5⟩ := hu
    obtain ⟨⟨y, v⟩, e1, I, b1, b2, b3, b4, b5⟩ := lpU (fun n x4 (a : Int32 × fm_S) => mX0_rankOf_L21 n a.1 (nI i) x4 a.2) i
      (fun j a => ∃ I : List (Nat × Nat), rowE 29 s a.2 ∧ a.1 = nI I.length ∧ gMax (cP2 τ i j) I ∧ CT a.2 I ∧ I.length ≤ 8 * i + j) (fun a => ∃ I : List (Nat × Nat), rowE 29 s a.2 ∧ a.1 = nI I.length ∧ gMax (cP2 τ (i + 1) 0) I ∧ CT a.2 I ∧ I.length ≤ 8 * (i + 1))
      (fun n a ⟨I, q1, q2, q3, q4, q5⟩ => ⟨a, by simp only [mX0_rankOf_L21]; rw [if_pos (nI_le (Nat.le_refl _) (by omega))], I, q1, q2, gMax_iff q3 (fun e => by
        unfold cP2
        constructor
        · rintro ⟨w1, w2, w3, w4⟩; exact ⟨w1, w2, by omega, w4⟩
        · rintro ⟨w1, w2, w3, w4⟩; exact ⟨w1, w2, by omega, w4⟩), q4, by omega⟩)
      (fun n j a hj ⟨I, q1, q2, q3, q4, q5⟩ => by
        have hj8 : j < 8 := by omega
        obtain ⟨w, p1, p2⟩ := k_pm hi hj8
        have hnt : NV a.2 (lk τ) := fun b hb => by rw [q1.1 21 b (by omega)]; exact hn b hb
        have hj0 := k_joins20 (hnt i hi).1 hi hj8
        rw [(hnt i hi).2 j hj8] at hj0
        have skip : lk τ j i = false → gMax (cP2 τ i (j + 1)) I := fun h => gMax_iff q3 (fun e => by
          unfold cP2
          constructor
          · rintro ⟨w1, w2, w3, w4⟩
            refine ⟨w1, w2, ?_, w4⟩
            apply Classical.byContradiction
            intro z
            have z1 : e.2 = i ∧ e.1 = j := by omega
            rw [z1.1, z1.2, h] at w4; cases w4
          · rintro ⟨w1, w2, w3, w4⟩; exact ⟨w1, w2, by omega, w4⟩)
        by_cases hl : lk τ i j = true
        · rw [hl, if_pos rfl] at hj0
          have hl2 : lk τ j i = true := by rw [lk_symm hw hj8 hi]; exact hl
          obtain ⟨b, f1, f2⟩ := k_leaves q4 q3.1 q3.2.1 hi hj8 (by omega) (by omega)
          have P' : ∀ x, cP2 τ i (j + 1) x ↔ cP2 τ i j x ∨ x = (j, i) := fun x => by
            unfold cP2
            constructor
            · rintro ⟨w1, w2, w3, w4⟩
              by_cases z : x.2 = i ∧ x.1 = j
              · right; exact Prod.ext z.2 z.1
              · exact Or.inl ⟨w1, w2, by omega, w4⟩
            · rintro (⟨w1, w2, w3, w4⟩ | rfl)
              · exact ⟨w1, w2, by omega, w4⟩
              · exact ⟨hj, hi, by show i < i ∨ (i = i ∧ j < j + 1); omega, hl2⟩
          cases b
          · have nf : ¬ gFree ((j, i) :: I) := fun z => by have := f2.mpr z; cases this
            refine ⟨a, ?_, I, q1, q2, gMax_skip q3 P' nf, q4, by omega⟩
            simp only [mX0_rankOf_L21]
            rw [if_neg (nI_ge hj (by omega)), p1, b1s, p2, b1s, hj0, b1s, if_neg (by decide), f1, b1s, if_pos (by decide), nI_1]
          · obtain ⟨s', g1, g2, g3⟩ := k_keep q4 hi hj8
            refine ⟨(a.1 + 1, s'), ?_, (j, i) :: I, q1.trans g2, by show a.1 + 1 = _; rw [q2]; exact nI_1 _, gMax_add q3 ⟨hj8, hi, by show j ≠ i; omega⟩ P' (f2.mp rfl), g3, by show I.length + 1 ≤ _; omega⟩
            simp only [mX0_rankOf_L21]
            rw [if_neg (nI_ge hj (by omega)), p1, b1s, p2, b1s, hj0, b1s, if_neg (by decide), f1, b1s, if_neg (by decide), g1, b1s, nI_1]
        · have hl0 := Bool.eq_false_iff.mpr hl
          rw [hl0, if_neg (by decide)] at hj0
          refine ⟨a, ?_, I, q1, q2, skip (by rw [lk_symm hw hj8 hi]; exact hl0), q4, by omega⟩
          simp only [mX0_rankOf_L21]
          rw [if_neg (nI_ge hj (by omega)), p1, b1s, p2, b1s, hj0, b1s, if_pos rfl, nI_1])
      fF 0 (x, u) (Nat.zero_le _) (by unfold fF; omega) ⟨I0, a1, a2, a3, a4, by omega⟩
    exact ⟨y, v, e1, I, b1, b2, b3, b4, b5⟩
  obtain ⟨⟨y, v⟩, e1, I, b1, b2, b3⟩ := lpU (fun n x3 (a : Int32 × fm_S) => mX0_rankOf_L12 n a.1 x3 a.2) 8
    (fun i a => ∃ I : List (Nat × Nat), rowE 29 s a.2 ∧ a.1 = nI I.length ∧ gMax (cP2 τ i 0) I ∧ CT a.2 I ∧ I.length ≤ 8 * i) (fun a => ∃ I : List (Nat × Nat), rowE 29 s a.2 ∧ a.1 = nI I.length ∧ gMax (cP2 τ 8 0) I)
    (fun n a ⟨I, q1, q2, q3, _⟩ => ⟨a, by simp only [mX0_rankOf_L12]; rw [show (8 : Int32) = nI 8 from rfl, if_pos (nI_le (Nat.le_refl _) (by decide))], I, q1, q2, q3⟩)
    (fun n i a hi ha => by
      obtain ⟨y, v, g1, g2⟩ := inner i hi a.1 a.2 ha
      refine ⟨(y, v), ?_, g2⟩
      simp only [mX0_rankOf_L12]
      rw [show (8 : Int32) = nI 8 from rfl, if_neg (nI_ge hi (by decide)), g1, b2s, nI_1])
    fF 0 (0, s0) (Nat.zero_le _) (by unfold fF; omega) ⟨[], r0, rfl, gMax_none (fun e he => by have := he.2.2.1; omega), fun m hm => by rw [z0 m hm]; rfl, Nat.zero_le _⟩
  have e1 : mX0_rankOf_L12 fF 0 0 s0 = some (y, v) := e1
  dsimp only at b1 b2
  exact ⟨v, I, by rw [mX0_rankOf, e0, b1s, e1, b2s, b2], b1, b3⟩
end LVX
