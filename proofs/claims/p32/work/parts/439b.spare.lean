section LVBF
/-- a net less a pair -/
def lkx (L : Nat → Nat → Bool) (i j : Nat) : Nat → Nat → Bool := fun a b => L a b && !((a == i && b == j) || (a == j && b == i))
theorem k_cut20 {s : fm_S} {L : Nat → Nat → Bool} (hn : NV s L) {i j : Nat} (hi : i < 8) (hj : j < 8) (hij : i ≠ j) : ∃ s', mX1_cut20 (nI i) (nI j) s = some s' ∧ rowE 21 s s' ∧ NV s' (lkx L i j) := by
  obtain ⟨y, e1, y1, y2⟩ := q_without (hn i hi).1 hj
  obtain ⟨z, e2, z1, z2⟩ := q_without (hn j hj).1 hi
  have hz : (fm_wr s 21 i y).1 21 j = s.1 21 j := wrN _ _ (Or.inr (fun q => hij q.symm))
  refine ⟨fm_wr (fm_wr s 21 i y) 21 j z, ?_, (rowE.rfl.wr i y).wr j z, fun a ha => ?_⟩
  · rw [mX1_cut20]
    simp only [chk8 hi (by decide), chk8 hj (by decide), if_false, rIn _ _ (show i < 2 ^ 31 by omega), rIn _ _ (show j < 2 ^ 31 by omega), sIn _ _ _ (show i < 2 ^ 31 by omega), sIn _ _ _ (show j < 2 ^ 31 by omega)]
    rw [e1, b1s, hz, e2, b1s]
  · have hne : (i == j) = false := by simp [hij]
    have hne2 : (j == i) = false := beq_false_of_ne (fun q => hij q.symm)
    by_cases h1 : a = j
    · subst h1
      rw [wrS]
      refine ⟨z1, fun b hb => ?_⟩
      rw [z2 b hb, (hn a ha).2 b hb]
      unfold lkx
      rw [hne2]; simp
    · rw [wrN _ _ (Or.inr h1)]
      have h1' : (a == j) = false := by simp [h1]
      by_cases h2 : a = i
      · subst h2
        rw [wrS]
        refine ⟨y1, fun b hb => ?_⟩
        rw [y2 b hb, (hn a ha).2 b hb]
        unfold lkx
        rw [hne]; simp
      · rw [wrN _ _ (Or.inr h2)]
        have h2' : (a == i) = false := by simp [h2]
        refine ⟨(hn a ha).1, fun b hb => ?_⟩
        rw [(hn a ha).2 b hb]
        unfold lkx
        rw [h1', h2']; simp
theorem lkx_symm {L : Nat → Nat → Bool} (hL : ∀ i, i < 8 → ∀ j, j < 8 → L i j = L j i) (i j : Nat) : ∀ a, a < 8 → ∀ b, b < 8 → lkx L i j a b = lkx L i j b a := by
  intro a ha b hb
  unfold lkx
  rw [hL a ha b hb, Bool.or_comm, Bool.and_comm (a == j), Bool.and_comm (a == i)]
end LVBF
