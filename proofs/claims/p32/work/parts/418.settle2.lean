section LVI
theorem win_n {x : Int32} (h : win x 1 50 = true) : ∃ r, 1 ≤ r ∧ r ≤ 50 ∧ x = nI r := by
  unfold win at h
  simp only [Bool.and_eq_true, decide_eq_true_eq] at h
  have h0 : ¬ x < 0 := fun q => h.1 (Int32.lt_trans q (by decide))
  obtain ⟨r, hr, rfl⟩ := nI_of2 (M := 50) (n := 50) (by decide) h0 h.2
  refine ⟨r, ?_, hr, rfl⟩
  apply Classical.byContradiction
  intro q
  have : r = 0 := by omega
  subst this
  exact h.1 (by decide)
/-- the class's stores, round by round -/
def Tc (f : fm_S → Option fm_S) (τ : fm_S) : Nat → fm_S
  | 0 => τ
  | n + 1 => (f (Tc f τ n)).getD (Tc f τ n)
theorem Tc_wf {τ : fm_S} {c : Nat} (hw : WF τ c) : ∀ k, WF (Tc mX4_stepTogether τ k) c ∧ mX4_stepTogether (Tc mX4_stepTogether τ k) = some (Tc mX4_stepTogether τ (k + 1)) ∧ (∀ a b, ¬ (20 ≤ a ∧ a < 40) → a ≠ 1 → a ≠ 2 → (Tc mX4_stepTogether τ k).1 a b = τ.1 a b) := by
  intro k
  induction k with
  | zero =>
    obtain ⟨t, e, -⟩ := cl_round hw
    refine ⟨hw, ?_, fun _ _ _ _ _ => rfl⟩
    show mX4_stepTogether τ = some ((mX4_stepTogether τ).getD τ)
    rw [e]; rfl
  | succ k ih =>
    obtain ⟨w, e, f⟩ := ih
    obtain ⟨t, e1, e2, -⟩ := cl_round w
    have et : Tc mX4_stepTogether τ (k + 1) = t := by
      have := e.symm.trans e1
      exact Option.some.inj this
    have w2 : WF (Tc mX4_stepTogether τ (k + 1)) c := by
      rw [et]; exact w.of (fun a b hab => e2 a b (by omega) (by omega) (by omega))
    refine ⟨w2, ?_, fun a b h0 h1 h2 => by rw [et, e2 a b h0 h1 h2]; exact f a b h0 h1 h2⟩
    obtain ⟨u, g, -⟩ := cl_round w2
    show mX4_stepTogether (Tc mX4_stepTogether τ (k + 1)) = some ((mX4_stepTogether (Tc mX4_stepTogether τ (k + 1))).getD _)
    rw [g]; rfl
end LVI
