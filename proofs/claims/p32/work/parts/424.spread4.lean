section LVO
theorem wf_hand {τ τ' : fm_S} {c : Nat} (hw : WF τ c) (a1 : ∀ a b, a ≠ 22 → a ≠ 23 → a ≠ 6 → a ≠ 7 → a ≠ 8 → τ'.1 a b = τ.1 a b) (a8 : ∀ i, τ'.1 8 i = SL τ c i) : WF τ' c := by
  obtain ⟨h1, h2, h3, h4, h5, h6, h7, h8⟩ := id hw
  have A : ∀ a b, (a < 6 ∨ (8 < a ∧ a < 20) ∨ a = 60) → τ'.1 a b = τ.1 a b := fun a b h => a1 a b (by omega) (by omega) (by omega) (by omega) (by omega)
  refine ⟨h1, by rw [A _ _ (by omega)]; exact h2, fun i hi => by rw [A _ _ (by omega)]; exact h3 i hi, fun i hi hi' => by rw [A _ _ (by omega)]; exact h4 i hi hi', fun i hi => by rw [A _ _ (by omega)]; exact h5 i hi, fun i hi j hj => by rw [A _ _ (by omega), A _ _ (by omega)]; exact h6 i hi j hj, fun i hi j hj => by rw [A _ _ (by omega), A _ _ (by omega)]; exact h7 i hi j hj, fun i hi => ?_⟩
  rw [a8 i]; unfold SL
  by_cases z : i < c
  · rw [if_pos z]
    rcases rh_cases hw z with hr | ⟨j, hj, -, hr⟩
    · rw [if_pos hr]; exact h8 i hi
    · have hr1 : ¬ nI j = -1 := by
        have : ∀ f, f < 9 → ¬ nI f = -1 := by decide +kernel
        exact this j (by omega)
      rw [hr, if_neg hr1]
      exact ⟨j + 1, by omega, (nI_pred j).symm⟩
  · rw [if_neg z]; exact h8 i hi
def hS (s : fm_S) : Option fm_S := (mX4_handHalves s).map Prod.snd
noncomputable def AC (τ : fm_S) (c : Nat) : Nat → Int32
  | 0 => 0
  | k + 1 => AC τ c k + SC (Tc hS τ k) c
theorem Th_wf {τ : fm_S} {c : Nat} (hw : WF τ c) (hn : NV τ (lk τ)) : ∀ k, (WF (Tc hS τ k) c ∧ NV (Tc hS τ k) (lk (Tc hS τ k))) ∧ mX4_handHalves (Tc hS τ k) = some (SC (Tc hS τ k) c, Tc hS τ (k + 1)) ∧ (∀ a b, a ≠ 22 → a ≠ 23 → a ≠ 6 → a ≠ 7 → a ≠ 8 → (Tc hS τ k).1 a b = τ.1 a b) := by
  intro k
  induction k with
  | zero =>
    obtain ⟨t, e, -⟩ := cl_hand hw hn
    refine ⟨⟨hw, hn⟩, ?_, fun _ _ _ _ _ _ _ => rfl⟩
    show mX4_handHalves τ = some (SC τ c, (hS τ).getD τ)
    unfold hS
    rw [e]; rfl
  | succ k ih =>
    obtain ⟨⟨w, n⟩, e, f⟩ := ih
    obtain ⟨t, e1, e2, -, -, e5⟩ := cl_hand w n
    have et : Tc hS τ (k + 1) = t := by
      have := e.symm.trans e1
      exact (Prod.mk.inj (Option.some.inj this)).2
    have w2 : WF (Tc hS τ (k + 1)) c := by rw [et]; exact wf_hand w e2 e5
    have n2 : NV (Tc hS τ (k + 1)) (lk (Tc hS τ (k + 1))) := by
      rw [et]
      intro a ha
      rw [e2 21 a (by omega) (by omega) (by omega) (by omega) (by omega)]
      exact ⟨(n a ha).1, fun b hb => by rw [(n a ha).2 b hb]; exact (lk_of5 (fun a b hab => e2 a b (by omega) (by omega) (by omega) (by omega) (by omega)) a b).symm⟩
    refine ⟨⟨w2, n2⟩, ?_, fun a b h1 h2 h3 h4 h5 => by rw [et, e2 a b h1 h2 h3 h4 h5]; exact f a b h1 h2 h3 h4 h5⟩
    obtain ⟨u, g, -⟩ := cl_hand w2 n2
    show mX4_handHalves (Tc hS τ (k + 1)) = some (SC (Tc hS τ (k + 1)) c, (hS (Tc hS τ (k + 1))).getD _)
    unfold hS
    unfold hS at g
    rw [g]; rfl
end LVO
