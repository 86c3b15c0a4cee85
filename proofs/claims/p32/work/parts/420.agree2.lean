section LVK
theorem lk_of5 {τ τ' : fm_S} (e : ∀ a b, a = 1 ∨ a = 2 ∨ a = 3 ∨ a = 19 ∨ a = 60 → τ'.1 a b = τ.1 a b) (i j : Nat) : lk τ' i j = lk τ i j := by
  unfold lk sq
  rw [e 3 i (by omega), e 3 j (by omega), e 19 i (by omega), e 60 1 (by omega), e 1 i (by omega), e 1 j (by omega), e 2 i (by omega), e 2 j (by omega)]
theorem Te_wf {τ : fm_S} {c : Nat} (hw : WF τ c) (hn : NV τ (lk τ)) : ∀ k, (WF (Tc mX4_exchangeEstimates τ k) c ∧ NV (Tc mX4_exchangeEstimates τ k) (lk (Tc mX4_exchangeEstimates τ k))) ∧ mX4_exchangeEstimates (Tc mX4_exchangeEstimates τ k) = some (Tc mX4_exchangeEstimates τ (k + 1)) ∧ (∀ a b, a ≠ 22 → a ≠ 5 → (Tc mX4_exchangeEstimates τ k).1 a b = τ.1 a b) := by
  intro k
  induction k with
  | zero =>
    obtain ⟨t, e, -⟩ := cl_exch hw hn
    refine ⟨⟨hw, hn⟩, ?_, fun _ _ _ _ => rfl⟩
    show mX4_exchangeEstimates τ = some ((mX4_exchangeEstimates τ).getD τ)
    rw [e]; rfl
  | succ k ih =>
    obtain ⟨⟨w, n⟩, e, f⟩ := ih
    obtain ⟨t, e1, e2, -⟩ := cl_exch w n
    have et : Tc mX4_exchangeEstimates τ (k + 1) = t := Option.some.inj (e.symm.trans e1)
    have w2 : WF (Tc mX4_exchangeEstimates τ (k + 1)) c := by
      rw [et]; exact w.of (fun a b hab => e2 a b (by omega) (by omega))
    have n2 : NV (Tc mX4_exchangeEstimates τ (k + 1)) (lk (Tc mX4_exchangeEstimates τ (k + 1))) := by
      rw [et]
      intro a ha
      rw [e2 21 a (by omega) (by omega)]
      exact ⟨(n a ha).1, fun b hb => by rw [(n a ha).2 b hb]; exact (lk_of5 (fun a b hab => e2 a b (by omega) (by omega)) a b).symm⟩
    refine ⟨⟨w2, n2⟩, ?_, fun a b h1 h2 => by rw [et, e2 a b h1 h2]; exact f a b h1 h2⟩
    obtain ⟨u, g, -⟩ := cl_exch w2 n2
    show mX4_exchangeEstimates (Tc mX4_exchangeEstimates τ (k + 1)) = some ((mX4_exchangeEstimates (Tc mX4_exchangeEstimates τ (k + 1))).getD _)
    rw [g]; rfl
/-- least and greatest of the first members -/
def MM (E : Nat → Int32) : Nat → Int32 × Int32
  | 0 => (E 0, E 0)
  | i + 1 => if i = 0 then (E 0, E 0) else (if E i < (MM E i).1 then E i else (MM E i).1, if (MM E i).2 < E i then E i else (MM E i).2)
theorem MM_s {E : Nat → Int32} {i : Nat} (h : 1 ≤ i) : MM E (i + 1) = (if E i < (MM E i).1 then E i else (MM E i).1, if (MM E i).2 < E i then E i else (MM E i).2) := by
  rw [MM, if_neg (by omega)]
def sp (E : Nat → Int32) (c : Nat) : Int32 := if c = 0 then 0 else (MM E c).2 - (MM E c).1
theorem k_spanC {τ : fm_S} {c : Nat} (hw : WF τ c) : mX4_spanOfEstimates τ = some (sp (τ.1 5) c) := by
  have hc := hw.1
  rw [mX4_spanOfEstimates, hw.2.1]
  by_cases h0 : c = 0
  · subst h0; rw [if_pos (by decide)]; rfl
  · rw [if_neg (nI_ne0 (by omega) (by omega))]
    have c0 := chk8 (j := 0) (N := 8) (by omega) (by decide)
    have c0' : ((0 : Int32) < 0 ∨ 8 ≤ (0 : Int32).toNatClampNeg) = False := c0
    simp only [c0', if_false]
    have z0 : rI τ 5 0 = τ.1 5 0 := rIn τ 5 (j := 0) (by omega)
    obtain ⟨t, e1, e2⟩ := lpU (fun n x (a : Int32 × Int32) => mX4_spanOfEstimates_L25 n a.1 a.2 x τ) c (fun i a => 1 ≤ i ∧ a = MM (τ.1 5) i) (fun t => t = MM (τ.1 5) c)
      (fun n a ha => ⟨a, by simp only [mX4_spanOfEstimates_L25]; rw [hw.2.1, if_pos (nI_le (Nat.le_refl _) (by omega))], ha.2⟩)
      (fun n i a hi ha => ⟨MM (τ.1 5) (i + 1), by
        simp only [mX4_spanOfEstimates_L25]
        rw [hw.2.1, if_neg (nI_ge hi (by omega))]
        simp only [chk8 (show i < 8 by omega) (by decide), if_false]
        rw [rIn _ _ (by omega), nI_1, ha.2, MM_s ha.1], by omega, rfl⟩)
      fF 1 (τ.1 5 0, τ.1 5 0) (by omega) (by unfold fF; omega) ⟨by omega, rfl⟩
    have e1 : mX4_spanOfEstimates_L25 fF (τ.1 5 0) (τ.1 5 0) 1 τ = some t := e1
    rw [z0, e1, e2]
    show some _ = _
    rw [sp, if_neg h0]
end LVK
