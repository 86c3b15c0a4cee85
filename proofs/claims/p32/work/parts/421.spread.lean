section LVL
/-- the next receiver of a member whose links are L and who last gave to k - 1 -/
def Nx (L : Nat → Bool) (k : Nat) (r : Int32) : Prop :=
  (∃ j, j < 8 ∧ r = nI j ∧ L j = true ∧ k ≤ j ∧ ∀ m, k ≤ m → m < j → L m = false) ∨
  ((∀ m, m < 8 → k ≤ m → L m = false) ∧ ∃ j, j < 8 ∧ r = nI j ∧ L j = true ∧ ∀ m, m < j → L m = false) ∨
  ((∀ m, m < 8 → L m = false) ∧ r = -1)
theorem Nx_un {L : Nat → Bool} {k : Nat} {r r' : Int32} (h : Nx L k r) (h' : Nx L k r') : r = r' := by
  rcases h with ⟨j, j8, rfl, l1, k1, f1⟩ | ⟨a1, j, j8, rfl, l1, f1⟩ | ⟨a1, rfl⟩ <;> rcases h' with ⟨i, i8, rfl, l2, k2, f2⟩ | ⟨a2, i, i8, rfl, l2, f2⟩ | ⟨a2, rfl⟩
  · by_cases e : j < i
    · rw [f2 j k1 e] at l1; cases l1
    · by_cases e2 : i < j
      · rw [f1 i k2 e2] at l2; cases l2
      · rw [show i = j by omega]
  · rw [a2 j j8 k1] at l1; cases l1
  · rw [a2 j j8] at l1; cases l1
  · rw [a1 i i8 k2] at l2; cases l2
  · by_cases e : j < i
    · rw [f2 j e] at l1; cases l1
    · by_cases e2 : i < j
      · rw [f1 i e2] at l2; cases l2
      · rw [show i = j by omega]
  · rw [a2 j j8] at l1; cases l1
  · rw [a1 i i8] at l2; cases l2
  · rw [a1 i i8] at l2; cases l2
  · rfl
noncomputable def rh (τ : fm_S) (i : Nat) : Int32 := Classical.epsilon (Nx (lk τ i) (τ.1 8 i + 1).toNatClampNeg)
theorem rh_eq {τ : fm_S} {i k : Nat} {r : Int32} (hk : τ.1 8 i = nI k - 1) (h8 : k ≤ 8) (h : Nx (lk τ i) k r) : rh τ i = r := by
  have e : (τ.1 8 i + 1).toNatClampNeg = k := by
    rw [hk, show nI k - 1 + 1 = nI k by grind]
    exact nI_clamp (by omega)
  unfold rh
  rw [e]
  exact Nx_un (Classical.epsilon_spec (p := Nx (lk τ i) k) ⟨r, h⟩) h
theorem le_m1 : ∀ j, j < 9 → ∀ k, k < 9 → (nI j ≤ nI k - 1 ↔ j < k) := by decide +kernel
theorem k_nextC {τ s : fm_S} {c : Nat} (hw : WF τ c) (hn : NV s (lk τ)) (h60 : s.1 60 0 = nI c) {i : Nat} (hi : i < c) (h8 : s.1 8 i = τ.1 8 i) : ∃ r, mX4_nextReceiver (nI i) s = some r ∧ Nx (lk τ i) (τ.1 8 i + 1).toNatClampNeg r ∧ rh τ i = r := by
  have hc := hw.1
  obtain ⟨k, k8, hk⟩ := hw.2.2.2.2.2.2.2 i (by omega)
  have ek : (τ.1 8 i + 1).toNatClampNeg = k := by
    rw [hk, show nI k - 1 + 1 = nI k by grind]
    exact nI_clamp (by omega)
  obtain ⟨t, e1, e2⟩ := lpE (fun n x3 (x2 : Int32) => mX4_nextReceiver_L4 n (nI i) x2 x3 s) c
    (fun j x2 => ((x2 = -1 ∧ ∀ m, m < j → lk τ i m = false) ∨ ∃ f, f < j ∧ x2 = nI f ∧ lk τ i f = true ∧ ∀ m, m < f → lk τ i m = false) ∧ ∀ m, k ≤ m → m < j → lk τ i m = false)
    (fun t => (∃ r, t = .error r ∧ Nx (lk τ i) k r) ∨ (∃ r, t = .ok r ∧ Nx (lk τ i) k r))
    (fun n x2 hp => ⟨.ok x2, by simp only [mX4_nextReceiver_L4]; rw [h60, if_pos (nI_le (Nat.le_refl _) (by omega))], Or.inr ⟨x2, rfl, by
      have hi8 : ∀ m, c ≤ m → m < 8 → lk τ i m = false := fun m h1 h2 => by rw [lk_symm hw (by omega) h2]; exact lk_hi hw h2 h1
      rcases hp with ⟨⟨rfl, h1⟩ | ⟨f, hf, rfl, h1, h2⟩, h3⟩
      · right; right
        refine ⟨fun m hm => ?_, rfl⟩
        by_cases q : m < c
        · exact h1 m q
        · exact hi8 m (by omega) hm
      · right; left
        refine ⟨fun m hm hkm => ?_, f, by omega, rfl, h1, h2⟩
        by_cases q : m < c
        · exact h3 m hkm q
        · exact hi8 m (by omega) hm⟩⟩)
    (fun n j x2 hj hp => by
      have hj0 := k_joins20 (hn i (by omega)).1 (show i < 8 by omega) (show j < 8 by omega)
      rw [(hn i (by omega)).2 j (by omega)] at hj0
      by_cases hl : lk τ i j = true
      · rw [hl, if_pos rfl] at hj0
        by_cases hjk : j < k
        · left
          rcases hp with ⟨⟨rfl, h1⟩ | ⟨f, hf, rfl, h1, h2⟩, h3⟩
          · refine ⟨nI j, ?_, Or.inr ⟨j, by omega, rfl, hl, h1⟩, fun m h1 h2 => by omega⟩
            simp only [mX4_nextReceiver_L4]
            rw [h60, if_neg (nI_ge hj (by omega)), hj0, b1s, if_neg (by decide)]
            simp only [chk8 (show i < 8 by omega) (by decide), if_false]
            rw [rIn _ _ (by omega), h8, hk, if_pos ((le_m1 j (by omega) k (by omega)).mpr hjk), nI_1]; rfl
          · refine ⟨nI f, ?_, Or.inr ⟨f, by omega, rfl, h1, h2⟩, fun m h1 h2 => by omega⟩
            have nf : ¬ nI f = -1 := by
              have : ∀ f, f < 9 → ¬ nI f = -1 := by decide +kernel
              exact this f (by omega)
            simp only [mX4_nextReceiver_L4]
            rw [h60, if_neg (nI_ge hj (by omega)), hj0, b1s, if_neg (by decide)]
            simp only [chk8 (show i < 8 by omega) (by decide), if_false]
            rw [rIn _ _ (by omega), h8, hk, if_pos ((le_m1 j (by omega) k (by omega)).mpr hjk), nI_1, if_neg nf]
        · right
          refine ⟨.error (nI j), ?_, Or.inl ⟨nI j, rfl, Or.inl ⟨j, by omega, rfl, hl, by omega, hp.2⟩⟩⟩
          simp only [mX4_nextReceiver_L4]
          rw [h60, if_neg (nI_ge hj (by omega)), hj0, b1s, if_neg (by decide)]
          simp only [chk8 (show i < 8 by omega) (by decide), if_false]
          rw [rIn _ _ (by omega), h8, hk, if_neg (fun q => hjk ((le_m1 j (by omega) k (by omega)).mp q))]
      · left
        have hl0 := Bool.eq_false_iff.mpr hl
        rw [hl0, if_neg (by decide)] at hj0
        refine ⟨x2, ?_, ?_, fun m h1 h2 => ?_⟩
        · simp only [mX4_nextReceiver_L4]
          rw [h60, if_neg (nI_ge hj (by omega)), hj0, b1s, if_pos rfl, nI_1]
        · rcases hp.1 with ⟨h1, h2⟩ | ⟨f, h1, h2⟩
          · left
            refine ⟨h1, fun m hm => ?_⟩
            by_cases q : m = j
            · rw [q]; exact hl0
            · exact h2 m (by omega)
          · exact Or.inr ⟨f, by omega, h2⟩
        · by_cases q : m = j
          · rw [q]; exact hl0
          · exact hp.2 m h1 (by omega))
    fF 0 (-1) (Nat.zero_le _) (by unfold fF; omega) ⟨Or.inl ⟨rfl, fun m hm => absurd hm (by omega)⟩, fun m _ hm => absurd hm (by omega)⟩
  have e1 : mX4_nextReceiver_L4 fF (nI i) (-1) 0 s = some t := e1
  rw [mX4_nextReceiver, e1, ek]
  rcases e2 with ⟨r, rfl, hr⟩ | ⟨r, rfl, hr⟩
  · exact ⟨r, rfl, hr, rh_eq hk k8 hr⟩
  · exact ⟨r, rfl, hr, rh_eq hk k8 hr⟩
end LVL
