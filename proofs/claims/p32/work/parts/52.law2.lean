section PVC
theorem msk_or {Q Q' : Nat → Bool} {n p : Nat} {x : Bool} (hp : p < n) (h : ∀ b, b < n → Q' b = (Q b || (x && decide (b = p)))) : msk Q n ||| (if x then 2 ^ p else 0) = msk Q' n := by
  apply Nat.eq_of_testBit_eq
  intro b
  rw [Nat.testBit_or, msk_tb, msk_tb]
  have e : (if x = true then 2 ^ p else 0).testBit b = (x && decide (b = p)) := by
    cases x
    · simp
    · rw [if_pos rfl, Nat.testBit_two_pow]
      by_cases q : b = p
      · subst q; simp
      · have : ¬ p = b := fun z => q z.symm
        simp [q, this]
  rw [e]
  by_cases hb : b < n
  · simp [hb, h b hb]
  · have : ¬ b = p := by omega
    simp [hb, this]
theorem k_up {σ τ : fm_S} {c : Nat} (h : GE σ τ c) : mL_up σ = some (nI (msk (up τ) c)) := by
  have hc := h.1
  obtain ⟨t, e1, e2⟩ := lpU (fun n x2 (a : Int32) => mL_up_L4 n a x2 σ) c (fun j a => a = nI (msk (up τ) j)) (fun t => t = nI (msk (up τ) c))
    (fun n a ha => ⟨a, by
      simp only [mL_up_L4, c40, if_false, r40, h.2.1]
      rw [if_pos (nI_le (Nat.le_refl _) (by omega))], ha⟩)
    (fun n j a hj ha => by
      refine ⟨nI (msk (up τ) (j + 1)), ?_, rfl⟩
      obtain ⟨-, -, a3⟩ := h.2.2.2.1 j hj
      simp only [mL_up_L4, c40, if_false, r40, h.2.1]
      rw [if_neg (nI_ge hj (by omega))]
      simp only [ix8', o8_2, chk8 (show 8 * j + 2 < 48 by omega) (by decide), if_false, rIn _ _ (show 8 * j + 2 < 2 ^ 31 by omega), a3]
      have := msk_s (up τ) j (by omega)
      rw [ha, nI_1]
      by_cases e : τ.1 3 j = 0
      · have hu : up τ j = false := by simp [up, e]
        rw [hu, if_pos (show bI false = 0 from rfl), b1s] at this
        rw [if_pos e, if_neg (by decide), b1s, b1s, Option.some.inj this]
      · have hu : up τ j = true := by simp [up, e]
        rw [hu, if_neg (show ¬ bI true = 0 by decide), b1s] at this
        rw [if_neg e, if_pos rfl, b1s, b1s, Option.some.inj this])
    fG 0 0 (Nat.zero_le _) (by unfold fG; omega) rfl
  rw [mL_up]
  have e1 : mL_up_L4 fG 0 0 σ = some t := e1
  rw [e1, b1s, e2]
/-- the links as bits -/
def lq (τ : fm_S) (k j b : Nat) : Bool := decide (b / 5 < b % 5) && (decide (b % 5 < k) || (decide (b % 5 = k) && decide (b / 5 < j))) && lk τ (b / 5) (b % 5)
def LK (τ : fm_S) (c : Nat) : Nat := msk (lq τ c 0) 25
theorem LK_lt (τ : fm_S) (c : Nat) : LK τ c < 2 ^ 25 := msk_lt _ _
theorem LK_tb {τ : fm_S} {c : Nat} (hw : WF τ c) (hc : c ≤ 5) {i j : Nat} (hij : i < j) (hj : j < 5) : (LK τ c).testBit (5 * i + j) = lk τ i j := by
  unfold LK
  rw [msk_tb]
  have h1 : (5 * i + j) / 5 = i := by omega
  have h2 : (5 * i + j) % 5 = j := by omega
  unfold lq
  rw [h1, h2]
  by_cases hl : lk τ i j = true
  · have := lk_lt hw (by omega) (by omega) hl
    rw [hl]
    simp; omega
  · rw [Bool.eq_false_iff.mpr hl]; simp
theorem LK_pr {τ : fm_S} {c : Nat} (hw : WF τ c) (hc : c ≤ 5) {i j : Nat} (hi : i < 5) (hj : j < 5) (hne : i ≠ j) : (LK τ c).testBit (pr i j) = lk τ i j := by
  unfold pr
  by_cases h : i < j
  · rw [if_pos h]; exact LK_tb hw hc h hj
  · rw [if_neg h, LK_tb hw hc (by omega) hi, lk_symm hw (by omega) (by omega)]
theorem lq_s {τ : fm_S} {k j b : Nat} (hj : j < k) (hk : k < 5) : lq τ k (j + 1) b = (lq τ k j b || (lk τ j k && decide (b = 5 * j + k))) := by
  by_cases e : b = 5 * j + k
  · subst e
    have h1 : (5 * j + k) / 5 = j := by omega
    have h2 : (5 * j + k) % 5 = k := by omega
    unfold lq
    rw [h1, h2]
    simp [hj]
  · have h3 : ¬ (b % 5 = k ∧ b / 5 = j) := by omega
    unfold lq
    by_cases e1 : b % 5 = k
    · have : (b / 5 < j + 1) ↔ b / 5 < j := by omega
      simp [e, e1, this]
    · simp [e, e1]
theorem lq_0 {τ : fm_S} {k b : Nat} : lq τ (k + 1) 0 b = lq τ k k b := by
  unfold lq
  by_cases h : b / 5 < b % 5
  · by_cases e : b % 5 = k
    · subst e
      simp [h]
    · have : (b % 5 < k + 1) ↔ b % 5 < k := by omega
      simp [e, this]
  · simp [h]
theorem k_links {σ τ : fm_S} {c : Nat} (hw : WF τ c) (h : GE σ τ c) : mL_links σ = some (nI (LK τ c)) := by
  have hc := h.1
  have inner : ∀ k, k < c → mL_links_L15 fG (nI (msk (lq τ k 0) 25)) (nI k) 0 σ = some (nI (msk (lq τ (k + 1) 0) 25)) := by
    intro k hk
    obtain ⟨t, e1, e2⟩ := lpU (fun n x4 (a : Int32) => mL_links_L15 n a (nI k) x4 σ) k (fun j a => a = nI (msk (lq τ k j) 25)) (fun t => t = nI (msk (lq τ (k + 1) 0) 25))
      (fun n a ha => ⟨a, by
        simp only [mL_links_L15]
        rw [if_pos (nI_le (Nat.le_refl _) (by omega))], by rw [ha, msk_congr 25 (fun b _ => (lq_0 (τ := τ) (k := k) (b := b)).symm)]⟩)
      (fun n j a hj ha => by
        refine ⟨nI (msk (lq τ k (j + 1)) 25), ?_, rfl⟩
        have hst := msk_or (n := 25) (p := 5 * j + k) (x := lk τ j k) (Q := lq τ k j) (Q' := lq τ k (j + 1)) (by omega) (fun b _ => lq_s hj (by omega))
        simp only [mL_links_L15]
        rw [if_neg (nI_ge hj (by omega)), k_heard hw h hk, b1s, b_bit (Nat.lt_trans (hm_lt hc k) (by decide)) (by omega), hm_tb, lk_symm hw (by omega) (by omega), ha, nI_1]
        have hjc : decide (j < c) = true := by simp; omega
        rw [hjc, Bool.true_and]
        rw [← hst]
        by_cases hl : lk τ j k = true
        · rw [if_pos hl, if_pos rfl, k_pair j (by omega) k (by omega), b1s]
          have hp : pr j k = 5 * j + k := by unfold pr; rw [if_pos hj]
          rw [hp, b_shl1 _ (by omega), b1s, b1s, b_or (msk_lt31 _ (by omega)) (Nat.pow_lt_pow_right (by decide) (by omega)), if_pos hl]
        · rw [if_neg hl, if_neg (by decide), b1s, b1s, show (0 : Int32) = nI 0 from rfl, b_or (msk_lt31 _ (by omega)) (by decide), if_neg hl])
      fG 0 _ (Nat.zero_le _) (by unfold fG; omega) rfl
    have e1 : mL_links_L15 fG (nI (msk (lq τ k 0) 25)) (nI k) 0 σ = some t := e1
    rw [e1, e2]
  obtain ⟨t, e1, e2⟩ := lpU (fun n x3 (a : Int32) => mL_links_L4 n a x3 σ) c (fun k a => a = nI (msk (lq τ k 0) 25)) (fun t => t = nI (msk (lq τ c 0) 25))
    (fun n a ha => ⟨a, by
      simp only [mL_links_L4, c40, if_false, r40, h.2.1]
      rw [if_pos (nI_le (Nat.le_refl _) (by omega))], ha⟩)
    (fun n k a hk ha => by
      refine ⟨nI (msk (lq τ (k + 1) 0) 25), ?_, rfl⟩
      simp only [mL_links_L4, c40, if_false, r40, h.2.1]
      rw [if_neg (nI_ge hk (by omega)), ha, inner k hk, b1s, nI_1])
    fG 0 0 (Nat.zero_le _) (by unfold fG; omega) (by
      have : msk (lq τ 0 0) 25 = 0 := (msk_0 25).mpr (fun b _ => by simp [lq])
      rw [this]; rfl)
  rw [mL_links]
  have e1 : mL_links_L4 fG 0 0 σ = some t := e1
  rw [e1, b1s, e2]; rfl
end PVC
