section LVJ
/-- what flows between two linked members -/
def fl (τ : fm_S) (E : Nat → Int32) (i j : Nat) : Int32 := (E i - E j) / nI ((if deg τ i < deg τ j then deg τ j else deg τ i) + 1)
/-- the changes, pair by pair -/
def D (τ : fm_S) (c : Nat) (E : Nat → Int32) : Nat → Nat → Int32
  | 0 => fun _ => 0
  | k + 1 => if k / 8 < k % 8 ∧ k % 8 < c ∧ lk τ (k / 8) (k % 8) = true then
      fun a => if a = k % 8 then D τ c E k (k % 8) + fl τ E (k / 8) (k % 8) else if a = k / 8 then D τ c E k (k / 8) - fl τ E (k / 8) (k % 8) else D τ c E k a
    else D τ c E k
theorem D_skip {τ : fm_S} {c : Nat} {E : Nat → Int32} {k : Nat} (h : ¬ (k / 8 < k % 8 ∧ k % 8 < c ∧ lk τ (k / 8) (k % 8) = true)) : D τ c E (k + 1) = D τ c E k := by
  rw [D, if_neg h]
theorem D_skips {τ : fm_S} {c : Nat} {E : Nat → Int32} (k : Nat) : ∀ n, (∀ m, k ≤ m → m < k + n → ¬ (m / 8 < m % 8 ∧ m % 8 < c ∧ lk τ (m / 8) (m % 8) = true)) → D τ c E (k + n) = D τ c E k := by
  intro n
  induction n with
  | zero => intro _; rfl
  | succ n ih =>
    intro h
    rw [show k + (n + 1) = (k + n) + 1 by omega, D_skip (h (k + n) (by omega) (by omega)), ih (fun m h1 h2 => h m h1 (by omega))]
theorem k_flow {τ : fm_S} {c : Nat} (hn : NV τ (lk τ)) {s : fm_S} (h21 : ∀ a b, a ≠ 22 → s.1 a b = τ.1 a b) {i j : Nat} (hi : i < 8) (hj : j < 8) : mX4_flowBetween (nI i) (nI j) s = some (fl τ (τ.1 5) i j) := by
  have l1 := deg_le τ i
  have l2 := deg_le τ j
  have hns : NV s (lk τ) := fun a ha => by rw [h21 21 a (by omega)]; exact hn a ha
  rw [mX4_flowBetween, k_degC hns hi, b1s, k_degC hns hj, b1s]
  simp only [chk8 hi (by decide), chk8 hj (by decide), if_false]
  have e1 : (if nI (cn8 (lk τ i)) < nI (cn8 (lk τ j)) then nI (cn8 (lk τ j)) else nI (cn8 (lk τ i))) + 1 = nI ((if deg τ i < deg τ j then deg τ j else deg τ i) + 1) := by
    show (if nI (deg τ i) < nI (deg τ j) then nI (deg τ j) else nI (deg τ i)) + 1 = _
    by_cases q : deg τ i < deg τ j
    · rw [if_pos (nI_lt q (by omega)), if_pos q, nI_1]
    · rw [if_neg (nI_nlt (by omega) (by omega)), if_neg q, nI_1]
  rw [e1, if_neg (nI_ne0 (by omega) (by split <;> omega)), rIn _ _ (by omega), rIn _ _ (by omega), h21 5 i (by omega), h21 5 j (by omega)]
  rfl
theorem cl_exch {τ : fm_S} {c : Nat} (hw : WF τ c) (hn : NV τ (lk τ)) : ∃ τ', mX4_exchangeEstimates τ = some τ' ∧ (∀ a b, a ≠ 22 → a ≠ 5 → τ'.1 a b = τ.1 a b) ∧ ∀ i, τ'.1 5 i = if i < c then τ.1 5 i + D τ c (τ.1 5) 64 i else τ.1 5 i := by
  have hc := hw.1
  have h60 := hw.2.1
  obtain ⟨s0, e0, r0, z0⟩ := k_fill 22 0 τ (by decide)
  have inner : ∀ i, i < c → ∀ u, (rowE 22 τ u ∧ ∀ a, a < c → u.1 22 a = D τ c (τ.1 5) (8 * i) a) → ∃ t, mX4_exchangeEstimates_L22 fF (nI i) (nI (i + 1)) u = some t ∧ (rowE 22 τ t ∧ ∀ a, a < c → t.1 22 a = D τ c (τ.1 5) (8 * (i + 1)) a) := by
    intro i hi u hu
    refine lpU (fun n x2 s => mX4_exchangeEstimates_L22 n (nI i) x2 s) c (fun j t => i < j ∧ rowE 22 τ t ∧ ∀ a, a < c → t.1 22 a = D τ c (τ.1 5) (8 * i + j) a) (fun t => rowE 22 τ t ∧ ∀ a, a < c → t.1 22 a = D τ c (τ.1 5) (8 * (i + 1)) a) ?_ ?_ fF (i + 1) u (by omega) (by unfold fF; omega) ⟨by omega, hu.1, fun a ha => ?_⟩
    · rintro n t ⟨-, ht⟩
      refine ⟨t, by simp only [mX4_exchangeEstimates_L22]; rw [ht.1.1 60 0 (by omega), h60, if_pos (nI_le (Nat.le_refl _) (by omega))], ht.1, fun a ha => ?_⟩
      rw [ht.2 a ha]
      have : D τ c (τ.1 5) (8 * i + c + (8 - c)) = D τ c (τ.1 5) (8 * i + c) := D_skips _ _ (fun m h1 h2 => by omega)
      rw [← this, show 8 * i + c + (8 - c) = 8 * (i + 1) by omega]
    · rintro n j t hj ⟨hij, ht⟩
      have hnt : NV t (lk τ) := fun a ha => by rw [ht.1.1 21 a (by omega)]; exact hn a ha
      have em : (8 * i + j) / 8 = i := by omega
      have ed : (8 * i + j) % 8 = j := by omega
      have hj0 := k_joins20 (hnt i (by omega)).1 (show i < 8 by omega) (show j < 8 by omega)
      rw [(hnt i (by omega)).2 j (by omega)] at hj0
      by_cases hl : lk τ i j = true
      · rw [hl, if_pos rfl] at hj0
        have hf := k_flow (c := c) hn (fun a b hab => ht.1.1 a b hab) (show i < 8 by omega) (show j < 8 by omega)
        refine ⟨fm_wr (fm_wr t 22 i (t.1 22 i - fl τ (τ.1 5) i j)) 22 j (t.1 22 j + fl τ (τ.1 5) i j), ?_, by omega, (ht.1.wr _ _).wr _ _, fun a ha => ?_⟩
        · simp only [mX4_exchangeEstimates_L22]
          rw [ht.1.1 60 0 (by omega), h60, if_neg (nI_ge hj (by omega)), hj0, b1s, if_neg (by decide), hf, b1s]
          simp only [chk8 (show i < 8 by omega) (by decide), chk8 (show j < 8 by omega) (by decide), if_false]
          rw [rIn t _ (by omega), sIn t _ _ (by omega), rIn _ _ (by omega), sIn _ _ _ (by omega), wrN t _ (by omega), nI_1]
        · rw [show 8 * i + (j + 1) = (8 * i + j) + 1 by omega, D, em, ed, if_pos ⟨by omega, by omega, hl⟩]
          by_cases q1 : a = j
          · rw [if_pos q1, q1, wrS, ht.2 j (by omega)]
          · rw [if_neg q1, wrN _ _ (by omega)]
            by_cases q2 : a = i
            · rw [if_pos q2, q2, wrS, ht.2 i (by omega)]
            · rw [if_neg q2, wrN _ _ (by omega)]; exact ht.2 a ha
      · rw [Bool.eq_false_iff.mpr hl, if_neg (by decide)] at hj0
        refine ⟨t, ?_, by omega, ht.1, fun a ha => ?_⟩
        · simp only [mX4_exchangeEstimates_L22]
          rw [ht.1.1 60 0 (by omega), h60, if_neg (nI_ge hj (by omega)), hj0, b1s, if_pos rfl, nI_1]
        · rw [ht.2 a ha, show 8 * i + (j + 1) = (8 * i + j) + 1 by omega, D_skip]
          rw [em, ed]; exact fun q => hl q.2.2
    · rw [hu.2 a ha]
      have : D τ c (τ.1 5) (8 * i + (i + 1)) = D τ c (τ.1 5) (8 * i) := D_skips _ _ (fun m h1 h2 => by omega)
      rw [this]
  obtain ⟨t1, e1, p1, p2⟩ := lpU (fun n x s => mX4_exchangeEstimates_L10 n x s) c (fun i t => rowE 22 τ t ∧ ∀ a, a < c → t.1 22 a = D τ c (τ.1 5) (8 * i) a) (fun t => rowE 22 τ t ∧ ∀ a, a < c → t.1 22 a = D τ c (τ.1 5) 64 a)
    (fun n t ht => ⟨t, by simp only [mX4_exchangeEstimates_L10]; rw [ht.1.1 60 0 (by omega), h60, if_pos (nI_le (Nat.le_refl _) (by omega))], ht.1, fun a ha => by
      rw [ht.2 a ha]
      have : D τ c (τ.1 5) (8 * c + (64 - 8 * c)) = D τ c (τ.1 5) (8 * c) := D_skips _ _ (fun m h1 h2 => by omega)
      rw [← this, show 8 * c + (64 - 8 * c) = 64 by omega]⟩)
    (fun n i t hi ht => by
      obtain ⟨u, g1, g2⟩ := inner i hi t ht
      refine ⟨u, ?_, g2⟩
      simp only [mX4_exchangeEstimates_L10]
      rw [ht.1.1 60 0 (by omega), h60, if_neg (nI_ge hi (by omega)), nI_1, g1, b1s])
    fF 0 s0 (Nat.zero_le _) (by unfold fF; omega) ⟨r0, fun a ha => z0 a (show a < 8 by omega)⟩
  obtain ⟨t2, e2, q1, q2⟩ := lpU (fun n x s => mX4_addChanges_L2 5 22 n x s) c (fun i t => rowE 5 t1 t ∧ ∀ j, t.1 5 j = if j < i then τ.1 5 j + D τ c (τ.1 5) 64 j else τ.1 5 j) (fun t => rowE 5 t1 t ∧ ∀ j, t.1 5 j = if j < c then τ.1 5 j + D τ c (τ.1 5) 64 j else τ.1 5 j)
    (fun n t ht => ⟨t, by simp only [mX4_addChanges_L2]; rw [ht.1.1 60 0 (by omega), p1.1 60 0 (by omega), h60, if_pos (nI_le (Nat.le_refl _) (by omega))], ht⟩)
    (fun n i t hi ht => by
      refine ⟨fm_wr t 5 i (τ.1 5 i + D τ c (τ.1 5) 64 i), ?_, ht.1.wr _ _, fun j => ?_⟩
      · simp only [mX4_addChanges_L2, show fm_len 5 = 8 from rfl, show fm_len 22 = 8 from rfl]
        rw [ht.1.1 60 0 (by omega), p1.1 60 0 (by omega), h60, if_neg (nI_ge hi (by omega))]
        simp only [chk8 (show i < 8 by omega) (by decide), if_false]
        rw [rIn _ _ (by omega), rIn _ _ (by omega), sIn _ _ _ (by omega), nI_1, ht.2 i, if_neg (by omega), ht.1.1 22 i (by omega), p2 i hi]
      · by_cases e : j = i
        · subst e; rw [wrS, if_pos (by omega)]
        · rw [wrN _ _ (by omega), ht.2 j]
          by_cases q : j < i
          · rw [if_pos q, if_pos (by omega)]
          · rw [if_neg q, if_neg (by omega)])
    fF 0 t1 (Nat.zero_le _) (by unfold fF; omega) ⟨rowE.rfl, fun j => by rw [if_neg (by omega)]; exact p1.1 5 j (by omega)⟩
  refine ⟨t2, ?_, fun a b h1 h2 => by rw [q1.1 a b h2]; exact p1.1 a b h1, q2⟩
  rw [mX4_exchangeEstimates, e0, b1s]
  have e1 : mX4_exchangeEstimates_L10 fF 0 s0 = some t1 := e1
  have e2 : mX4_addChanges_L2 5 22 fF 0 t1 = some t2 := e2
  rw [e1, b1s, mX4_addChanges, e2, b1s, b1s]
end LVJ
