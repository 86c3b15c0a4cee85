section PWE
theorem sm80 : ∀ n, n < 160 → (-1000 ≤ (nI n - (80 : Int32)).toInt ∧ (nI n - (80 : Int32)).toInt ≤ 1000) := by decide +kernel
theorem sm40 : ∀ n, n < 80 → (-1000 ≤ (nI n - (40 : Int32)).toInt ∧ (nI n - (40 : Int32)).toInt ≤ 1000) := by decide +kernel
theorem sm1000 : ∀ n, n < 2001 → (-1000 ≤ (nI n - (1000 : Int32)).toInt ∧ (nI n - (1000 : Int32)).toInt ≤ 1000) := by decide +kernel
theorem dvz {z : Nat} (hz : z < 2 ^ 31) {d : Nat} (h0 : 0 < d) (hd : d < 2 ^ 31) : nI z / nI d = nI (z / d) := pk_div hz h0 hd
theorem k_acts {σ : fm_S} {c w z : Nat} (h : GS σ c) (h0 : 0 < c) (hw15 : w < 15) (hz : z < 1000000) : ∃ σ', mL_acts (nI w) (nI z) σ = some (1, σ') ∧ GS σ' c := by
  have hc : c ≤ 5 := h.2.1.1
  have hw : WF σ c := h.1
  have m40 : σ.1 40 40 = nI c := h.2.1.2.1
  obtain ⟨i, hi⟩ : ∃ i, i = z % c := ⟨_, rfl⟩
  obtain ⟨j, hj⟩ : ∃ j, j = (i + 1 + z / 8 % 4) % c := ⟨_, rfl⟩
  have ic : i < c := by rw [hi]; exact Nat.mod_lt _ h0
  have jc : j < c := by rw [hj]; exact Nat.mod_lt _ h0
  have q8 : nI z / (8 : Int32) = nI (z / 8) := pk_div (d := 8) (by omega) (by decide) (by decide)
  have q32 : nI z / (32 : Int32) = nI (z / 32) := pk_div (d := 32) (by omega) (by decide) (by decide)
  have q160 : nI z / (160 : Int32) = nI (z / 160) := pk_div (d := 160) (by omega) (by decide) (by decide)
  have q1280 : nI z / (1280 : Int32) = nI (z / 1280) := pk_div (d := 1280) (by omega) (by decide) (by decide)
  have q4 : nI z / (4 : Int32) = nI (z / 4) := pk_div (d := 4) (by omega) (by decide) (by decide)
  have r84 : nI (z / 8) - nI (z / 8) / (4 : Int32) * (4 : Int32) = nI (z / 8 % 4) := pk_rem (d := 4) (by omega) (by decide) (by decide)
  have r8160 : nI (z / 8) - nI (z / 8) / (160 : Int32) * (160 : Int32) = nI (z / 8 % 160) := pk_rem (d := 160) (by omega) (by decide) (by decide)
  have r8t : nI (z / 8) - nI (z / 8) / (2001 : Int32) * (2001 : Int32) = nI (z / 8 % 2001) := pk_rem (d := 2001) (by omega) (by decide) (by decide)
  have r128 : nI (z / 1280) - nI (z / 1280) / (80 : Int32) * (80 : Int32) = nI (z / 1280 % 80) := pk_rem (d := 80) (by omega) (by decide) (by decide)
  have r325 : nI (z / 32) - nI (z / 32) / (5 : Int32) * (5 : Int32) = nI (z / 32 % 5) := pk_rem (d := 5) (by omega) (by decide) (by decide)
  have r169 : nI (z / 160) - nI (z / 160) / (9000 : Int32) * (9000 : Int32) = nI (z / 160 % 9000) := pk_rem (d := 9000) (by omega) (by decide) (by decide)
  have r4200 : nI (z / 4) - nI (z / 4) / (200 : Int32) * (200 : Int32) = nI (z / 4 % 200) := pk_rem (d := 200) (by omega) (by decide) (by decide)
  have r3 : nI z - nI z / (3 : Int32) * (3 : Int32) = nI (z % 3) := pk_rem (d := 3) (by omega) (by decide) (by decide)
  have r4 : nI z - nI (z / 4) * (4 : Int32) = nI (z % 4) := by rw [← q4]; exact pk_rem (d := 4) (by omega) (by decide) (by decide)
  have rc : nI z - nI z / nI c * nI c = nI i := by rw [hi]; exact pk_rem (by omega) h0 (by omega)
  have e1 : nI i + (1 : Int32) + nI (z / 8 % 4) = nI (i + 1 + z / 8 % 4) := by rw [o8_1, nI_add]
  have rj : nI (i + 1 + z / 8 % 4) - nI (i + 1 + z / 8 % 4) / nI c * nI c = nI j := by rw [hj]; exact pk_rem (by omega) h0 (by omega)
  have k1 : (1 : Int32) + nI (z % 3) = nI (1 + z % 3) := nI_add 1 _
  have eqc : ∀ k, k < 15 → w ≠ k → ¬ nI w = nI k := fun k hk hne q => hne ((nI_eq (by omega) (by omega)).mp q)
  have rdK := fun (q : 1 ≤ 1 + z % 3) => k_rd (w := w) (K := 1 + z % 3) h h0 hw15 q (by omega)
  have rdK := rdK (by omega)
  have cnI : nI c = 0 ↔ False := ⟨fun q => nI_ne0 h0 (by omega) q, False.elim⟩
  rw [mL_acts]
  simp only [c40, if_false, r40, m40, cnI]
  rw [b1s, b1s, b1s]
  simp only [q8, q32, q160, q1280, q4, r84, r8160, r8t, r128, r325, r169, r4200, r3, r4, rc, e1, rj, k1, ix8']
  by_cases w0 : w = 0
  · rw [if_pos (show nI w = 0 by rw [w0]; rfl)]
    have sx := sm80 (z / 8 % 160) (Nat.mod_lt _ (by decide))
    have sy := sm40 (z / 1280 % 80) (Nat.mod_lt _ (by decide))
    refine ⟨_, ?_, GS_move h ic sx sy⟩
    simp only [o8_1, chk8 (show 8 * i < 48 by omega) (by decide), chk8 (show 8 * i + 1 < 48 by omega) (by decide), if_false, sIn _ _ _ (show 8 * i < 2 ^ 31 by omega), sIn _ _ _ (show 8 * i + 1 < 2 ^ 31 by omega)]
    rw [b1s, b1s, rIn _ _ (by omega), rIn _ _ (by omega), wrS, wrN _ _ (by omega), wrS, k_moveC (hw.of (fun a b hab => by rw [wrN _ _ (by omega), wrN _ _ (by omega)])) ic sx sy, b1s]
  rw [if_neg (show ¬ nI w = 0 from eqc 0 (by omega) w0)]
  by_cases w1 : w = 1
  · rw [if_pos (show nI w = 1 by rw [w1]; rfl)]
    simp only [o8_2, chk8 (show 8 * i + 2 < 48 by omega) (by decide), if_false, rIn _ _ (show 8 * i + 2 < 2 ^ 31 by omega), sIn _ _ _ (show 8 * i + 2 < 2 ^ 31 by omega)]
    by_cases z3 : z % 3 = 0
    · have ev : (nI (z % 3) = 0) := by rw [z3]; rfl
      refine ⟨_, ?_, GS_toggle h ic⟩
      rw [if_pos ev, b1s, b1s, if_neg (show ¬ (0 : Int32) < nI (z % 3) by rw [ev]; decide), k_toggleC (c := c) (hw.of (fun a b hab => by rw [wrN _ _ (by omega)])) ic, b2s]
      rw [wrN _ _ (show (3 : Nat) ≠ 40 ∨ i ≠ 8 * i + 2 by omega), wrN _ _ (show (40 : Nat) ≠ 3 ∨ 8 * i + 2 ≠ i by omega), wrS, (h.2.1.2.2.2.1 i ic).2.2]
      by_cases z0 : σ.1 3 i = 0
      · simp only [z0, if_true]; rfl
      · simp only [z0, if_false]; rfl
    · have ev : ¬ (nI (z % 3) = 0) := nI_ne0 (by omega) (by omega)
      refine ⟨fm_wr σ 40 (8 * i + 2) (σ.1 40 (8 * i + 2)), ?_, h.of (fun a b hab => ?_)⟩
      · rw [if_neg ev, b1s, b1s, if_pos (show (0 : Int32) < nI (z % 3) from nI_lt (a := 0) (by omega) (by omega))]
      · by_cases e : a = 40 ∧ b = 8 * i + 2
        · obtain ⟨rfl, rfl⟩ := e; rw [wrS]
        · rw [wrN _ _ (by omega)]
  rw [if_neg (show ¬ nI w = 1 from eqc 1 (by omega) w1)]
  by_cases w2 : w = 2
  · rw [if_pos (show nI w = 2 by rw [w2]; rfl)]
    refine ⟨_, ?_, GS_row h ic (a := 4) (Or.inl rfl) (v := nI (z / 8 % 4)) (fun q => absurd q (by decide))⟩
    simp only [o8_3, chk8 (show 8 * i + 3 < 48 by omega) (by decide), if_false, rIn _ _ (show 8 * i + 3 < 2 ^ 31 by omega), sIn _ _ _ (show 8 * i + 3 < 2 ^ 31 by omega)]
    rw [b1s, b1s, k_prioC (c := c) (hw.of (fun a b hab => by rw [wrN _ _ (by omega)])) ic (by omega), b2s, wrN _ _ (by omega), (h.2.2.1 i ic).1, if_pos rfl]
  rw [if_neg (show ¬ nI w = 2 from eqc 2 (by omega) w2)]
  by_cases w3 : w = 3
  · rw [if_pos (show nI w = 3 by rw [w3]; rfl)]
    obtain ⟨v, hv, hv3⟩ : ∃ v, (if nI (z % 4) = 0 then some (nI (z / 4 % 200)) else some (90 : Int32)) = some (nI v) ∧ v ≤ 3000 := by
      by_cases q : nI (z % 4) = 0
      · exact ⟨z / 4 % 200, if_pos q, by omega⟩
      · exact ⟨90, if_neg q, by omega⟩
    refine ⟨_, ?_, GS_range h (nI v)⟩
    simp only [c41, if_false, r41, s41]
    rw [b1s]
    simp only [hv]
    rw [b1s, b1s, wrS, k_rangeC hv3, b2s, wrN _ _ (by omega), h.2.1.2.2.1, if_pos rfl]
  rw [if_neg (show ¬ nI w = 3 from eqc 3 (by omega) w3)]
  have nij : i ≠ j → ¬ nI i = nI j := fun q e => q ((nI_eq (by omega) (by omega)).mp e)
  have eij : i = j → nI i = nI j := fun q => by rw [q]
  by_cases w4 : w = 4
  · rw [if_pos (show nI w = 4 by rw [w4]; rfl)]
    by_cases hij : i = j
    · rw [if_pos (eij hij), if_neg (show ¬ nI w = 5 from eqc 5 (by omega) (by omega)), if_neg (show ¬ nI w = 6 from eqc 6 (by omega) (by omega)), if_neg (show ¬ (9 : Int32) ≤ nI w from nI_ge (b := 9) (by omega) (by decide)), if_pos (eij hij)]
      exact rdK
    · rw [if_neg (nij hij)]
      exact k_blB h ic jc hij
  rw [if_neg (show ¬ nI w = 4 from eqc 4 (by omega) w4)]
  by_cases w5 : w = 5
  · rw [if_pos (show nI w = 5 by rw [w5]; rfl)]
    have sx := sm1000 (z / 8 % 2001) (Nat.mod_lt _ (by decide))
    refine ⟨_, ?_, GS_row h ic (a := 5) (Or.inr (Or.inl rfl)) (v := nI (z / 8 % 2001) - (1000 : Int32)) (fun _ => sx)⟩
    simp only [o8_4, chk8 (show 8 * i + 4 < 48 by omega) (by decide), if_false, rIn _ _ (show 8 * i + 4 < 2 ^ 31 by omega), sIn _ _ _ (show 8 * i + 4 < 2 ^ 31 by omega)]
    rw [b1s, b1s, wrS, (k_estC (c := c) (hw.of (fun a b hab => by rw [wrN _ _ (by omega)])) ic sx).1, b2s, wrN _ _ (by omega), (h.2.2.1 i ic).2.1, if_pos rfl]
  rw [if_neg (show ¬ nI w = 5 from eqc 5 (by omega) w5)]
  by_cases w6 : w = 6
  · rw [if_pos (show nI w = 6 by rw [w6]; rfl)]
    have sx := sm1000 (z / 8 % 2001) (Nat.mod_lt _ (by decide))
    refine ⟨_, ?_, GS_row h ic (a := 6) (Or.inr (Or.inr rfl)) (v := nI (z / 8 % 2001) - (1000 : Int32)) (fun q => absurd q (by decide))⟩
    simp only [o8_5, chk8 (show 8 * i + 5 < 48 by omega) (by decide), if_false, rIn _ _ (show 8 * i + 5 < 2 ^ 31 by omega), sIn _ _ _ (show 8 * i + 5 < 2 ^ 31 by omega)]
    rw [b1s, b1s, wrS, (k_estC (c := c) (hw.of (fun a b hab => by rw [wrN _ _ (by omega)])) ic sx).2, b2s, wrN _ _ (by omega), (h.2.2.1 i ic).2.2.1, if_pos rfl]
  rw [if_neg (show ¬ nI w = 6 from eqc 6 (by omega) w6)]
  by_cases w9 : 9 ≤ w
  · rw [if_pos (show (9 : Int32) ≤ nI w from nI_le (a := 9) w9 (by omega))]
    exact rdK
  · rw [if_neg (show ¬ (9 : Int32) ≤ nI w from nI_ge (b := 9) (by omega) (by decide))]
    by_cases hij : i = j
    · rw [if_pos (eij hij)]
      exact rdK
    · rw [if_neg (nij hij)]
      exact k_wtB h ic jc hij (nI (z / 32 % 5)) (Nat.mod_lt _ (by decide))
end PWE
