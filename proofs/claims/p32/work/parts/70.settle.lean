section PVX
theorem lI_neg (a : Int) : -lI a = lI (-a) := (Int64.ofInt_neg a).symm
theorem lI_lt {a b : Int} (ha : a.natAbs < 4611686018427387904) (hb : b.natAbs < 4611686018427387904) : lI a < lI b ↔ a < b := by
  rw [Int64.lt_iff_toInt_lt, lI_toInt ha, lI_toInt hb]
theorem lI_le {a b : Int} (ha : a.natAbs < 4611686018427387904) (hb : b.natAbs < 4611686018427387904) : lI a ≤ lI b ↔ a ≤ b := by
  rw [Int64.le_iff_toInt_le, lI_toInt ha, lI_toInt hb]
theorem iI_l {e : Int} (h : e.natAbs < 2147483648) : (iI e).toInt64 = lI e := by
  rw [← Int64.toInt_inj, Int32.toInt_toInt64, lI_toInt (by omega)]
  by_cases q : e = -2147483648
  · omega
  · exact iI_toInt (by omega) (by omega)
theorem mv_fin : ∀ n : Nat, n < 2101 → (if (lg_cmp (lI ((n : Int) - 1050)) (1000 : Int64)) ≤ 0 then (if 0 ≤ (lg_cmp (lI ((n : Int) - 1050)) (-1000 : Int64)) then some ((lI ((n : Int) - 1050)).toInt32) else some ((-1000 : Int64).toInt32)) else some ((1000 : Int64).toInt32)) = some (kp (iI ((n : Int) - 1050))) ∧ (-1000 ≤ (kp (iI ((n : Int) - 1050))).toInt ∧ (kp (iI ((n : Int) - 1050))).toInt ≤ 1000) := by decide +kernel
theorem mv_fin2 : ∀ n : Nat, n < 101 → (lI ((n : Int) - 50)).toInt32 = iI ((n : Int) - 50) := by decide +kernel
/-- a step, kept within fifty -/
def c50 (d : Int) : Int := if d < -50 then -50 else if 50 < d then 50 else d
theorem c50_le (d : Int) : -50 ≤ c50 d ∧ c50 d ≤ 50 := by
  unfold c50
  by_cases h : d < -50
  · rw [if_pos h]; omega
  · rw [if_neg h]
    by_cases h2 : 50 < d
    · rw [if_pos h2]; omega
    · rw [if_neg h2]; omega
theorem k_moved {z y : Int} (hz : z.natAbs < 4611686018427387904) (h1 : -1000 ≤ y) (h2 : y ≤ 1000) : mL_moved (lI z) (iI y) = some (kp (iI y - stp (lI z))) ∧ small (kp (iI y - stp (lI z))) := by
  have hd := Int.natAbs_tdiv_le_natAbs z (1000000 : Int)
  have e6 : (1000000 : Int64) = lI 1000000 := by decide
  have e0 : (0 : Int64) = lI 0 := by decide
  have e5 : (50 : Int64) = lI 50 := by decide
  have e5m : (-50 : Int64) = lI (-50) := by decide
  have q1 : lI z / (1000000 : Int64) = lI (z.tdiv 1000000) := by rw [e6]; exact lI_div hz (by decide)
  have q2 : -((-lI z) / (1000000 : Int64)) = lI (z.tdiv 1000000) := by
    rw [e6, lI_neg, lI_div (by omega) (by decide), lI_neg, Int.neg_tdiv, Int.neg_neg]
  obtain ⟨d, hdd⟩ : ∃ d, d = z.tdiv 1000000 := ⟨_, rfl⟩
  rw [← hdd] at q1 q2 hd
  have hdl : d.natAbs < 4611686018427387904 := by omega
  have v2 : (if (lg_cmp (lI d) (50 : Int64)) ≤ 0 then (if 0 ≤ (lg_cmp (lI d) (-50 : Int64)) then some (lI d) else some ((-50 : Int64))) else some ((50 : Int64))) = some (lI (c50 d)) := by
    unfold c50
    by_cases a1 : d < -50
    · rw [if_pos ((lg_cmp_le _ _).mpr (by rw [e5, lI_le hdl (by decide)]; omega)), if_neg (fun w => by have := (lg_cmp_ge _ _).mp w; rw [e5m, lI_le (by decide) hdl] at this; omega), if_pos a1, e5m]
    · by_cases a2 : 50 < d
      · rw [if_neg (fun w => by have := (lg_cmp_le _ _).mp w; rw [e5, lI_le hdl (by decide)] at this; omega), if_neg a1, if_pos a2, e5]
      · rw [if_pos ((lg_cmp_le _ _).mpr (by rw [e5, lI_le hdl (by decide)]; omega)), if_pos ((lg_cmp_ge _ _).mpr (by rw [e5m, lI_le (by decide) hdl]; omega)), if_neg a1, if_neg a2]
  have hs : stp (lI z) = iI (c50 d) := by
    have hc := c50_le d
    have h3 := mv_fin2 (c50 d + 50).toNat (by omega)
    rw [show (((c50 d + 50).toNat : Int) - 50) = c50 d by omega] at h3
    rw [← h3]
    unfold stp c50
    rw [q1]
    by_cases a1 : d < -50
    · rw [if_pos (show lI d < (50 : Int64) by rw [e5, lI_lt hdl (by decide)]; omega), if_pos (show lI d < (-50 : Int64) by rw [e5m, lI_lt hdl (by decide)]; exact a1), if_pos a1]; rfl
    · by_cases a2 : d < 50
      · rw [if_pos (show lI d < (50 : Int64) by rw [e5, lI_lt hdl (by decide)]; omega), if_neg (show ¬ lI d < (-50 : Int64) by rw [e5m, lI_lt hdl (by decide)]; exact a1), if_neg a1, if_neg (by omega)]
      · rw [if_neg (show ¬ lI d < (50 : Int64) by rw [e5, lI_lt hdl (by decide)]; omega), if_neg (show ¬ (50 : Int64) < (-50 : Int64) by decide), if_neg a1]
        by_cases a3 : 50 < d
        · rw [if_pos a3]; rfl
        · rw [if_neg a3]
          have : d = 50 := by omega
          rw [this]; rfl
  have hc := c50_le d
  have h4 := mv_fin (y - c50 d + 1050).toNat (by omega)
  rw [show (((y - c50 d + 1050).toNat : Int) - 1050) = y - c50 d by omega] at h4
  rw [hs, iI_sub]
  refine ⟨?_, h4.2⟩
  rw [← h4.1, mL_moved]
  have v1 : (if (lg_cmp (lI z) (0 : Int64)) < 0 then some ((-((-lI z) / (1000000 : Int64)))) else some ((lI z / (1000000 : Int64)))) = some (lI d) := by
    rw [q1, q2]; split <;> rfl
  show mb1 (if (lg_cmp (lI z) (0 : Int64)) < 0 then some ((-((-lI z) / (1000000 : Int64)))) else some ((lI z / (1000000 : Int64)))) _ = _
  rw [v1, b1s]
  show mb1 (if (lg_cmp (lI d) (50 : Int64)) ≤ 0 then (if 0 ≤ (lg_cmp (lI d) (-50 : Int64)) then some (lI d) else some ((-50 : Int64))) else some ((50 : Int64))) _ = _
  rw [v2, b1s, iI_l (by omega), lI_sub, b1s]
/-- how great an excess can be -/
theorem ex_le {τ : fm_S} {c : Nat} (hn : NP τ c) {i j : Nat} (hi : i < c) (hj : j < c) (hc : c ≤ 8) : ∃ e : Int, ex τ i j = iI e ∧ e.natAbs ≤ 8000000 := by
  unfold ex
  cases lk τ i j
  · exact ⟨0, rfl, by decide⟩
  · rw [if_pos rfl]
    rcases hn.2 i j (by omega) (by omega) with e | ⟨q, q1, q2, e⟩
    · rw [if_pos e]; exact ⟨0, rfl, by decide⟩
    · obtain ⟨s, s1, s2⟩ := sq_nat (hn.1 i hi).1 (hn.1 j hj).1 (hn.1 i hi).2 (hn.1 j hj).2
      by_cases w : τ.1 (10 + i) j = -1
      · rw [if_pos w]; exact ⟨0, rfl, by decide⟩
      · rw [if_neg w, s2, e, ← iI_nat, ← iI_nat, iI_sub]
        exact ⟨_, rfl, by omega⟩
theorem smq_le {τ : fm_S} {c : Nat} (hn : NP τ c) (hc : c ≤ 5) {q : Nat} (hq : q = 1 ∨ q = 2) {i : Nat} (hi : i < c) : ∀ n, n ≤ c → ∃ z : Int, smq τ q i n = lI z ∧ z.natAbs ≤ n * 16000000000 := by
  intro n
  induction n with
  | zero => intro _; exact ⟨0, lI_0.symm, by decide⟩
  | succ n ih =>
    intro hn'
    obtain ⟨z, z1, z2⟩ := ih (by omega)
    obtain ⟨e, e1, e2⟩ := ex_le hn hi (show n < c by omega) (by omega)
    have sm : ∀ a, a < c → small (τ.1 q a) := fun a ha => by rcases hq with rfl | rfl; exact (hn.1 a ha).1; exact (hn.1 a ha).2
    have s1 := sm i hi
    have s2 := sm n (by omega)
    unfold small at s1 s2
    refine ⟨z + e * ((τ.1 q i).toInt - (τ.1 q n).toInt), ?_, ?_⟩
    · rw [smq, z1, e1, iI_l (by omega), iI_of (τ.1 q i), iI_of (τ.1 q n), iI_sub, iI_l (by omega), lI_mul, lI_add, iI_toInt (by omega) (by omega), iI_toInt (by omega) (by omega)]
    · have h1 := Int.natAbs_add_le z (e * ((τ.1 q i).toInt - (τ.1 q n).toInt))
      have h2 := Int.natAbs_mul e ((τ.1 q i).toInt - (τ.1 q n).toInt)
      have h3 := Nat.mul_le_mul e2 (show ((τ.1 q i).toInt - (τ.1 q n).toInt).natAbs ≤ 2000 by omega)
      omega
theorem k_nw {τ : fm_S} {c : Nat} (hn : NP τ c) (hc : c ≤ 5) {q : Nat} (hq : q = 1 ∨ q = 2) {i : Nat} (hi : i < c) : mL_moved (smq τ q i c) (τ.1 q i) = some (nw τ c q i) ∧ small (nw τ c q i) := by
  obtain ⟨z, z1, z2⟩ := smq_le hn hc hq hi c (Nat.le_refl _)
  have s1 : small (τ.1 q i) := by rcases hq with rfl | rfl; exact (hn.1 i hi).1; exact (hn.1 i hi).2
  have := k_moved (z := z) (y := (τ.1 q i).toInt) (by omega) s1.1 s1.2
  unfold nw
  rw [z1]
  rw [← iI_of (τ.1 q i)] at this
  exact this
theorem LW.at {σ τ : fm_S} {c : Nat} (h : LW σ τ) (hw : WF τ c) {i j : Nat} (hi : i < 5) (hj : j < 5) (hne : i ≠ j) : σ.1 42 (pr i j) = if τ.1 (10 + i) j = -1 then 0 else τ.1 (10 + i) j := by
  unfold pr
  by_cases e : i < j
  · rw [if_pos e]; exact h i j e hj
  · rw [if_neg e, hw.2.2.2.2.2.2.1 i (by omega) j (by omega)]; exact h j i (by omega) hi
end PVX
