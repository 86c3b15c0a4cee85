section PVB
/-- the law's picture of places, range and blocks (in σ), of the class's rows (in τ) -/
def GE (σ τ : fm_S) (c : Nat) : Prop := c ≤ 5 ∧ σ.1 40 40 = nI c ∧ σ.1 40 41 = τ.1 60 1 ∧ (∀ i, i < c → σ.1 40 (8 * i) = τ.1 1 i ∧ σ.1 40 (8 * i + 1) = τ.1 2 i ∧ σ.1 40 (8 * i + 2) = if τ.1 3 i = 0 then 1 else 0) ∧ ∀ i j, i < j → j < 5 → σ.1 41 (5 * i + j) = bI (mk (τ.1 19 i) j)
theorem GE.of {σ σ' τ τ' : fm_S} {c : Nat} (h : GE σ τ c) (e : ∀ b, b % 8 < 3 ∨ b = 40 ∨ b = 41 → σ'.1 40 b = σ.1 40 b) (e2 : ∀ b, σ'.1 41 b = σ.1 41 b) (e' : ∀ a b, a = 1 ∨ a = 2 ∨ a = 3 ∨ a = 19 ∨ a = 60 → τ'.1 a b = τ.1 a b) : GE σ' τ' c := by
  obtain ⟨h1, h2, h3, h4, h5⟩ := h
  refine ⟨h1, by rw [e _ (by omega)]; exact h2, by rw [e _ (by omega), e' _ _ (by omega)]; exact h3, fun i hi => ?_, fun i j hij hj => ?_⟩
  · obtain ⟨a1, a2, a3⟩ := h4 i hi
    rw [e (8 * i) (by omega), e (8 * i + 1) (by omega), e (8 * i + 2) (by omega), e' 1 i (by omega), e' 2 i (by omega), e' 3 i (by omega)]
    exact ⟨a1, a2, a3⟩
  · rw [e2, e' 19 i (by omega)]; exact h5 i j hij hj
theorem ix8' (i : Nat) : (8 : Int32) * nI i = nI (8 * i) := by
  rw [show (8 : Int32) = nI 8 from rfl, pk_mul]
theorem o8_1 (m : Nat) : nI m + (1 : Int32) = nI (m + 1) := nI_add m 1
theorem o8_2 (m : Nat) : nI m + (2 : Int32) = nI (m + 2) := nI_add m 2
theorem o8_3 (m : Nat) : nI m + (3 : Int32) = nI (m + 3) := nI_add m 3
theorem o8_4 (m : Nat) : nI m + (4 : Int32) = nI (m + 4) := nI_add m 4
theorem o8_5 (m : Nat) : nI m + (5 : Int32) = nI (m + 5) := nI_add m 5
theorem o8_6 (m : Nat) : nI m + (6 : Int32) = nI (m + 6) := nI_add m 6
theorem o8_7 (m : Nat) : nI m + (7 : Int32) = nI (m + 7) := nI_add m 7
theorem c40 : ((40 : Int32) < 0 ∨ 48 ≤ (40 : Int32).toNatClampNeg) = False := eq_false (by decide)
theorem c41 : ((41 : Int32) < 0 ∨ 48 ≤ (41 : Int32).toNatClampNeg) = False := eq_false (by decide)
theorem c4 : ((4 : Int32) < 0 ∨ 48 ≤ (4 : Int32).toNatClampNeg) = False := eq_false (by decide)
theorem r40 (σ : fm_S) : rI σ 40 (40 : Int32) = σ.1 40 40 := rIn σ 40 (j := 40) (by decide)
theorem r41 (σ : fm_S) : rI σ 40 (41 : Int32) = σ.1 40 41 := rIn σ 40 (j := 41) (by decide)
theorem r4 (σ : fm_S) : rI σ 40 (4 : Int32) = σ.1 40 4 := rIn σ 40 (j := 4) (by decide)
theorem s41 (σ : fm_S) (v : Int32) : sI σ 40 (41 : Int32) v = fm_wr σ 40 41 v := sIn σ 40 (j := 41) v (by decide)
theorem s40 (σ : fm_S) (v : Int32) : sI σ 40 (40 : Int32) v = fm_wr σ 40 40 v := sIn σ 40 (j := 40) v (by decide)
/-- a pair's place -/
def pr (i j : Nat) : Nat := if i < j then 5 * i + j else 5 * j + i
theorem pr_lt : ∀ i, i < 5 → ∀ j, j < 5 → pr i j < 25 := by decide
theorem pr_symm (i j : Nat) : pr i j = pr j i := by
  unfold pr
  by_cases h : i < j
  · rw [if_pos h, if_neg (by omega)]
  · by_cases h2 : j < i
    · rw [if_neg h, if_pos h2]
    · have : i = j := by omega
      subst this; rfl
theorem k_pair : ∀ i, i < 5 → ∀ j, j < 5 → mL_pair (nI i) (nI j) = some (nI (pr i j)) := by decide +kernel
theorem GE.blk {σ τ : fm_S} {c : Nat} (h : GE σ τ c) (hw : WF τ c) {i j : Nat} (hi : i < 5) (hj : j < 5) (hne : i ≠ j) : σ.1 41 (pr i j) = bI (mk (τ.1 19 i) j) := by
  unfold pr
  by_cases e : i < j
  · rw [if_pos e]; exact h.2.2.2.2 i j e hj
  · rw [if_neg e, hw.2.2.2.2.2.1 i (by omega) j (by omega)]; exact h.2.2.2.2 j i (by omega) hi
theorem k_squareL {σ τ : fm_S} {c : Nat} (h : GE σ τ c) {i j : Nat} (hi : i < c) (hj : j < c) : mL_square (nI i) (nI j) σ = some (sq τ i j) := by
  have hc := h.1
  obtain ⟨a1, a2, -⟩ := h.2.2.2.1 i hi
  obtain ⟨b1, b2, -⟩ := h.2.2.2.1 j hj
  rw [mL_square]
  simp only [ix8', o8_1, chk8 (show 8 * i < 48 by omega) (by decide), chk8 (show 8 * j < 48 by omega) (by decide), chk8 (show 8 * i + 1 < 48 by omega) (by decide), chk8 (show 8 * j + 1 < 48 by omega) (by decide), if_false, rIn _ _ (show 8 * i < 2 ^ 31 by omega), rIn _ _ (show 8 * j < 2 ^ 31 by omega), rIn _ _ (show 8 * i + 1 < 2 ^ 31 by omega), rIn _ _ (show 8 * j + 1 < 2 ^ 31 by omega), a1, a2, b1, b2, b1s]
  rfl
/-- the members that one hears, as bits -/
def hm (τ : fm_S) (c i : Nat) : Nat := msk (lk τ i) c
theorem hm_tb (τ : fm_S) (c i j : Nat) : (hm τ c i).testBit j = (decide (j < c) && lk τ i j) := msk_tb _ _ _
theorem hm_lt {τ : fm_S} {c : Nat} (hc : c ≤ 5) (i : Nat) : hm τ c i < 2 ^ 5 := Nat.lt_of_lt_of_le (msk_lt _ _) (Nat.pow_le_pow_right (by decide) hc)
theorem i01 (b : Bool) : ((if b then (1 : Int32) else 0) = 1) ↔ b = true := by cases b <;> decide
theorem i00 (b : Bool) : ((if b then (1 : Int32) else 0) = 0) ↔ b = false := by cases b <;> decide
def hearB (σ : fm_S) (x4 x2 : Int32) : Option Int32 :=
  if x4 = x2 then some (0 : Int32) else
    if ((((8 : Int32) * x4) + (2 : Int32)) < 0 ∨ 48 ≤ (((8 : Int32) * x4) + (2 : Int32)).toNatClampNeg) then none else
    if ((((8 : Int32) * x2) + (2 : Int32)) < 0 ∨ 48 ≤ (((8 : Int32) * x2) + (2 : Int32)).toNatClampNeg) then none else
    if ((rI σ 40 (((8 : Int32) * x4) + (2 : Int32))) + (rI σ 40 (((8 : Int32) * x2) + (2 : Int32)))) = 0 then
      mb1 (mL_pair x4 x2) fun r45 =>
      if (r45 < 0 ∨ 25 ≤ r45.toNatClampNeg) then none else
      if (rI σ 41 r45) = 0 then
        mb1 (mL_square x4 x2 σ) fun r56 =>
        if ((41 : Int32) < 0 ∨ 48 ≤ (41 : Int32).toNatClampNeg) then none else
        if ((rI σ 40 (41 : Int32)) * (rI σ 40 (41 : Int32))) < r56 then
          some ((0 : Int32))
        else
          some ((1 : Int32))
      else
        some ((0 : Int32))
    else
      some ((0 : Int32))
theorem hear_step (n : Nat) (x2 x3 x4 : Int32) (σ : fm_S) : mL_heard_L5 (n + 1) x2 x3 x4 σ = if ((40 : Int32) < 0 ∨ 48 ≤ (40 : Int32).toNatClampNeg) then none else if (rI σ 40 (40 : Int32)) ≤ x4 then some x3 else mb1 (hearB σ x4 x2) fun v => mb1 (if v = 0 then some (0 : Int32) else some (((1 : Int32) <<< (x4 &&& 31)))) fun w => mb1 (some (x3 ||| w)) fun u => mL_heard_L5 n x2 u (x4 + 1) σ := rfl
theorem k_hearB {σ τ : fm_S} {c : Nat} (hw : WF τ c) (h : GE σ τ c) {i j : Nat} (hi : i < c) (hj : j < c) : hearB σ (nI j) (nI i) = some (bI (lk τ i j)) := by
  have hc := h.1
  unfold hearB
  by_cases e : j = i
  · subst e; rw [if_pos rfl, lk_self]; rfl
  · have ne : ¬ nI j = nI i := fun q => e ((nI_eq (by omega) (by omega)).mp q)
    obtain ⟨-, -, a3⟩ := h.2.2.2.1 i hi
    obtain ⟨-, -, b3⟩ := h.2.2.2.1 j hj
    rw [if_neg ne]
    simp only [ix8', o8_2, chk8 (show 8 * i + 2 < 48 by omega) (by decide), chk8 (show 8 * j + 2 < 48 by omega) (by decide), if_false, rIn _ _ (show 8 * i + 2 < 2 ^ 31 by omega), rIn _ _ (show 8 * j + 2 < 2 ^ 31 by omega), a3, b3, c41, r41, h.2.2.1]
    rw [lk_symm hw (by omega) (by omega)]
    by_cases e1 : τ.1 3 i = 0
    · rw [if_pos e1, if_neg (by split <;> decide)]; simp [lk, e1, bI]
    · by_cases e2 : τ.1 3 j = 0
      · rw [if_neg e1, if_pos e2, if_neg (by decide)]; simp [lk, e2, bI]
      · rw [if_neg e1, if_neg e2, if_pos (by decide), k_pair j (by omega) i (by omega), b1s]
        have hpr := pr_lt j (by omega) i (by omega)
        simp only [chk8 hpr (by decide), if_false]
        rw [rIn _ _ (by omega), h.blk hw (by omega) (by omega) e]
        by_cases e3 : mk (τ.1 19 j) i = true
        · rw [e3, if_neg (by decide)]; simp [lk, e3, bI]
        · rw [Bool.eq_false_iff.mpr e3, if_pos (by decide), k_squareL h hj hi, b1s]
          by_cases e4 : τ.1 60 1 * τ.1 60 1 < sq τ j i
          · rw [if_pos e4]; simp [lk, e4, bI]
          · rw [if_neg e4]; simp [lk, e, e1, e2, e3, e4, bI]
theorem msk_s (P : Nat → Bool) (j : Nat) (h : j < 31) : mb1 (if bI (P j) = 0 then some (0 : Int32) else some ((1 : Int32) <<< (nI j &&& 31))) (fun w => some (nI (msk P j) ||| w)) = some (nI (msk P (j + 1))) := by
  have hj31 : 2 ^ j < 2 ^ 31 := Nat.pow_lt_pow_right (by decide) h
  rw [b_shl1 j h, msk]
  cases hb : P j
  · rw [if_pos (show bI false = 0 from rfl), b1s, show (0 : Int32) = nI 0 from rfl, b_or (msk_lt31 _ (by omega)) (by decide)]; rfl
  · rw [if_neg (show ¬ bI true = 0 by decide), b1s, b_or (msk_lt31 _ (by omega)) hj31]; rfl
theorem k_heard {σ τ : fm_S} {c : Nat} (hw : WF τ c) (h : GE σ τ c) {i : Nat} (hi : i < c) : mL_heard (nI i) σ = some (nI (hm τ c i)) := by
  have hc := h.1
  obtain ⟨t, e1, e2⟩ := lpU (fun n x4 (a : Int32) => mL_heard_L5 n (nI i) a x4 σ) c (fun j a => a = nI (msk (lk τ i) j)) (fun t => t = nI (msk (lk τ i) c))
    (fun n a ha => ⟨a, by
      show mL_heard_L5 (n + 1) _ _ _ _ = _
      rw [hear_step]
      simp only [c40, if_false, r40, h.2.1]
      rw [if_pos (nI_le (Nat.le_refl _) (by omega))], ha⟩)
    (fun n j a hj ha => by
      refine ⟨nI (msk (lk τ i) (j + 1)), ?_, rfl⟩
      show mL_heard_L5 (n + 1) _ _ _ _ = _
      rw [hear_step]
      simp only [c40, if_false, r40, h.2.1]
      rw [if_neg (nI_ge hj (by omega)), k_hearB hw h hi hj, b1s, ha, nI_1]
      have := msk_s (lk τ i) j (by omega)
      cases hb : lk τ i j <;> rw [hb] at this
      · rw [if_pos (show bI false = 0 from rfl), b1s] at this ⊢
        rw [b1s, Option.some.inj this]
      · rw [if_neg (show ¬ bI true = 0 by decide), b1s] at this ⊢
        rw [b1s, Option.some.inj this])
    fG 0 0 (Nat.zero_le _) (by unfold fG; omega) rfl
  rw [mL_heard]
  have e1 : mL_heard_L5 fG (nI i) 0 0 σ = some t := e1
  rw [e1, b1s, e2]; rfl
end PVB
