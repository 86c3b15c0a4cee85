section PVA
-- numbers as masks
theorem b_sh0 : ∀ k, k < 32 → ((nI k &&& 31).toBitVec.smod 32).toNat = k := by decide +kernel
theorem b_shr {n k : Nat} (h : n < 2 ^ 31) (hk : k < 32) : nI n >>> (nI k &&& 31) = nI (n / 2 ^ k) := pk_shrN h _ k (b_sh0 k hk)
theorem b_shl1 : ∀ k, k < 31 → (1 : Int32) <<< (nI k &&& 31) = nI (2 ^ k) := by decide +kernel
theorem b_and1 {n : Nat} (h : n < 2 ^ 31) : nI n &&& (1 : Int32) = nI (n % 2) := pk_andN (by omega) 1 (by decide)
theorem b_tb (n k : Nat) : n.testBit k = decide (n / 2 ^ k % 2 = 1) := Nat.testBit_eq_decide_div_mod_eq
theorem b_bit {n k : Nat} (h : n < 2 ^ 31) (hk : k < 32) : (nI n >>> (nI k &&& 31)) &&& (1 : Int32) = if n.testBit k then 1 else 0 := by
  have h1 : n / 2 ^ k < 2 ^ 31 := Nat.lt_of_le_of_lt (Nat.div_le_self _ _) h
  rw [b_shr h hk, b_and1 h1, b_tb]
  have : n / 2 ^ k % 2 = 0 ∨ n / 2 ^ k % 2 = 1 := by omega
  rcases this with e | e <;> rw [e] <;> rfl
theorem b_or {a b : Nat} (ha : a < 2 ^ 31) (hb : b < 2 ^ 31) : nI a ||| nI b = nI (a ||| b) := by
  have h2 : a ||| b < 2 ^ 31 := Nat.or_lt_two_pow ha hb
  apply Int32.toBitVec_inj.mp
  apply BitVec.eq_of_toNat_eq
  rw [Int32.toBitVec_or, BitVec.toNat_or, pk_tn (by omega), pk_tn (by omega), pk_tn (by omega)]
theorem b_and {a b : Nat} (ha : a < 2 ^ 31) (hb : b < 2 ^ 31) : nI a &&& nI b = nI (a &&& b) := by
  have h2 : a &&& b < 2 ^ 31 := Nat.and_lt_two_pow a hb
  apply Int32.toBitVec_inj.mp
  apply BitVec.eq_of_toNat_eq
  rw [Int32.toBitVec_and, BitVec.toNat_and, pk_tn (by omega), pk_tn (by omega), pk_tn (by omega)]
/-- the first n of P, as bits -/
def msk (P : Nat → Bool) : Nat → Nat
  | 0 => 0
  | n + 1 => msk P n ||| (if P n then 2 ^ n else 0)
theorem msk_tb (P : Nat → Bool) : ∀ n j, (msk P n).testBit j = (decide (j < n) && P j)
  | 0, j => by simp [msk]
  | n + 1, j => by
    rw [msk, Nat.testBit_or, msk_tb P n j]
    by_cases hP : P n = true
    · rw [if_pos hP, Nat.testBit_two_pow]
      by_cases e : j = n
      · subst e; simp [hP]
      · have e' : ¬ n = j := fun q => e q.symm
        have : (j < n + 1) ↔ j < n := by omega
        simp [e', this]
    · rw [if_neg hP, Nat.zero_testBit]
      by_cases e : j = n
      · subst e; simp [Bool.eq_false_iff.mpr hP]
      · have : (j < n + 1) ↔ j < n := by omega
        simp [this]
theorem msk_lt (P : Nat → Bool) : ∀ n, msk P n < 2 ^ n
  | 0 => by simp [msk]
  | n + 1 => by
    rw [msk]
    refine Nat.or_lt_two_pow (Nat.lt_trans (msk_lt P n) (Nat.pow_lt_pow_right (by decide) (by omega))) ?_
    split
    · exact Nat.pow_lt_pow_right (by decide) (by omega)
    · exact Nat.two_pow_pos _
theorem msk_lt31 (P : Nat → Bool) {n : Nat} (h : n ≤ 31) : msk P n < 2 ^ 31 := Nat.lt_of_lt_of_le (msk_lt P n) (Nat.pow_le_pow_right (by decide) h)
theorem msk_congr {P Q : Nat → Bool} : ∀ n, (∀ j, j < n → P j = Q j) → msk P n = msk Q n
  | 0, _ => rfl
  | n + 1, h => by rw [msk, msk, msk_congr n (fun j hj => h j (by omega)), h n (by omega)]
theorem msk_0 {P : Nat → Bool} : ∀ n, msk P n = 0 ↔ ∀ j, j < n → P j = false := by
  intro n
  constructor
  · intro h j hj
    have := msk_tb P n j
    rw [h, Nat.zero_testBit] at this
    simpa [hj] using this.symm
  · intro h
    apply Nat.eq_of_testBit_eq
    intro j
    rw [msk_tb, Nat.zero_testBit]
    by_cases hj : j < n
    · simp [hj, h j hj]
    · simp [hj]
/-- how many bits -/
theorem pc_tb (m : Nat) : ∀ n, cnt m.testBit (n + 1) = (m % 2) + cnt (m / 2).testBit n
  | 0 => by
    have h : m % 2 = 0 ∨ m % 2 = 1 := by omega
    rw [cnt, cnt, cnt, b_tb]
    rcases h with h | h <;> simp [h]
  | n + 1 => by
    rw [cnt, pc_tb m n, cnt, Nat.testBit_succ]; omega
theorem pc_0 : ∀ n, cnt (0 : Nat).testBit n = 0
  | 0 => rfl
  | n + 1 => by rw [cnt, pc_0 n, Nat.zero_testBit]; rfl
theorem d_and (a b : Nat) : (a &&& b) / 2 = (a / 2) &&& (b / 2) := by
  apply Nat.eq_of_testBit_eq
  intro j
  rw [← Nat.testBit_succ, Nat.testBit_and, Nat.testBit_and, ← Nat.testBit_succ, ← Nat.testBit_succ]
theorem m_and (a b : Nat) : (a &&& b) % 2 = (a % 2) * (b % 2) := by
  have h1 := b_tb (a &&& b) 0
  rw [Nat.testBit_and, b_tb a 0, b_tb b 0] at h1
  simp only [Nat.pow_zero, Nat.div_one] at h1
  have ha : a % 2 = 0 ∨ a % 2 = 1 := by omega
  have hb : b % 2 = 0 ∨ b % 2 = 1 := by omega
  have hc : (a &&& b) % 2 = 0 ∨ (a &&& b) % 2 = 1 := by omega
  rcases ha with ha | ha <;> rcases hb with hb | hb <;> rcases hc with hc | hc <;> simp_all
/-- the lowest bit goes -/
theorem pc_low : ∀ n m, 0 < m → m < 2 ^ n → cnt (m &&& (m - 1)).testBit n + 1 = cnt m.testBit n
  | 0, m, h, h' => by omega
  | n + 1, m, h, h' => by
    rw [pc_tb, pc_tb, d_and, m_and]
    by_cases e : m % 2 = 1
    · rw [show (m - 1) / 2 = m / 2 by omega, show (m - 1) % 2 = 0 by omega, Nat.and_self]; omega
    · rw [show (m - 1) / 2 = m / 2 - 1 by omega, show m % 2 = 0 by omega]
      have := pc_low n (m / 2) (by omega) (by omega)
      omega
theorem pc_le (P : Nat → Bool) : ∀ n, cnt P n ≤ n := cnt_le P
theorem k_ones {m n : Nat} (h : m < 2 ^ n) (hn : n ≤ 30) : mL_ones (nI m) = some (nI (cnt m.testBit n)) := by
  have h31 : ∀ m, m < 2 ^ n → m < 2 ^ 31 := fun m hm => Nat.lt_of_lt_of_le hm (Nat.pow_le_pow_right (by decide) (by omega))
  have L : ∀ d k a m, m < 2 ^ n → cnt m.testBit n = d → d < k → mL_ones_L4 k (nI a) (nI m) = some (nI (a + d)) := by
    intro d
    induction d with
    | zero =>
      intro k a m hm hc hk
      obtain ⟨k, rfl⟩ : ∃ k', k = k' + 1 := ⟨k - 1, by omega⟩
      have : m = 0 := by
        apply Classical.byContradiction; intro q
        have := pc_low n m (by omega) hm
        omega
      subst this
      rw [mL_ones_L4, if_pos nI_0]; rfl
    | succ d ih =>
      intro k a m hm hc hk
      obtain ⟨k, rfl⟩ : ∃ k', k = k' + 1 := ⟨k - 1, by omega⟩
      have h0 : 0 < m := by
        apply Nat.pos_of_ne_zero; rintro rfl
        rw [pc_0] at hc; omega
      have hne : ¬ nI m = 0 := nI_ne0 h0 (h31 m hm)
      have hlt : m &&& (m - 1) < 2 ^ n := Nat.lt_of_le_of_lt Nat.and_le_left hm
      have := pc_low n m h0 hm
      rw [mL_ones_L4, if_neg hne, nI_1]
      rw [show nI m - (1 : Int32) = nI (m - 1) from (pk_sub (a := m) (b := 1) (by omega)), b_and (h31 m hm) (Nat.lt_of_le_of_lt (Nat.sub_le _ _) (h31 m hm)), b1s, ih k (a + 1) _ hlt (by omega) (by omega)]
      congr 2; omega
  have hc := cnt_le m.testBit n
  rw [mL_ones]
  have := L (cnt m.testBit n) fG 0 m h rfl (by unfold fG; omega)
  rw [show (0 : Int32) = nI 0 from rfl, this, b1s, Nat.zero_add]
end PVA
