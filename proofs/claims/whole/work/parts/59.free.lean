section LVT
theorem gSz8 (V : Nat → Bool) : gSz V = cn8 V := by
  unfold gSz cn8
  rw [show List.range 8 = [0, 1, 2, 3, 4, 5, 6, 7] from rfl]
  simp only [List.countP_cons, List.countP_nil]
  generalize V 0 = a; generalize V 1 = b; generalize V 2 = c; generalize V 3 = d; generalize V 4 = e; generalize V 5 = f; generalize V 6 = g; generalize V 7 = h
  revert a b c d e f g h
  decide
theorem vm0 : ∀ a b c d e f g h : Bool, ∃ m, m < 256 ∧ m.testBit 0 = a ∧ m.testBit 1 = b ∧ m.testBit 2 = c ∧ m.testBit 3 = d ∧ m.testBit 4 = e ∧ m.testBit 5 = f ∧ m.testBit 6 = g ∧ m.testBit 7 = h := by
  intro a b c d e f g h
  refine ⟨a.toNat + 2 * b.toNat + 4 * c.toNat + 8 * d.toNat + 16 * e.toNat + 32 * f.toNat + 64 * g.toNat + 128 * h.toNat, ?_⟩
  revert a b c d e f g h
  decide +kernel
/-- every set of members is a mask -/
theorem vm (V : Nat → Bool) : ∃ m, m < 256 ∧ ∀ j, j < 8 → m.testBit j = V j := by
  obtain ⟨m, h, h0, h1, h2, h3, h4, h5, h6, h7⟩ := vm0 (V 0) (V 1) (V 2) (V 3) (V 4) (V 5) (V 6) (V 7)
  refine ⟨m, h, fun j hj => ?_⟩
  match j, hj with
  | 0, _ => exact h0
  | 1, _ => exact h1
  | 2, _ => exact h2
  | 3, _ => exact h3
  | 4, _ => exact h4
  | 5, _ => exact h5
  | 6, _ => exact h6
  | 7, _ => exact h7
  | n + 8, h => exact absurd h (by omega)
theorem gCn_congr {V V' : Nat → Bool} {S : List (Nat × Nat)} (hO : gOk S) (h : ∀ j, j < 8 → V j = V' j) : gCn V S = gCn V' S := by
  unfold gCn
  apply List.countP_congr
  intro e he
  obtain ⟨h1, h2, -⟩ := hO e he
  rw [h _ h1, h _ h2]
theorem q_bits0 : ∀ m, m < 256 → mX5_bits (nI m) = some (nI (cn8 m.testBit)) := by decide +kernel
theorem cnt_congr {P Q : Nat → Bool} : ∀ n, (∀ j, j < n → P j = Q j) → cnt P n = cnt Q n := by
  intro n
  induction n with
  | zero => intro _; rfl
  | succ n ih => intro h; rw [cnt, cnt, ih (fun j hj => h j (by omega)), h n (by omega)]
/-- the kept links with both ends in V -/
def kc (κ : Nat → Bool) (V : Nat → Bool) : Nat → Nat := cnt (fun k => κ k && V (k / 8) && V (k % 8))
theorem k_kept13 {σ : fm_S} {κ : Nat → Bool} (hκ : ∀ k, k < 64 → σ.1 53 k = bI (κ k)) {m : Nat} (hm : m < 256) : mX5_isFree_L13 fF (nI m) 0 0 σ = some (nI (kc κ m.testBit 64)) := by
  have hx : m8 (nI m) := ⟨m, hm, rfl⟩
  obtain ⟨t, e1, e2⟩ := lpU (fun n x3 (a : Int32) => mX5_isFree_L13 n (nI m) a x3 σ) 64 (fun k a => a = nI (kc κ m.testBit k)) (fun a => a = nI (kc κ m.testBit 64))
    (fun n a ha => ⟨a, by simp only [mX5_isFree_L13]; rw [show (64 : Int32) = nI 64 from rfl, if_pos (nI_le (Nat.le_refl _) (by decide))], ha⟩)
    (fun n k a hk ha => by
      obtain ⟨d1, d2⟩ := dm8 hk
      have i8 : k / 8 < 8 := by omega
      have j8 : k % 8 < 8 := by omega
      refine ⟨nI (kc κ m.testBit (k + 1)), ?_, rfl⟩
      simp only [mX5_isFree_L13, d1, d2]
      rw [show (64 : Int32) = nI 64 from rfl, if_neg (nI_ge hk (by decide))]
      simp only [chk8 hk (by decide), if_false]
      rw [rIn _ _ (by omega), hκ k hk, k_bit hx i8, k_bit hx j8, mkn (by omega), mkn (by omega), ha, nI_1]
      have e3 : (if bI (κ k) = 0 then some (0 : Int32) else if (if m.testBit (k / 8) then (1 : Int32) else 0) = 1 then (if (if m.testBit (k % 8) then (1 : Int32) else 0) = 1 then some (1 : Int32) else some 0) else some 0) = some (nI (κ k && m.testBit (k / 8) && m.testBit (k % 8)).toNat) := by
        cases κ k <;> cases m.testBit (k / 8) <;> cases m.testBit (k % 8) <;> rfl
      rw [e3, b1s, nI_add]; rfl)
    fF 0 0 (Nat.zero_le _) (by unfold fF; omega) rfl
  have e1 : mX5_isFree_L13 fF (nI m) 0 0 σ = some t := e1
  rw [e1, e2]
theorem k_isFree {σ : fm_S} {κ : Nat → Bool} {S : List (Nat × Nat)} (hκ : ∀ k, k < 64 → σ.1 53 k = bI (κ k)) (hO : gOk S) (hS : ∀ V : Nat → Bool, kc κ V 64 = gCn V S) : ∃ b : Bool, mX5_isFree σ = some (bI b) ∧ (b = true ↔ gFree S) := by
  have toM : (∀ m, m < 256 → 2 ≤ cn8 m.testBit → kc κ m.testBit 64 + 3 ≤ 2 * cn8 m.testBit) → gFree S := fun h V hV => by
    obtain ⟨m, hm, hb⟩ := vm V
    have e1 : cn8 m.testBit = gSz V := by rw [gSz8]; exact cn8_congr hb
    have e2 : gCn V S = kc κ m.testBit 64 := by rw [hS]; exact (gCn_congr hO hb).symm
    rw [e2, ← e1]
    exact h m hm (by rw [e1]; exact hV)
  obtain ⟨t, e1, e2⟩ := lpE (fun n x1 (_ : Unit) => mX5_isFree_L2 n x1 σ) 256 (fun k _ => ∀ m, m < k → 2 ≤ cn8 m.testBit → kc κ m.testBit 64 + 3 ≤ 2 * cn8 m.testBit)
    (fun t => (t = .ok () ∧ gFree S) ∨ (t = .error 0 ∧ ¬ gFree S))
    (fun n _ hp => ⟨.ok (), by simp only [mX5_isFree_L2]; rw [show (256 : Int32) = nI 256 from rfl, if_pos (nI_le (Nat.le_refl _) (by decide))], Or.inl ⟨rfl, toM hp⟩⟩)
    (fun n m _ hm hp => by
      have hk := k_kept13 hκ hm
      have hb := q_bits0 m hm
      have c8 := cn8_le m.testBit
      have kle : kc κ m.testBit 64 ≤ 64 := cnt_le _ 64
      by_cases q : cn8 m.testBit < 2
      · left
        have l2 : nI (cn8 m.testBit) < (2 : Int32) := nI_lt (b := 2) q (by decide)
        refine ⟨(), ?_, fun j hj h2 => ?_⟩
        · simp only [mX5_isFree_L2]
          rw [show (256 : Int32) = nI 256 from rfl, if_neg (nI_ge hm (by decide)), hk, b1s, hb, b1s, if_pos l2, nI_1]
        · by_cases z : j = m
          · subst z; omega
          · exact hp j (by omega) h2
      · have e23 : (2 : Int32) * nI (cn8 m.testBit) - 3 = nI (2 * cn8 m.testBit - 3) := by
          rw [show (2 : Int32) = nI 2 from rfl, pk_mul, show (3 : Int32) = nI 3 from rfl, pk_sub (by omega)]
        have l2 : ¬ nI (cn8 m.testBit) < (2 : Int32) := nI_nlt (b := 2) (by omega) (by omega)
        by_cases q2 : kc κ m.testBit 64 + 3 ≤ 2 * cn8 m.testBit
        · left
          refine ⟨(), ?_, fun j hj h2 => ?_⟩
          · simp only [mX5_isFree_L2]
            rw [show (256 : Int32) = nI 256 from rfl, if_neg (nI_ge hm (by decide)), hk, b1s, hb, b1s, if_neg l2, b1s, e23, if_pos (nI_le (by omega) (by omega)), nI_1]
          · by_cases z : j = m
            · subst z; exact q2
            · exact hp j (by omega) h2
        · right
          refine ⟨.error 0, ?_, Or.inr ⟨rfl, fun hF => ?_⟩⟩
          · simp only [mX5_isFree_L2]
            rw [show (256 : Int32) = nI 256 from rfl, if_neg (nI_ge hm (by decide)), hk, b1s, hb, b1s, if_neg l2, b1s, e23, if_neg (nI_ge (by omega) (by omega))]
          · have := hF m.testBit (by rw [gSz8]; omega)
            rw [← hS, gSz8] at this
            exact q2 this)
    fF 0 () (by omega) (by unfold fF; omega) (fun m hm => absurd hm (by omega))
  have e1 : mX5_isFree_L2 fF 0 σ = some t := e1
  rw [mX5_isFree, e1]
  rcases e2 with ⟨rfl, h⟩ | ⟨rfl, h⟩
  · exact ⟨true, rfl, fun _ => h, fun _ => rfl⟩
  · exact ⟨false, rfl, fun z => (by cases z), fun z => absurd z h⟩
end LVT
