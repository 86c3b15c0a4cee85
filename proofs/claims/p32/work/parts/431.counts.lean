section LVV
def su (i j m : Nat) : Bool := m.testBit i && m.testBit j
theorem q_sup : ∀ m, m < 256 → ∀ i, i < 8 → ∀ j, j < 8 → ((nI m &&& nI (2 ^ i ||| 2 ^ j) = nI (2 ^ i ||| 2 ^ j)) ↔ su i j m = true) ∧ (su i j m = true → 2 ^ i ||| 2 ^ j ≤ m) ∧ 2 ^ i ||| 2 ^ j < 256 := by decide +kernel
theorem k_pm {i j : Nat} (hi : i < 8) (hj : j < 8) : ∃ y, mX1_with 0 (nI i) = some y ∧ mX1_with y (nI j) = some (nI (2 ^ i ||| 2 ^ j)) := by
  have h : ∀ i, i < 8 → ∀ j, j < 8 → mX1_with 0 (nI i) = some (nI (2 ^ i)) ∧ mX1_with (nI (2 ^ i)) (nI j) = some (nI (2 ^ i ||| 2 ^ j)) := by decide +kernel
  exact ⟨_, (h i hi j hj).1, (h i hi j hj).2⟩
/-- the counts picture the list -/
def CT (s : fm_S) (I : List (Nat × Nat)) : Prop := ∀ m, m < 256 → s.1 29 m = nI (gCn m.testBit I)
theorem gCn_len (V : Nat → Bool) (I : List (Nat × Nat)) : gCn V I ≤ I.length := List.countP_le_length
theorem k_leaves {s : fm_S} {I : List (Nat × Nat)} (hs : CT s I) (hF : gFree I) (hO : gOk I) {i j : Nat} (hi : i < 8) (hj : j < 8) (hij : i ≠ j) (hlen : I.length < 1000) : ∃ b : Bool, mX0_leavesFree (nI (2 ^ i ||| 2 ^ j)) s = some (bI b) ∧ (b = true ↔ gFree ((j, i) :: I)) := by
  have hp := (q_sup 0 (by omega) i hi j hj).2.2
  obtain ⟨t, e1, e2⟩ := lpE (fun n x2 (_ : Unit) => mX0_leavesFree_L2 n (nI (2 ^ i ||| 2 ^ j)) x2 s) 256 (fun m _ => ∀ k, k < m → 2 ^ i ||| 2 ^ j ≤ k → su i j k = true → gCn k.testBit I + 3 < 2 * cn8 k.testBit)
    (fun t => (t = .ok () ∧ gFree ((j, i) :: I)) ∨ (t = .error 0 ∧ ¬ gFree ((j, i) :: I)))
    (fun n _ h => ⟨.ok (), by simp only [mX0_leavesFree_L2]; rw [show (256 : Int32) = nI 256 from rfl, if_pos (nI_le (Nat.le_refl _) (by decide))], Or.inl ⟨rfl, fun V hV => by
      obtain ⟨m, hm, hb⟩ := vm V
      have a1 : cn8 m.testBit = gSz V := by rw [gSz8]; exact cn8_congr hb
      have a2 : gCn V I = gCn m.testBit I := (gCn_congr hO hb).symm
      rw [gCn_cons, a2, ← a1]
      by_cases z : (V j && V i) = true
      · rw [if_pos z]
        have su1 : su i j m = true := by unfold su; rw [hb i hi, hb j hj]; simp only [Bool.and_eq_true] at z ⊢; exact ⟨z.2, z.1⟩
        have := h m hm ((q_sup m hm i hi j hj).2.1 su1) su1
        omega
      · rw [if_neg z]
        have := hF V hV
        rw [a2, ← a1] at this; omega⟩⟩)
    (fun n m _ hm h => by
      have hq := (q_sup m hm i hi j hj).1
      have hb := q_cnt0 m hm
      have g1 := gCn_len m.testBit I
      have c8 := cn8_le m.testBit
      cases z : su i j m
      · left
        refine ⟨(), ?_, fun k hk h1 h2 => ?_⟩
        · simp only [mX0_leavesFree_L2]
          rw [show (256 : Int32) = nI 256 from rfl, if_neg (nI_ge hm (by decide)), if_neg (fun w => by rw [hq, z] at w; cases w), b1s, if_pos rfl, nI_1]
        · by_cases w : k = m
          · subst w; rw [z] at h2; cases h2
          · exact h k (by omega) h1 h2
      · have two : 2 ≤ cn8 m.testBit := by
          unfold su at z
          simp only [Bool.and_eq_true] at z
          rw [← gSz8]; exact gSz_two hi hj hij z.1 z.2
        have e23 : (2 : Int32) * nI (cn8 m.testBit) - 3 = nI (2 * cn8 m.testBit - 3) := by
          rw [show (2 : Int32) = nI 2 from rfl, pk_mul, show (3 : Int32) = nI 3 from rfl, pk_sub (by omega)]
        by_cases q : gCn m.testBit I + 3 < 2 * cn8 m.testBit
        · left
          refine ⟨(), ?_, fun k hk h1 h2 => ?_⟩
          · simp only [mX0_leavesFree_L2]
            rw [show (256 : Int32) = nI 256 from rfl, if_neg (nI_ge hm (by decide)), if_pos (hq.mpr z), b1s, if_neg (by decide)]
            simp only [chk8 hm (by decide), if_false]
            rw [hb, b1s, rIn _ _ (by omega), hs m hm, e23, if_pos (nI_lt (by omega) (by omega)), nI_1]
          · by_cases w : k = m
            · subst w; exact q
            · exact h k (by omega) h1 h2
        · right
          refine ⟨.error 0, ?_, Or.inr ⟨rfl, fun hG => ?_⟩⟩
          · simp only [mX0_leavesFree_L2]
            rw [show (256 : Int32) = nI 256 from rfl, if_neg (nI_ge hm (by decide)), if_pos (hq.mpr z), b1s, if_neg (by decide)]
            simp only [chk8 hm (by decide), if_false]
            rw [hb, b1s, rIn _ _ (by omega), hs m hm, e23, if_neg (nI_nlt (by omega) (by omega))]
          · have := hG m.testBit (by rw [gSz8]; exact two)
            rw [gCn_cons, gSz8] at this
            unfold su at z
            simp only [Bool.and_eq_true] at z
            rw [if_pos (by simp only [Bool.and_eq_true]; exact ⟨z.2, z.1⟩)] at this
            omega)
    fF (2 ^ i ||| 2 ^ j) () (by omega) (by unfold fF; omega) (fun k hk h1 => absurd h1 (by omega))
  rw [mX0_leavesFree, e1]
  rcases e2 with ⟨rfl, h⟩ | ⟨rfl, h⟩
  · exact ⟨true, rfl, fun _ => h, fun _ => rfl⟩
  · exact ⟨false, rfl, fun z => (by cases z), fun z => absurd z h⟩
end LVV
