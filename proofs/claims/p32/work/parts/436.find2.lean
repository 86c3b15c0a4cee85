section LVBB
theorem mk0 (j : Nat) : mk 0 j = false := by
  have z : mk (nI 0) j = _ := mkn (by omega) j
  rw [Nat.zero_testBit] at z
  exact z
theorem nm0 {P : Prop} {j : Nat} (h : mk 0 j = true) : P := by
  rw [mk0] at h; cases h
theorem m80 : m8 0 := ⟨0, by omega, rfl⟩
theorem cn8_lt {P Q : Nat → Bool} (h : ∀ j, j < 8 → P j = true → Q j = true) {b : Nat} (hb : b < 8) (h1 : Q b = true) (h2 : P b = false) : cn8 P < cn8 Q := by
  rw [← cnt8, ← cnt8]
  exact cnt_lt h h2 h1 8 (Nat.le_refl _) hb
/-- ahead of a leg: sn is what was seen, ed the edge -/
def FP (s0 : fm_S) (p : Nat → Nat) (a : Nat → Nat → Bool) (x y l : Nat) (sn ed : Int32) (s : fm_S) : Prop :=
  0 < l ∧ rowE 27 s0 s ∧ m8 sn ∧ m8 ed ∧ mk sn x = true ∧ mk sn y = true ∧ (∀ v, v < 8 → mk ed v = true → mk sn v = true) ∧ (∀ v, v < 8 → mk sn v = true → v ≠ x → v ≠ y → p v = 0) ∧
  (∀ v, v < 8 → mk sn v = true → mk ed v = false → v ≠ y → ∀ w, w < 8 → a v w = true → mk sn w = true) ∧ ((∀ v, v < 8 → mk ed v = false) ∨ l + 1 ≤ cn8 (mk sn)) ∧
  ∃ r : Nat → Nat, WY s a x r ∧ (∀ v, v < 8 → r v < l) ∧ (∀ v, v < 8 → 0 < r v → mk sn v = true) ∧ (∀ u, u < 8 → mk ed u = true → r u = 0 → u = x) ∧ r x = 0 ∧ r y = 0
/-- what a search that found a pebble leaves; what one that found none tells -/
def FY (s' : fm_S) (p : Nat → Nat) (a : Nat → Nat → Bool) (x y h : Nat) : Prop := h < 8 ∧ h ≠ x ∧ h ≠ y ∧ 0 < p h ∧ ∃ k : Nat → Nat, WY s' a x k ∧ k h ≤ 7 ∧ 0 < k h ∧ k x = 0
def FN (p : Nat → Nat) (a : Nat → Nat → Bool) (x y : Nat) : Prop := ∃ V : Nat → Bool, V x = true ∧ V y = true ∧ (∀ v, v < 8 → V v = true → v ≠ x → v ≠ y → p v = 0) ∧ ∀ v, v < 8 → V v = true → v ≠ y → ∀ w, w < 8 → a v w = true → V w = true
theorem k_find {s : fm_S} {p : Nat → Nat} {a : Nat → Nat → Bool} (hs : PA s p a) {x y : Nat} (hx : x < 8) (hy : y < 8) (hne : x ≠ y) : ∃ r s', mX2_findPebble (nI x) (nI y) s = some (r, s') ∧ rowE 27 s s' ∧ ((∃ h, r = nI h ∧ FY s' p a x y h) ∨ (r = -1 ∧ FN p a x y)) := by
  obtain ⟨s5, e5, r5, z5⟩ := k_fill 27 (-1) s (by decide)
  obtain ⟨ed, d1, d2, d3⟩ := q_with m80 hx
  obtain ⟨sn, f1, f2, f3⟩ := q_with d2 hy
  have d3 : ∀ j, j < 8 → (mk ed j = true ↔ j = x) := fun j hj => by rw [d3 j hj, mk0]; simp
  have f3 : ∀ j, j < 8 → (mk sn j = true ↔ j = x ∨ j = y) := fun j hj => by rw [f3 j hj, Bool.or_eq_true, d3 j hj, beq_iff_eq]
  have hxs := (f3 x hx).mpr (Or.inl rfl)
  have hys := (f3 y hy).mpr (Or.inr rfl)
  obtain ⟨t, e1, t1⟩ := lpE (fun n x5 (u : Int32 × Int32 × fm_S) => mX2_findPebble_L28 n u.1 u.2.1 x5 u.2.2) 8 (fun l u => FP s5 p a x y l u.1 u.2.1 u.2.2)
    (fun t => (∃ h s', t = .error (nI h, s') ∧ rowE 27 s5 s' ∧ FY s' p a x y h) ∨ (∃ s', t = .ok s' ∧ rowE 27 s5 s' ∧ FN p a x y))
    (fun n u hu => by
      obtain ⟨b1, b2, b3, b4, b5, b6, b7, b8, b9, b10, _⟩ := hu
      refine ⟨.ok u.2.2, by simp only [mX2_findPebble_L28]; rw [show (8 : Int32) = nI 8 from rfl, if_pos (nI_le (Nat.le_refl _) (by decide))], Or.inr ⟨u.2.2, rfl, b2, mk u.1, b5, b6, b8, fun v hv h1 h2 => b9 v hv h1 ?_ h2⟩⟩
      rcases b10 with q | q
      · exact q v hv
      · have := cn8_le (mk u.1); omega)
    (fun n l u hl hu => by
      obtain ⟨b1, b2, b3, b4, b5, b6, b7, b8, b9, b10, r, c1, c2, c3, c4, c5, c6⟩ := hu
      have hp5 : PA s5 p a := hs.of r5
      obtain ⟨x6, s', g1, g2, g3, g4, r', h1, h2, h3, h4, h5, h6, h7⟩ := k_leg hp5 hx hy b1 b3 b4 b5 b6 b7 (s := u.2.2) ⟨b2, m80, fun v _ => ⟨fun q => nm0 q, fun ⟨_, w, q, _⟩ => absurd q (Nat.not_lt_zero _)⟩, r, c1, fun v hv => by have := c2 v hv; omega, fun v hv q => Or.inl (c3 v hv q), fun w hw q => ⟨c2 w hw, c4 w hw q⟩, fun v _ q => nm0 q, c5, c6⟩
      obtain ⟨rr, i1, i2⟩ := k_holder (hp5.of g2) g3
      rcases i2 with ⟨h, j1, rfl, j2, j3⟩ | ⟨rfl, j⟩
      · right
        have nh : mk u.1 h = false := ((g4 h j1).mp j2).1
        refine ⟨.error (nI h, s'), ?_, Or.inl ⟨h, s', rfl, g2, j1, fun q => ?_, fun q => ?_, j3, r', h1, ?_, ?_, h6⟩⟩
        · simp only [mX2_findPebble_L28]
          rw [show (8 : Int32) = nI 8 from rfl, if_neg (nI_ge hl (by decide)), g1, b2s, i1, b1s, if_neg (nI_pos (by omega))]
        · rw [q, b5] at nh; cases nh
        · rw [q, b6] at nh; cases nh
        · rw [h5 h j1 j2]; omega
        · rw [h5 h j1 j2]; exact b1
      · left
        obtain ⟨o1, o2⟩ := q_or2 b3 g3
        refine ⟨(u.1 ||| x6, x6, s'), ?_, Nat.succ_pos _, g2, o1, g3, ?_, ?_, fun v hv q => ?_, fun v hv q q1 q2 => ?_, fun v hv q q1 q2 w hw q3 => ?_, ?_, r', h1, fun v hv => ?_, fun v hv q => ?_, fun w hw q q1 => ?_, h6, h7⟩
        · simp only [mX2_findPebble_L28]
          rw [show (8 : Int32) = nI 8 from rfl, if_neg (nI_ge hl (by decide)), g1, b2s, i1, b1s, if_pos (by decide), nI_1]
        · show mk (u.1 ||| x6) x = true
          rw [o2, b5] <;> rfl
        · show mk (u.1 ||| x6) y = true
          rw [o2, b6] <;> rfl
        · have q : mk x6 v = true := q
          show mk (u.1 ||| x6) v = true
          rw [o2, q, Bool.or_true]
        · have q : mk (u.1 ||| x6) v = true := q
          rw [o2, Bool.or_eq_true] at q
          rcases q with q | q
          · exact b8 v hv q q1 q2
          · exact j v hv q
        · have q1 : mk x6 v = false := q1
          have q : mk (u.1 ||| x6) v = true := q
          show mk (u.1 ||| x6) w = true
          rw [o2, q1, Bool.or_false] at q
          rw [o2, Bool.or_eq_true]
          cases z : mk u.2.1 v
          · exact Or.inl (b9 v hv q z q2 w hw q3)
          · cases z2 : mk u.1 w
            · exact Or.inr ((g4 w hw).mpr ⟨z2, v, hv, z, q3⟩)
            · exact Or.inl rfl
        · by_cases z : ∀ v, v < 8 → mk x6 v = false
          · exact Or.inl z
          · right
            obtain ⟨v, z⟩ := Classical.not_forall.mp z
            obtain ⟨hv, z⟩ := Classical.not_imp.mp z
            have z : mk x6 v = true := by cases q : mk x6 v; exact absurd q z; rfl
            obtain ⟨z1, w, z2, z3, z4⟩ := (g4 v hv).mp z
            rcases b10 with q | q
            · rw [q w z2] at z3; cases z3
            · have : cn8 (mk u.1) < cn8 (mk (u.1 ||| x6)) := cn8_lt (fun j _ h => by rw [o2, h] <;> rfl) hv (by rw [o2, z, Bool.or_true]) z1
              show l + 1 + 1 ≤ cn8 (mk (u.1 ||| x6))
              omega
        · have := h2 v hv; omega
        · show mk (u.1 ||| x6) v = true
          rw [o2, Bool.or_eq_true]; exact h3 v hv q
        · have := h5 w hw q; omega)
    fF 1 (sn, ed, s5) (by omega) (by unfold fF; omega) ⟨by omega, rowE.rfl, f2, d2, hxs, hys, fun v hv q => (f3 v hv).mpr (Or.inl ((d3 v hv).mp q)), fun v hv q q1 q2 => absurd ((f3 v hv).mp q) (fun h => h.elim q1 q2), fun v hv q q1 q2 => by
        rcases (f3 v hv).mp q with h | h
        · rw [(d3 v hv).mpr h] at q1; cases q1
        · exact absurd h q2, Or.inr (by rw [← gSz8]; exact gSz_two hx hy hne hxs hys), fun _ => 0, fun v hv => ⟨fun _ => z5 v hv, fun q => absurd q (Nat.lt_irrefl 0)⟩, fun v hv => Nat.zero_lt_one, fun v hv q => absurd q (Nat.lt_irrefl 0), fun w hw q _ => (d3 w hw).mp q, rfl, rfl⟩
  have e1 : mX2_findPebble_L28 fF sn ed 1 s5 = some t := e1
  rw [mX2_findPebble, e5, b1s, d1, b1s, f1, b1s, b1s, e1]
  rcases t1 with ⟨h, s', rfl, q1, q2⟩ | ⟨s', rfl, q1, q2⟩
  · exact ⟨nI h, s', rfl, r5.trans q1, Or.inl ⟨h, rfl, q2⟩⟩
  · exact ⟨-1, s', rfl, r5.trans q1, Or.inr ⟨rfl, q2⟩⟩
end LVBB
