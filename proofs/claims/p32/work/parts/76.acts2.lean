section PWD
theorem pr_eq (i : Nat) (hi : i < 5) (j : Nat) (hj : j < 5) (hij : i ≠ j) (a : Nat) (ha : a < 5) (b : Nat) (hb : b < 5) (hab : a < b) : (5 * a + b = pr i j ↔ (a = i ∧ b = j) ∨ (a = j ∧ b = i)) := by
  unfold pr
  by_cases q : i < j
  · rw [if_pos q]; omega
  · rw [if_neg q]; omega
def blB (x6 x7 : Int32) (σ : fm_S) : Option (Int32 × fm_S) :=
  mb1 (mL_pair x6 x7) fun r288 =>
  mb1 (mL_pair x6 x7) fun r297 =>
  if (r297 < 0 ∨ 25 ≤ r297.toNatClampNeg) then none else
  if (r288 < 0 ∨ 25 ≤ r288.toNatClampNeg) then none else
  mb1 (some (sI σ 41 r288 ((1 : Int32) - (rI σ 41 r297)))) fun ρ43 =>
  mb2 (mX4_block x6 x7 ρ43) fun r308 σ308 =>
  mb1 (mL_pair x6 x7) fun r316 =>
  if (r316 < 0 ∨ 25 ≤ r316.toNatClampNeg) then none else
  mb1 (if (rI σ308 41 r316) = (1 : Int32) then some ((1 : Int32)) else some ((0 : Int32))) fun v45_0 =>
  if r308 = v45_0 then
    some ((1 : Int32), σ308)
  else
    some ((0 : Int32), σ308)
theorem k_blB {σ : fm_S} {c i j : Nat} (h : GS σ c) (hi : i < c) (hj : j < c) (hij : i ≠ j) : ∃ σ', blB (nI i) (nI j) σ = some (1, σ') ∧ GS σ' c := by
  obtain ⟨hw, hg, hr, hl, hp, hnw, hse, hz⟩ := h
  have hc := hg.1
  have hpl := pr_lt i (by omega) j (by omega)
  have old := hg.blk hw (show i < 5 by omega) (show j < 5 by omega) hij
  obtain ⟨ρ, hρ⟩ : ∃ s, s = fm_wr σ 41 (pr i j) ((1 : Int32) - σ.1 41 (pr i j)) := ⟨_, rfl⟩
  have Fρ : ∀ a b, ¬ (a = 41 ∧ b = pr i j) → ρ.1 a b = σ.1 a b := fun a b q => by rw [hρ, wrN _ _ (by omega)]
  have vρ : ρ.1 41 (pr i j) = bI (!(mk (σ.1 19 i) j)) := by
    rw [hρ, wrS, old]; cases mk (σ.1 19 i) j <;> decide
  have hwρ : WF ρ c := hw.of (fun a b hab => Fρ a b (by omega))
  obtain ⟨σ', e, r, g⟩ := k_blockC hwρ hi hj hij
  have F : ∀ a b, a ≠ 19 → ¬ (a = 41 ∧ b = pr i j) → σ'.1 a b = σ.1 a b := fun a b q1 q2 => (r.1 a b q1).trans (Fρ a b q2)
  have v1 : σ'.1 41 (pr i j) = bI (!(mk (σ.1 19 i) j)) := (r.1 41 _ (by omega)).trans vρ
  rw [Fρ 19 i (by omega)] at e g
  have G : ∀ a, a < 8 → m8 (σ'.1 19 a) ∧ ∀ b, b < 8 → mk (σ'.1 19 a) b = if (a = i ∧ b = j) ∨ (a = j ∧ b = i) then !(mk (σ.1 19 i) j) else mk (σ.1 19 a) b := fun a ha => by
    have := g a ha
    rw [Fρ 19 a (by omega)] at this; exact this
  obtain ⟨h1, h2, h3, h4, h5, h6, h7, h8⟩ := hw
  obtain ⟨g1, g2, g3, g4, g5⟩ := hg
  refine ⟨σ', ?_, ⟨h1, (F 60 0 (by omega) (by omega)).trans h2, fun k hk => by rw [F 3 k (by omega) (by omega)]; exact h3 k hk, fun k q1 q2 => by rw [F 3 k (by omega) (by omega)]; exact h4 k q1 q2, fun k hk => (G k hk).1, fun a ha b hb => ?_, fun a ha b hb => by rw [F (10 + a) b (by omega) (by omega), F (10 + b) a (by omega) (by omega)]; exact h7 a ha b hb, fun k hk => by rw [F 8 k (by omega) (by omega)]; exact h8 k hk⟩, ⟨g1, (F 40 40 (by omega) (by omega)).trans g2, by rw [F 40 41 (by omega) (by omega), F 60 1 (by omega) (by omega)]; exact g3, fun k hk => ?_, fun a b hab hb => ?_⟩, hr.of (fun k hk j j1 j2 => F 40 _ (by omega) (by omega)) (fun a k a1 a2 _ => F a k (by omega) (by omega)), hl.of (fun b => F 42 b (by omega) (by omega)) (fun a b _ _ => F a b (by omega) (by omega)), hp.of (fun k _ => ⟨F 1 k (by omega) (by omega), F 2 k (by omega) (by omega)⟩) (fun a b _ _ => F a b (by omega) (by omega)), hnw.of (fun k _ => F 7 k (by omega) (by omega)), hse.of (fun k _ => F 5 k (by omega) (by omega)), hz.of (fun a k q1 q2 q3 q4 => F a k (by omega) (by omega)) (fun k j q1 q2 q3 => F 40 _ (by omega) (by omega))⟩
  · unfold blB
    rw [k_pair i (by omega) j (by omega), b1s, b1s]
    simp only [chk8 hpl (by decide), if_false, rIn _ _ (show pr i j < 2 ^ 31 by omega), sIn _ _ _ (show pr i j < 2 ^ 31 by omega)]
    rw [b1s, ← hρ, e, b2s, b1s]
    simp only [chk8 hpl (by decide), if_false, rIn _ _ (show pr i j < 2 ^ 31 by omega), v1]
    cases mk (σ.1 19 i) j
    · rfl
    · rfl
  · rw [(G a ha).2 b hb, (G b hb).2 a ha, h6 a ha b hb]
    by_cases q : (a = i ∧ b = j) ∨ (a = j ∧ b = i)
    · rw [if_pos q, if_pos (by omega)]
    · rw [if_neg q, if_neg (by omega)]
  · rw [F 40 (8 * k) (by omega) (by omega), F 40 (8 * k + 1) (by omega) (by omega), F 40 (8 * k + 2) (by omega) (by omega), F 1 k (by omega) (by omega), F 2 k (by omega) (by omega), F 3 k (by omega) (by omega)]
    exact g4 k hk
  · have hpe := pr_eq i (by omega) j (by omega) hij a (by omega) b hb hab
    rw [(G a (by omega)).2 b (by omega)]
    by_cases q : (a = i ∧ b = j) ∨ (a = j ∧ b = i)
    · rw [if_pos q, hpe.mpr q]; exact v1
    · rw [if_neg q, F 41 _ (by omega) (fun z => q (hpe.mp z.2))]; exact g5 a b hab hb
theorem GS_want {σ : fm_S} {c i j : Nat} (h : GS σ c) (hi : i < c) (hj : j < c) (hij : i ≠ j) {u v : Int32} (hv : (v = -1 ∧ u = 0) ∨ ∃ q, 1 ≤ q ∧ q ≤ 9000 ∧ v = nI q ∧ u = nI q) : GS (fm_wr (fm_wr (fm_wr σ 42 (pr i j) u) (10 + i) j v) (10 + j) i v) c := by
  obtain ⟨hw, hg, hr, hl, hp, hnw, hse, hz⟩ := h
  have hc := hg.1
  obtain ⟨σ', hσ⟩ : ∃ s, s = fm_wr (fm_wr (fm_wr σ 42 (pr i j) u) (10 + i) j v) (10 + j) i v := ⟨_, rfl⟩
  rw [← hσ]
  have F : ∀ a b, ¬ (a = 42 ∧ b = pr i j) → ¬ (a = 10 + i ∧ b = j) → ¬ (a = 10 + j ∧ b = i) → σ'.1 a b = σ.1 a b := fun a b q1 q2 q3 => by
    rw [hσ, wrN _ _ (by omega), wrN _ _ (by omega), wrN _ _ (by omega)]
  have v1 : σ'.1 (10 + i) j = v := by rw [hσ, wrN _ _ (by omega), wrS]
  have v2 : σ'.1 (10 + j) i = v := by rw [hσ, wrS]
  have v3 : σ'.1 42 (pr i j) = u := by rw [hσ, wrN _ _ (by omega), wrN _ _ (by omega), wrS]
  have V : ∀ a b, a < 8 → σ'.1 (10 + a) b = if (a = i ∧ b = j) ∨ (a = j ∧ b = i) then v else σ.1 (10 + a) b := fun a b ha => by
    by_cases q : (a = i ∧ b = j) ∨ (a = j ∧ b = i)
    · rw [if_pos q]
      rcases q with ⟨rfl, rfl⟩ | ⟨rfl, rfl⟩
      · exact v1
      · exact v2
    · rw [if_neg q, hσ, wrN _ _ (by omega), wrN _ _ (by omega), wrN _ _ (by omega)]
  obtain ⟨h1, h2, h3, h4, h5, h6, h7, h8⟩ := hw
  refine ⟨⟨h1, (F 60 0 (by omega) (by omega) (by omega)).trans h2, fun k hk => by rw [F 3 k (by omega) (by omega) (by omega)]; exact h3 k hk, fun k q1 q2 => by rw [F 3 k (by omega) (by omega) (by omega)]; exact h4 k q1 q2, fun k hk => by rw [F 19 k (by omega) (by omega) (by omega)]; exact h5 k hk, fun a ha b hb => by rw [F 19 a (by omega) (by omega) (by omega), F 19 b (by omega) (by omega) (by omega)]; exact h6 a ha b hb, fun a ha b hb => ?_, fun k hk => by rw [F 8 k (by omega) (by omega) (by omega)]; exact h8 k hk⟩, hg.of (fun b _ => F 40 b (by omega) (by omega) (by omega)) (fun b => F 41 b (by omega) (by omega) (by omega)) (fun a b hab => F a b (by omega) (by omega) (by omega)), hr.of (fun k hk j j1 j2 => F 40 _ (by omega) (by omega) (by omega)) (fun a k a1 a2 _ => F a k (by omega) (by omega) (by omega)), fun a b hab hb => ?_, ⟨fun k hk => by rw [F 1 k (by omega) (by omega) (by omega), F 2 k (by omega) (by omega) (by omega)]; exact hp.1 k hk, fun a b ha hb => ?_⟩, hnw.of (fun k _ => F 7 k (by omega) (by omega) (by omega)), hse.of (fun k _ => F 5 k (by omega) (by omega) (by omega)), hz.of (fun a k q1 q2 q3 q4 => F a k (by omega) (by omega) (by omega)) (fun k j q1 q2 q3 => F 40 _ (by omega) (by omega) (by omega))⟩
  · rw [V a b ha, V b a hb, h7 a ha b hb]
    by_cases q : (a = i ∧ b = j) ∨ (a = j ∧ b = i)
    · rw [if_pos q, if_pos (by omega)]
    · rw [if_neg q, if_neg (by omega)]
  · have hpe := pr_eq i (by omega) j (by omega) hij a (by omega) b hb hab
    rw [V a b (by omega)]
    by_cases q : (a = i ∧ b = j) ∨ (a = j ∧ b = i)
    · rw [if_pos q, hpe.mpr q, v3]
      rcases hv with ⟨e1, e2⟩ | ⟨n, n1, n2, e1, e2⟩
      · rw [if_pos e1, e2]
      · rw [if_neg (fun w => by
          have := congrArg Int32.toInt w
          rw [e1, nI_toInt (by omega)] at this
          have h2 : (-1 : Int32).toInt = -1 := by decide
          omega), e1, e2]
    · rw [if_neg q, F 42 _ (fun z => q (hpe.mp z.2)) (by omega) (by omega)]; exact hl a b hab hb
  · rw [V a b ha]
    by_cases q : (a = i ∧ b = j) ∨ (a = j ∧ b = i)
    · rw [if_pos q]
      rcases hv with ⟨e1, e2⟩ | ⟨n, n1, n2, e1, e2⟩
      · exact Or.inl e1
      · exact Or.inr ⟨n, n1, n2, e1⟩
    · rw [if_neg q]; exact hp.2 a b ha hb
def wtB (x6 x7 a b : Int32) (σ : fm_S) : Option (Int32 × fm_S) :=
  mb1 (mL_pair x6 x7) fun r470 =>
  if (r470 < 0 ∨ 25 ≤ r470.toNatClampNeg) then none else
  mb1 (some (rI σ 42 r470)) fun u9_27 =>
  mb1 (mL_pair x6 x7) fun r481 =>
  mb1 (if a = 0 then some ((0 : Int32)) else some (((1 : Int32) + b))) fun v28_0 =>
  if (r481 < 0 ∨ 25 ≤ r481.toNatClampNeg) then none else
  mb1 (some (sI σ 42 r481 v28_0)) fun ρ30 =>
  mb1 (mL_pair x6 x7) fun r516 =>
  if (r516 < 0 ∨ 25 ≤ r516.toNatClampNeg) then none else
  mb1 (some (rI ρ30 42 r516)) fun u10_32 =>
  mb1 (if u10_32 = 0 then some ((-1 : Int32)) else some u10_32) fun v33_0 =>
  mb2 (mX4_want x6 x7 v33_0 ρ30) fun r538 σ538 =>
  mb1 (if u9_27 = 0 then some ((-1 : Int32)) else some u9_27) fun v34_0 =>
  if r538 = v34_0 then
    some ((1 : Int32), σ538)
  else
    some ((0 : Int32), σ538)
theorem k_wtB {σ : fm_S} {c i j : Nat} (h : GS σ c) (hi : i < c) (hj : j < c) (hij : i ≠ j) (a : Int32) {b : Nat} (hb : b < 9000) : ∃ σ', wtB (nI i) (nI j) a (nI b) σ = some (1, σ') ∧ GS σ' c := by
  have h' := h
  obtain ⟨hw, hg, hr, hl, hp, hnw, hse, hz⟩ := h
  have hc := hg.1
  have hpl := pr_lt i (by omega) j (by omega)
  have old := hl.at hw (show i < 5 by omega) (show j < 5 by omega) hij
  have m1 : ∀ q, 1 ≤ q → q ≤ 9000 → ¬ nI q = -1 := fun q q1 q2 w => by
    have := congrArg Int32.toInt w
    rw [nI_toInt (by omega)] at this
    have h2 : (-1 : Int32).toInt = -1 := by decide
    omega
  have hold : (if σ.1 42 (pr i j) = 0 then some ((-1 : Int32)) else some (σ.1 42 (pr i j))) = some (σ.1 (10 + i) j) := by
    rw [old]
    rcases hp.2 i j (by omega) (by omega) with e | ⟨q, q1, q2, e⟩
    · rw [if_pos e, if_pos rfl, e]
    · rw [e, if_neg (m1 q q1 q2), if_neg (nI_ne0 q1 (by omega))]
  obtain ⟨u, v, hu, hv, huv⟩ : ∃ u v : Int32, (if a = 0 then some ((0 : Int32)) else some (((1 : Int32) + nI b))) = some u ∧ (if u = 0 then some ((-1 : Int32)) else some u) = some v ∧ ((v = -1 ∧ u = 0) ∨ ∃ q, 1 ≤ q ∧ q ≤ 9000 ∧ v = nI q ∧ u = nI q) := by
    by_cases e : a = 0
    · exact ⟨0, -1, if_pos e, if_pos rfl, Or.inl ⟨rfl, rfl⟩⟩
    · refine ⟨nI (1 + b), nI (1 + b), by rw [if_neg e, show (1 : Int32) + nI b = nI (1 + b) from nI_add 1 b], if_neg (nI_ne0 (by omega) (by omega)), Or.inr ⟨1 + b, by omega, by omega, rfl, rfl⟩⟩
  have hwρ : WF (fm_wr σ 42 (pr i j) u) c := hw.of (fun a b hab => by rw [wrN _ _ (by omega)])
  have e := k_wantC hwρ hi hj hij (v := v) (by
    rcases huv with ⟨e1, -⟩ | ⟨q, q1, q2, e1, -⟩
    · exact Or.inl e1
    · exact Or.inr ⟨q, q1, q2, e1⟩)
  refine ⟨_, ?_, GS_want h' hi hj hij huv⟩
  unfold wtB
  rw [k_pair i (by omega) j (by omega), b1s]
  simp only [chk8 hpl (by decide), if_false, rIn _ _ (show pr i j < 2 ^ 31 by omega)]
  rw [b1s, b1s, hu, b1s]
  simp only [chk8 hpl (by decide), if_false, sIn _ _ _ (show pr i j < 2 ^ 31 by omega)]
  rw [b1s, b1s]
  simp only [chk8 hpl (by decide), if_false, rIn _ _ (show pr i j < 2 ^ 31 by omega)]
  rw [b1s, wrS, hv, b1s, e, b2s, hold, b1s, wrN _ _ (by omega), if_pos rfl]
end PWD
