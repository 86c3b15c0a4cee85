section PWF
theorem b_pos (v : Int32) : ∃ r, r < 2 ^ 31 ∧ v &&& (2147483647 : Int32) = nI r := by
  refine ⟨v.toBitVec.toNat % 2 ^ 31, Nat.mod_lt _ (by decide), ?_⟩
  apply Int32.toBitVec_inj.mp
  apply BitVec.eq_of_toNat_eq
  have hm : (2147483647 : Int32).toBitVec.toNat = 2 ^ 31 - 1 := by decide
  rw [Int32.toBitVec_and, BitVec.toNat_and, hm, Nat.and_two_pow_sub_one_eq_mod, pk_tn (Nat.lt_of_lt_of_le (Nat.mod_lt _ (by decide)) (by decide))]
theorem k_from (xs : Nat → Int32) {L : Nat} (hL : L ≤ 260) {e m : Nat} (he : e < 1000) (h0 : 0 < m) (hm : m < 2 ^ 31) : ∃ r, r < m ∧ mL_from xs L (nI e) (nI m) = some (nI r) := by
  have key : ∃ v, mL_from xs L (nI e) (nI m) = some ((v &&& (2147483647 : Int32)) - (v &&& (2147483647 : Int32)) / nI m * nI m) := by
    have hmn : ¬ nI m = 0 := nI_ne0 h0 hm
    by_cases q : L = 0
    · refine ⟨(97 : Int32) * nI e + 71, ?_⟩
      rw [mL_from, if_pos (show Int32.ofNat L = 0 by rw [q]; rfl), b1s, if_neg hmn]
    · have hLn : ¬ Int32.ofNat L = 0 := nI_ne0 (n := L) (by omega) (by omega)
      have hr : nI e - nI e / Int32.ofNat L * Int32.ofNat L = nI (e % L) := pk_rem (d := L) (by omega) (by omega) (by omega)
      have hlt : e % L < L := Nat.mod_lt _ (by omega)
      refine ⟨(xs (e % L)) ^^^ ((110969 : Int32) * nI e), ?_⟩
      rw [mL_from, if_neg hLn, if_neg hLn, hr]
      simp only [chk8 hlt (show L < 2 ^ 31 by omega), if_false]
      rw [b1s, if_neg hmn, nI_clamp (by omega)]
  obtain ⟨v, hv⟩ := key
  obtain ⟨r, r1, r2⟩ := b_pos v
  exact ⟨r % m, Nat.mod_lt _ h0, by rw [hv, r2, pk_rem r1 h0 hm]⟩
theorem sm60 : ∀ n, n < 120 → (-1000 ≤ (nI n - (60 : Int32)).toInt ∧ (nI n - (60 : Int32)).toInt ≤ 1000) := by decide +kernel
theorem iS_cong {w w' : Nat → Int} : ∀ n, (∀ i, i < n → w i = w' i) → iS w n = iS w' n
  | 0, _ => rfl
  | n + 1, h => by rw [iS, iS, iS_cong n (fun i hi => h i (by omega)), h n (by omega)]
def adS (σ : fm_S) (c : Nat) (x y : Int32) : fm_S :=
  fm_wr (fm_wr (fm_wr (fm_wr (fm_wr (fm_wr (fm_wr (fm_wr (fm_wr (fm_wr σ 40 (8 * c) x) 40 (8 * c + 1) y) 40 (8 * c + 6) 1024) 1 c x) 2 c y) 3 c 1) 7 c 1024) 8 c (-1)) 60 0 (nI c + 1)) 40 40 (nI c + 1)
theorem GS_add {σ : fm_S} {c : Nat} (h : GS σ c) (c5 : c < 5) {x y : Int32} (hx : small x) (hy : small y) : GS (adS σ c x y) (c + 1) := by
  obtain ⟨hw, hg, hr, hl, hp, hnw, hse, hz⟩ := h
  obtain ⟨s, hs⟩ : ∃ s, s = adS σ c x y := ⟨_, rfl⟩
  rw [← hs]
  have hs' := hs
  unfold adS at hs'
  have F : ∀ a b, ¬ (a = 40 ∧ (b = 8 * c ∨ b = 8 * c + 1 ∨ b = 8 * c + 6 ∨ b = 40)) → ¬ ((a = 1 ∨ a = 2 ∨ a = 3 ∨ a = 7 ∨ a = 8) ∧ b = c) → ¬ (a = 60 ∧ b = 0) → s.1 a b = σ.1 a b := fun a b q1 q2 q3 => by
    rw [hs', wrN _ _ (by omega), wrN _ _ (by omega), wrN _ _ (by omega), wrN _ _ (by omega), wrN _ _ (by omega), wrN _ _ (by omega), wrN _ _ (by omega), wrN _ _ (by omega), wrN _ _ (by omega), wrN _ _ (by omega)]
  have v60 : s.1 60 0 = nI (c + 1) := by rw [hs', wrN _ _ (by omega), wrS, nI_1]
  have v40 : s.1 40 40 = nI (c + 1) := by rw [hs', wrS, nI_1]
  have v8 : s.1 8 c = -1 := by rw [hs', wrN _ _ (by omega), wrN _ _ (by omega), wrS]
  have v7 : s.1 7 c = 1024 := by rw [hs', wrN _ _ (by omega), wrN _ _ (by omega), wrN _ _ (by omega), wrS]
  have v3 : s.1 3 c = 1 := by rw [hs', wrN _ _ (by omega), wrN _ _ (by omega), wrN _ _ (by omega), wrN _ _ (by omega), wrS]
  have v2 : s.1 2 c = y := by rw [hs', wrN _ _ (by omega), wrN _ _ (by omega), wrN _ _ (by omega), wrN _ _ (by omega), wrN _ _ (by omega), wrS]
  have v1 : s.1 1 c = x := by rw [hs', wrN _ _ (by omega), wrN _ _ (by omega), wrN _ _ (by omega), wrN _ _ (by omega), wrN _ _ (by omega), wrN _ _ (by omega), wrS]
  have l6 : s.1 40 (8 * c + 6) = 1024 := by rw [hs', wrN _ _ (by omega), wrN _ _ (by omega), wrN _ _ (by omega), wrN _ _ (by omega), wrN _ _ (by omega), wrN _ _ (by omega), wrN _ _ (by omega), wrS]
  have l1 : s.1 40 (8 * c + 1) = y := by rw [hs', wrN _ _ (by omega), wrN _ _ (by omega), wrN _ _ (by omega), wrN _ _ (by omega), wrN _ _ (by omega), wrN _ _ (by omega), wrN _ _ (by omega), wrN _ _ (by omega), wrS]
  have l0 : s.1 40 (8 * c) = x := by rw [hs', wrN _ _ (by omega), wrN _ _ (by omega), wrN _ _ (by omega), wrN _ _ (by omega), wrN _ _ (by omega), wrN _ _ (by omega), wrN _ _ (by omega), wrN _ _ (by omega), wrN _ _ (by omega), wrS]
  obtain ⟨h1, h2, h3, h4, h5, h6, h7, h8⟩ := hw
  obtain ⟨g1, g2, g3, g4, g5⟩ := hg
  obtain ⟨y4, y5, y6⟩ := hz.1 c (Nat.le_refl _) (by omega)
  obtain ⟨z2, z3, z4, z5, z7⟩ := hz.2 c (Nat.le_refl _) c5
  have f4 : s.1 4 c = 0 := (F 4 c (by omega) (by omega) (by omega)).trans y4
  have f5 : s.1 5 c = 0 := (F 5 c (by omega) (by omega) (by omega)).trans y5
  have f6 : s.1 6 c = 0 := (F 6 c (by omega) (by omega) (by omega)).trans y6
  refine ⟨⟨by omega, v60, fun k hk => ?_, fun k q1 q2 => by rw [F 3 k (by omega) (by omega) (by omega)]; exact h4 k (by omega) q2, fun k hk => by rw [F 19 k (by omega) (by omega) (by omega)]; exact h5 k hk, fun a ha b hb => by rw [F 19 a (by omega) (by omega) (by omega), F 19 b (by omega) (by omega) (by omega)]; exact h6 a ha b hb, fun a ha b hb => by rw [F (10 + a) b (by omega) (by omega) (by omega), F (10 + b) a (by omega) (by omega) (by omega)]; exact h7 a ha b hb, fun k hk => ?_⟩, ⟨by omega, v40, by rw [F 40 41 (by omega) (by omega) (by omega), F 60 1 (by omega) (by omega) (by omega)]; exact g3, fun k hk => ?_, fun a b hab hb => by rw [F 41 _ (by omega) (by omega) (by omega), F 19 a (by omega) (by omega) (by omega)]; exact g5 a b hab hb⟩, fun k hk => ?_, hl.of (fun b => F 42 b (by omega) (by omega) (by omega)) (fun a b _ _ => F a b (by omega) (by omega) (by omega)), ⟨fun k hk => ?_, fun a b ha hb => by rw [F (10 + a) b (by omega) (by omega) (by omega)]; exact hp.2 a b ha hb⟩, ?_, fun k hk => ?_, ⟨fun k q1 q2 => ?_, fun k q1 q2 => ?_⟩⟩
  · by_cases e : k = c
    · rw [e, v3]; exact Or.inr rfl
    · rw [F 3 k (by omega) (by omega) (by omega)]; exact h3 k hk
  · by_cases e : k = c
    · rw [e, v8]; exact ⟨0, by decide, by decide⟩
    · rw [F 8 k (by omega) (by omega) (by omega)]; exact h8 k hk
  · by_cases e : k = c
    · rw [e, v1, v2, v3, l0, l1, F 40 (8 * c + 2) (by omega) (by omega) (by omega), z2]
      exact ⟨rfl, rfl, by decide⟩
    · rw [F 40 (8 * k) (by omega) (by omega) (by omega), F 40 (8 * k + 1) (by omega) (by omega) (by omega), F 40 (8 * k + 2) (by omega) (by omega) (by omega), F 1 k (by omega) (by omega) (by omega), F 2 k (by omega) (by omega) (by omega), F 3 k (by omega) (by omega) (by omega)]
      exact g4 k (by omega)
  · by_cases e : k = c
    · rw [e, f4, f5, f6, v7, v8, l6, F 40 (8 * c + 3) (by omega) (by omega) (by omega), F 40 (8 * c + 4) (by omega) (by omega) (by omega), F 40 (8 * c + 5) (by omega) (by omega) (by omega), F 40 (8 * c + 7) (by omega) (by omega) (by omega), z3, z4, z5, z7]
      exact ⟨rfl, rfl, rfl, rfl, by decide⟩
    · rw [F 40 (8 * k + 3) (by omega) (by omega) (by omega), F 40 (8 * k + 4) (by omega) (by omega) (by omega), F 40 (8 * k + 5) (by omega) (by omega) (by omega), F 40 (8 * k + 6) (by omega) (by omega) (by omega), F 40 (8 * k + 7) (by omega) (by omega) (by omega), F 4 k (by omega) (by omega) (by omega), F 5 k (by omega) (by omega) (by omega), F 6 k (by omega) (by omega) (by omega), F 7 k (by omega) (by omega) (by omega), F 8 k (by omega) (by omega) (by omega)]
      exact hr k (by omega)
  · by_cases e : k = c
    · rw [e, v1, v2]; exact ⟨hx, hy⟩
    · rw [F 1 k (by omega) (by omega) (by omega), F 2 k (by omega) (by omega) (by omega)]; exact hp.1 k (by omega)
  · obtain ⟨wt, w1, w2⟩ := hnw
    refine ⟨fun i => if i = c then 1024 else wt i, fun i hi => ?_, ?_⟩
    · show s.1 7 i = iI (if i = c then 1024 else wt i) ∧ 0 ≤ (if i = c then 1024 else wt i)
      by_cases e : i = c
      · rw [if_pos e, e, v7]; exact ⟨by decide, by decide⟩
      · rw [if_neg e, F 7 i (by omega) (by omega) (by omega)]; exact w1 i (by omega)
    · rw [iS, iS_cong (w' := wt) c (fun i hi => if_neg (by omega)), w2, if_pos rfl]
      omega
  · by_cases e : k = c
    · rw [e, f5]; unfold small; decide
    · rw [F 5 k (by omega) (by omega) (by omega)]; exact hse k (by omega)
  · rw [F 4 k (by omega) (by omega) (by omega), F 5 k (by omega) (by omega) (by omega), F 6 k (by omega) (by omega) (by omega)]; exact hz.1 k (by omega) q2
  · rw [F 40 (8 * k + 2) (by omega) (by omega) (by omega), F 40 (8 * k + 3) (by omega) (by omega) (by omega), F 40 (8 * k + 4) (by omega) (by omega) (by omega), F 40 (8 * k + 5) (by omega) (by omega) (by omega), F 40 (8 * k + 7) (by omega) (by omega) (by omega)]; exact hz.2 k (by omega) q2
theorem k_addC {τ : fm_S} {c : Nat} (h60 : τ.1 60 0 = nI c) (c5 : c < 8) {x y : Int32} (hx : small x) (hy : small y) : mX4_addMember x y τ = some (nI c, fm_wr (fm_wr (fm_wr (fm_wr (fm_wr (fm_wr τ 1 c x) 2 c y) 3 c 1) 7 c 1024) 8 c (-1)) 60 0 (nI c + 1)) := by
  have n1 : vp_nar .boolean (1 : Int32) = 1 := nar01 true
  rw [mX4_addMember, k_place τ hx hy, b1s, h60, if_pos (show nI c < (8 : Int32) from nI_lt (b := 8) c5 (by decide))]
  simp only [chk8 (show c < 8 by omega) (by decide), if_false, sIn _ _ _ (show c < 2 ^ 31 by omega), n1]
  rw [wrN _ _ (by omega), wrN _ _ (by omega), wrN _ _ (by omega), wrN _ _ (by omega), wrN _ _ (by omega), h60]
/-- one member more, in the law -/
def adB (x105 : Int32) (σ : fm_S) : Option (Int32 × fm_S) :=
  mb1 (some ((8 : Int32) * (rI σ 40 (40 : Int32)))) fun u9_24 =>
  if (u9_24 < 0 ∨ 48 ≤ u9_24.toNatClampNeg) then none else
  mb1 (some (sI σ 40 u9_24 ((x105 - x105 / (120 : Int32) * (120 : Int32)) - (60 : Int32)))) fun ρ26 =>
  if ((u9_24 + (1 : Int32)) < 0 ∨ 48 ≤ (u9_24 + (1 : Int32)).toNatClampNeg) then none else
  mb1 (some (sI ρ26 40 (u9_24 + (1 : Int32)) (((x105 / (120 : Int32)) - (x105 / (120 : Int32)) / (80 : Int32) * (80 : Int32)) - (40 : Int32)))) fun ρ28 =>
  if ((u9_24 + (6 : Int32)) < 0 ∨ 48 ≤ (u9_24 + (6 : Int32)).toNatClampNeg) then none else
  mb1 (some (sI ρ28 40 (u9_24 + (6 : Int32)) (1024 : Int32))) fun ρ30 =>
  mb2 (mX4_addMember (rI ρ30 40 u9_24) (rI ρ30 40 (u9_24 + (1 : Int32))) ρ30) fun r190 σ190 =>
  mb1 (if r190 = (rI σ190 40 (40 : Int32)) then some ((1 : Int32)) else some ((0 : Int32))) fun v31_0 =>
  mb1 (some (sI σ190 40 (40 : Int32) ((rI σ190 40 (40 : Int32)) + (1 : Int32)))) fun ρ32 =>
  some (v31_0, ρ32)
theorem k_adB {σ : fm_S} {c z : Nat} (h : GS σ c) (c5 : c < 5) (hz : z < 1000000) : ∃ σ', adB (nI z) σ = some (1, σ') ∧ GS σ' (c + 1) := by
  have q1 : nI z - nI z / (120 : Int32) * (120 : Int32) = nI (z % 120) := pk_rem (d := 120) (by omega) (by decide) (by decide)
  have q2 : nI z / (120 : Int32) = nI (z / 120) := pk_div (d := 120) (by omega) (by decide) (by decide)
  have q3 : nI (z / 120) - nI (z / 120) / (80 : Int32) * (80 : Int32) = nI (z / 120 % 80) := pk_rem (d := 80) (by omega) (by decide) (by decide)
  have sx := sm60 (z % 120) (Nat.mod_lt _ (by decide))
  have sy := sm40 (z / 120 % 80) (Nat.mod_lt _ (by decide))
  have m40 : σ.1 40 40 = nI c := h.2.1.2.1
  refine ⟨_, ?_, GS_add h c5 sx sy⟩
  unfold adB
  rw [r40, m40, b1s, ix8', q1, q2, q3]
  simp only [o8_1, o8_6, chk8 (show 8 * c < 48 by omega) (by decide), chk8 (show 8 * c + 1 < 48 by omega) (by decide), chk8 (show 8 * c + 6 < 48 by omega) (by decide), if_false, sIn _ _ _ (show 8 * c < 2 ^ 31 by omega), sIn _ _ _ (show 8 * c + 1 < 2 ^ 31 by omega), sIn _ _ _ (show 8 * c + 6 < 2 ^ 31 by omega), rIn _ _ (show 8 * c < 2 ^ 31 by omega), rIn _ _ (show 8 * c + 1 < 2 ^ 31 by omega)]
  rw [b1s, b1s, b1s]
  rw [wrN _ _ (show (40 : Nat) ≠ 40 ∨ 8 * c ≠ 8 * c + 6 by omega), wrN _ _ (show (40 : Nat) ≠ 40 ∨ 8 * c ≠ 8 * c + 1 by omega), wrS, wrN _ _ (show (40 : Nat) ≠ 40 ∨ 8 * c + 1 ≠ 8 * c + 6 by omega), wrS]
  rw [k_addC (c := c) (by rw [wrN _ _ (by omega), wrN _ _ (by omega), wrN _ _ (by omega)]; exact h.1.2.1) (by omega) sx sy, b2s]
  have e40 : (fm_wr (fm_wr (fm_wr (fm_wr (fm_wr (fm_wr (fm_wr (fm_wr (fm_wr σ 40 (8 * c) (nI (z % 120) - 60)) 40 (8 * c + 1) (nI (z / 120 % 80) - 40)) 40 (8 * c + 6) 1024) 1 c (nI (z % 120) - 60)) 2 c (nI (z / 120 % 80) - 40)) 3 c 1) 7 c 1024) 8 c (-1)) 60 0 (nI c + 1)).1 40 40 = nI c := by
    rw [wrN _ _ (by omega), wrN _ _ (by omega), wrN _ _ (by omega), wrN _ _ (by omega), wrN _ _ (by omega), wrN _ _ (by omega), wrN _ _ (by omega), wrN _ _ (by omega), wrN _ _ (by omega)]; exact m40
  rw [r40, e40, if_pos rfl, b1s, s40, b1s]
  rfl
end PWF
