section PWH
theorem c0v (a b : Nat) : (cσ 8 0).1 a b = if (a = 60 ∨ a = 61) ∧ b = 1 then 100 else if 10 ≤ a ∧ a < 18 ∧ b < 8 then -1 else 0 := by
  have : ¬ (a = 50 ∧ b < 0) := by omega
  simp only [cσ, if_neg this]
theorem c0z {a b : Nat} (h : a < 10 ∨ (18 ≤ a ∧ a < 60)) : (cσ 8 0).1 a b = 0 := by
  rw [c0v, if_neg (by omega), if_neg (by omega)]
theorem c0w {a b : Nat} (h : 10 ≤ a) (h2 : a < 18) (hb : b < 8) : (cσ 8 0).1 a b = -1 := by
  rw [c0v, if_neg (by omega), if_pos ⟨h, h2, hb⟩]
theorem mkz (j : Nat) : mk 0 j = false := by
  have := mkn (m := 0) (by decide) j
  rw [Nat.zero_testBit] at this; exact this
theorem GS_0 : GS (fm_wr (cσ 8 0) 40 41 100) 0 := by
  obtain ⟨s, hs⟩ : ∃ s, s = fm_wr (cσ 8 0) 40 41 100 := ⟨_, rfl⟩
  rw [← hs]
  have F : ∀ a b, ¬ (a = 40 ∧ b = 41) → s.1 a b = (cσ 8 0).1 a b := fun a b q => by rw [hs, wrN _ _ (by omega)]
  have Z : ∀ a b, (a < 10 ∨ (18 ≤ a ∧ a < 60)) → ¬ (a = 40 ∧ b = 41) → s.1 a b = 0 := fun a b q1 q2 => (F a b q2).trans (c0z q1)
  have W : ∀ a b, a < 8 → b < 8 → s.1 (10 + a) b = -1 := fun a b q1 q2 => (F _ b (by omega)).trans (c0w (by omega) (by omega) q2)
  refine ⟨⟨by decide, ?_, fun i _ => Or.inl (Z 3 i (by omega) (by omega)), fun i _ _ => Z 3 i (by omega) (by omega), fun i _ => ⟨0, by decide, Z 19 i (by omega) (by omega)⟩, fun i _ j _ => by rw [Z 19 i (by omega) (by omega), Z 19 j (by omega) (by omega), mkz, mkz], fun i hi j hj => by rw [W i j hi hj, W j i hj hi], fun i _ => ⟨1, by decide, by rw [Z 8 i (by omega) (by omega)]; decide⟩⟩, ⟨by decide, (Z 40 40 (by omega) (by omega)), ?_, fun i hi => absurd hi (by omega), fun i j _ _ => by rw [Z 41 _ (by omega) (by omega), Z 19 i (by omega) (by omega), mkz]; rfl⟩, fun i hi => absurd hi (by omega), fun i j hij hj => by rw [Z 42 _ (by omega) (by omega), W i j (by omega) (by omega), if_pos rfl], ⟨fun i hi => absurd hi (by omega), fun i j hi hj => Or.inl (W i j hi hj)⟩, ⟨fun _ => 0, fun i hi => absurd hi (by omega), rfl⟩, fun i hi => absurd hi (by omega), ⟨fun i _ _ => ⟨Z 4 i (by omega) (by omega), Z 5 i (by omega) (by omega), Z 6 i (by omega) (by omega)⟩, fun i _ _ => ⟨Z 40 _ (by omega) (by omega), Z 40 _ (by omega) (by omega), Z 40 _ (by omega) (by omega), Z 40 _ (by omega) (by omega), Z 40 _ (by omega) (by omega)⟩⟩⟩
  · rw [F 60 0 (by omega), c0v, if_neg (by omega), if_neg (by omega)]; rfl
  · rw [F 60 1 (by omega), c0v, if_pos (by omega), hs, wrS]
theorem whole_law0 (xs : Nat → Int32) (L : Nat) (hL : L ≤ 260) : ∃ σ' : fm_S, mL_holds xs L (cσ 8 0) = some (1, σ') := by
  have g0 := GS_0
  -- agreement among none
  obtain ⟨s1, a1, b1, c1⟩ := k_agreeC (r := 2) g0.1 (by decide) (fun i hi => absurd hi (by omega)) (by decide) (by decide)
  have g1 : GS s1 0 := g0.of (fun a b hab => by
    by_cases e : a = 5
    · rw [e, c1 b, if_neg (by omega)]
    · exact b1 a b (by omega) e)
  have z1 : sp (EV (fm_wr (cσ 8 0) 40 41 100) 0 2) 0 = 0 := by unfold sp; rw [if_pos rfl]
  rw [z1] at a1
  have a1 : mX4_agree (2 : Int32) (fm_wr (cσ 8 0) 40 41 100) = some (0, s1) := a1
  -- spreading among none
  obtain ⟨td, d1, d2, d3⟩ := k_draw g1.1
  have sd : scr s1 td := scr.row d2 (by decide)
  have wd := sd.wf g1.1
  have nd : NV td (lk td) := NV_lk sd d3
  obtain ⟨s2, a2, b2, c2⟩ := k_spreadC (r := 1) g1.1 (fun a b hab => sd a b (by omega)) wd nd (by decide) (by decide)
  have z2 : AC td 0 1 = 0 := by rw [AC, AC, SC]; rfl
  rw [z2] at a2
  have a2 : mX4_spread (1 : Int32) s1 = some (0, s2) := a2
  have g2 : GS s2 0 := g1.of (fun a b hab => by
    by_cases e : a = 6 ∨ a = 7 ∨ a = 8
    · obtain ⟨⟨w0, n0⟩, e0, -⟩ := Th_wf wd nd 0
      obtain ⟨t, y1, y2, y3, y4, y5⟩ := cl_hand w0 n0
      have et : Tc hS td 1 = t := (Prod.mk.inj (Option.some.inj (e0.symm.trans y1))).2
      rw [c2 a b (by omega), et]
      rcases e with rfl | rfl | rfl
      · rw [y3 b, if_neg (by omega)]; exact sd 6 b (by omega)
      · rw [y4 b, if_neg (by omega)]; exact sd 7 b (by omega)
      · rw [y5 b, SL, if_neg (by omega)]; exact sd 8 b (by omega)
    · exact b2 a b (by omega) (by omega) (by omega) (by omega))
  -- no trees
  obtain ⟨v, s3, a3, b3, c3, -⟩ := k_treesC g2.1
  have up0 : ∀ z, z < 8 → up s2 z = false := fun z hz => by
    have := g2.1.2.2.2.1 z (by omega) hz
    unfold up; rw [this]; decide
  have z3 := c3 up0
  subst z3
  have g3 := g2.scr b3
  -- not rigid
  obtain ⟨r, r1, -, r3⟩ := k_RK (LK_FU s3 0)
  obtain ⟨bb, s4, a4, b4, c4⟩ := k_rigidC g3.1 (by decide) r3 r1
  have z4 : bb = false := by
    cases hb : bb
    · rfl
    · have h2 := (c4.mp hb).1
      have : cnt (up s3) 8 = cnt (fun _ => false) 8 := cnt_congr 8 (fun z hz => by rw [scr_up b3]; exact up0 z hz)
      rw [this] at h2
      exact absurd h2 (by decide)
  subst z4
  have a4 : mX4_isRigid s3 = some (0, s4) := a4
  have g4 := g3.scr b4
  obtain ⟨s5, a5⟩ := k_loop xs hL g4
  refine ⟨s5, ?_⟩
  have n1 : vp_nar .boolean (1 : Int32) = 1 := nar01 true
  rw [mL_holds]
  simp only [c41, if_false, s41]
  rw [b1s, a1, b2s, if_pos rfl, a2, b2s, if_pos rfl, a3, b2s, if_pos (show lg_cmp (0 : Int64) (0 : Int64) = 0 by decide), a4, b2s, if_pos rfl, b2s, a5, b2s, n1, if_neg (by simp)]
end PWH
