section LVD
theorem wrD (σ : fm_S) (q i a b : Nat) (v : Int32) : (fm_wr σ q i v).1 a b = if a = q ∧ b = i then v else σ.1 a b := rfl
set_option maxHeartbeats 2000000 in
theorem c_addMember {τ : fm_S} (h : RR τ) (x1 x2 : Int32) : OI (mL_addMember x1 x2 τ) (mX5_addMember x1 x2) := by
  obtain ⟨c, hw, hv⟩ := h
  have hc := hw.1
  rcases k_place x1 x2 τ with ⟨h2, e2⟩ | ⟨h2, e2⟩
  · by_cases h8 : c = 8
    · have n1 : ¬ (nI c < 8) := by rw [h8]; decide
      have n2 : (8 : Int32) ≤ nI c := by rw [h8]; decide
      refine ⟨2, τ, 0, fm_wr τ 61 2 2, ?_, ?_, (bad hw hv 2).1, fun q => absurd q (by decide), (bad hw hv 2).2⟩
      · rw [mL_addMember, h2e (σ := τ) (E := "java/lang/IllegalStateException")]
        · rfl
        · rw [mX4_addMember, e2, xo, hw.2.1, if_neg n1]
      · rw [mX5_addMember, k_isPlace, h2, b1s, hv.1, if_pos n2, b1s]
        rw [show (0 : Int32) = bI false from rfl, k_goes, b2s]; rfl
    · have hc8 : c < 8 := by omega
      have n1 : nI c < 8 := nI_lt (b := 8) hc8 (by decide)
      have n2 : ¬ (8 : Int32) ≤ nI c := nI_ge (b := 8) hc8 (by decide)
      have hc31 : c < 2 ^ 31 := by omega
      obtain ⟨τ1, d1⟩ : ∃ z, z = fm_wr (fm_wr (fm_wr (fm_wr (fm_wr (fm_wr τ 1 c x1) 2 c x2) 3 c 1) 7 c 1024) 8 c (-1)) 60 0 (nI (c + 1)) := ⟨_, rfl⟩
      obtain ⟨σ1, d2⟩ : ∃ z, z = sL τ1 55 (0 : Int32) (nI c).toInt64 := ⟨_, rfl⟩
      obtain ⟨σ2, d3⟩ : ∃ z, z = fm_wr (fm_wr (fm_wr (fm_wr (fm_wr (fm_wr σ1 61 2 0) 41 c x1) 42 c x2) 47 c 1024) 48 c (-1)) 61 0 (nI (c + 1)) := ⟨_, rfl⟩
      have r1 : ∀ a b, (a = 19 ∨ (9 ≤ a ∧ a < 20) ∨ 40 ≤ a ∧ a < 60 ∨ a = 61 ∨ (a = 60 ∧ b = 1) ∨ (a < 9 ∧ b ≠ c)) → τ1.1 a b = τ.1 a b := fun a b hab => by
        rw [d1, wrN _ _ (by omega), wrN _ _ (by omega), wrN _ _ (by omega), wrN _ _ (by omega), wrN _ _ (by omega), wrN _ _ (by omega)]
      have r2 : σ1.1 = τ1.1 := by rw [d2]; rfl
      have r3 : ∀ a b, (a < 41 ∨ a = 60 ∨ (a = 61 ∧ b = 1) ∨ a = 49 ∨ a = 50 ∨ a = 43 ∨ (a < 60 ∧ b ≠ c)) → σ2.1 a b = τ1.1 a b := fun a b hab => by
        rw [d3, wrN _ _ (by omega), wrN _ _ (by omega), wrN _ _ (by omega), wrN _ _ (by omega), wrN _ _ (by omega), wrN _ _ (by omega), r2]
      have m1 : σ1.1 61 0 = nI c := by rw [r2, r1 61 0 (by omega)]; exact hv.1
      refine ⟨0, σ1, nI c, σ2, ?_, ?_, ?_, ?_, ?_⟩
      · rw [mL_addMember, h2o (r := nI c) (σ := τ1)]
        · simp only [chk1, if_false]; rw [d2]
        · rw [mX4_addMember, e2, xo, hw.2.1, if_pos n1]
          simp only [chk8 hc8 (by decide), if_false, sIn _ _ _ hc31]
          rw [d1]
          simp [wrD, hw.2.1, nI_1, show vp_nar .boolean (1 : Int32) = 1 from by decide]
      · rw [mX5_addMember, k_isPlace, h2, b1s, m1, if_neg n2, b1s]
        rw [show (1 : Int32) = bI true from rfl, k_goes, b2s, if_neg (by decide)]
        have m2 : (fm_wr σ1 61 2 0).1 61 0 = nI c := by rw [wrN _ _ (by omega)]; exact m1
        simp only [if_true]
        simp only [m2, sIn _ _ _ hc31, wrN _ _ (Or.inl (show (61 : Nat) ≠ 41 by omega)), wrN _ _ (Or.inl (show (61 : Nat) ≠ 42 by omega)), wrN _ _ (Or.inl (show (61 : Nat) ≠ 47 by omega)), wrN _ _ (Or.inl (show (61 : Nat) ≠ 48 by omega)), chk8 hc8 (by decide), if_false, wrS]
        rw [d3]
        simp [nI_pred, bI, nI_1]
      · rw [k_thrown, d3, wrN _ _ (by omega), wrN _ _ (by omega), wrN _ _ (by omega), wrN _ _ (by omega), wrN _ _ (by omega), wrS]
      · intro _
        rw [d3, wL, wL, wL, wL, wL, wL, d2, st55]
      · have w1 : WF τ1 (c + 1) := by
          obtain ⟨a1, a2, a3, a4, a5, a6, a7, a8⟩ := hw
          refine ⟨by omega, by rw [d1, wrS], fun i hi => ?_, fun i hi hi' => ?_, fun i hi => ?_, fun i hi j hj => ?_, fun i hi j hj => ?_, fun i hi => ?_⟩
          · by_cases e : i = c
            · subst e; right; rw [d1]; simp [wrD]
            · rw [r1 3 i (by omega)]; exact a3 i hi
          · rw [r1 3 i (by omega)]; exact a4 i (by omega) hi'
          · rw [r1 19 i (by omega)]; exact a5 i hi
          · rw [r1 19 i (by omega), r1 19 j (by omega)]; exact a6 i hi j hj
          · rw [r1 (10 + i) j (by omega), r1 (10 + j) i (by omega)]; exact a7 i hi j hj
          · by_cases e : i = c
            · subst e; exact ⟨0, by omega, by rw [d1]; simp [wrD]; decide⟩
            · rw [r1 8 i (by omega)]; exact a8 i hi
        refine fin (τ := τ1) w1 ?_ (fun a b hab => r3 a b (by omega))
        obtain ⟨h1, h2', h3, h4, h5, h6⟩ := hv
        refine ⟨by rw [d3, wrS], by rw [r3 61 1 (by omega), r1 61 1 (by omega), r1 60 1 (by omega)]; exact h2', fun i hi => ?_, fun i hi => ?_, fun i hi k hk => ?_, fun i hi k hk => ?_⟩
        · obtain ⟨g1, g2, g3, g4, g5, g6, g7⟩ := h3 i hi
          by_cases e : i = c
          · subst e
            have f1 : ∀ a, a = 1 ∨ a = 2 ∨ a = 7 ∨ a = 8 ∨ a = 4 ∨ a = 5 ∨ a = 6 ∨ 40 < a → True := fun _ _ => trivial
            have t44 : τ1.1 44 i = τ.1 44 i := r1 44 i (by omega)
            have t45 : τ1.1 45 i = τ.1 45 i := r1 45 i (by omega)
            have t46 : τ1.1 46 i = τ.1 46 i := r1 46 i (by omega)
            refine ⟨?_, ?_, ?_, ?_, ?_, ?_, ?_⟩
            · rw [d3, d1]; simp [wrD]
            · rw [d3, d1]; simp [wrD]
            · rw [d3]; simp only [wrD, r2, t44, g3]; rw [d1]; simp [wrD]
            · rw [d3]; simp only [wrD, r2, t45, g4]; rw [d1]; simp [wrD]
            · rw [d3]; simp only [wrD, r2, t46, g5]; rw [d1]; simp [wrD]
            · rw [d3, d1]; simp [wrD]
            · rw [d3, d1]; simp [wrD]
          · rw [r3 41 i (by omega), r3 42 i (by omega), r3 44 i (by omega), r3 45 i (by omega), r3 46 i (by omega), r3 47 i (by omega), r3 48 i (by omega), r1 41 i (by omega), r1 42 i (by omega), r1 44 i (by omega), r1 45 i (by omega), r1 46 i (by omega), r1 47 i (by omega), r1 48 i (by omega), r1 1 i (by omega), r1 2 i (by omega), r1 4 i (by omega), r1 5 i (by omega), r1 6 i (by omega), r1 7 i (by omega), r1 8 i (by omega)]
            exact ⟨g1, g2, g3, g4, g5, g6, g7⟩
        · have g := h4 i hi
          rw [r3 43 i (by omega), r1 43 i (by omega), g]
          by_cases e : i = c
          · subst e
            have e3 : τ1.1 3 i = 1 := by rw [d1]; simp [wrD]
            rw [e3, if_neg (by omega), if_neg (fun q => absurd q.2 (by decide))]
          · rw [r1 3 i (by omega)]
            by_cases q : i < c ∧ τ.1 3 i = 0
            · rw [if_pos q, if_pos ⟨by omega, q.2⟩]
            · rw [if_neg q]
              by_cases q2 : i < c + 1 ∧ τ.1 3 i = 0
              · exact absurd ⟨by omega, q2.2⟩ q
              · rw [if_neg q2]
        · rw [r3 49 _ (by omega), r1 49 _ (by omega), r1 19 i (by omega)]; exact h5 i hi k hk
        · rw [r3 50 _ (by omega), r1 50 _ (by omega), r1 (10 + i) k (by omega)]; exact h6 i hi k hk
  · refine ⟨1, τ, 0, fm_wr τ 61 2 1, ?_, ?_, (bad hw hv 1).1, fun q => absurd q (by decide), (bad hw hv 1).2⟩
    · rw [mL_addMember, h2e (σ := τ) (E := "java/lang/IllegalArgumentException")]
      · rfl
      · rw [mX4_addMember, e2, xe]
    · rw [mX5_addMember, k_isPlace, h2, b1s]
      by_cases q : (8 : Int32) ≤ τ.1 61 0
      · rw [if_pos q, b1s, show mX5_goes (bI false) (0 : Int32) τ = _ from k_goes false false τ, b2s]; rfl
      · rw [if_neg q, b1s, show mX5_goes (bI false) (1 : Int32) τ = _ from k_goes false true τ, b2s]; rfl
end LVD
