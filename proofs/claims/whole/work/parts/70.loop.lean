section LVZ
def OT (τ : fm_S) : Prop := ∃ r σ1 σ2, mX4_trees τ = some (r, σ1) ∧ mX5_trees σ1 = some (r, σ2) ∧ RR σ2
theorem rr0 : RR (cσ 8 64) := by
  refine ⟨0, ⟨by omega, rfl, fun i hi => Or.inl ?_, fun i _ hi => ?_, fun i hi => ⟨0, by omega, ?_⟩, fun i hi j hj => ?_, fun i hi j hj => ?_, fun i hi => ⟨1, by omega, ?_⟩⟩, ?_⟩
  · rw [cz 8 64 3 (by omega) (by omega) (by omega)]
  · rw [cz 8 64 3 (by omega) (by omega) (by omega)]
  · rw [cz 8 64 19 (by omega) (by omega) (by omega)]; rfl
  · rw [cz 8 64 19 (by omega) (by omega) (by omega)]; show mk (nI 0) j = mk (nI 0) i; rw [mkn (by omega), mkn (by omega), Nat.zero_testBit, Nat.zero_testBit]
  · have h : ∀ i, i < 8 → ∀ j, j < 8 → (cσ 8 64).1 (10 + i) j = -1 := by decide +kernel
    rw [h i hi j hj, h j hj i hi]
  · rw [cz 8 64 8 (by omega) (by omega) (by omega)]; show (0 : Int32) = nI 1 - 1; decide
  · refine ⟨rfl, rfl, fun i hi => ?_, fun i hi => ?_, fun i hi j hj => ?_, fun i hi j hj => ?_⟩
    · rw [cz 8 64 1 (by omega) (by omega) (by omega), cz 8 64 2 (by omega) (by omega) (by omega), cz 8 64 4 (by omega) (by omega) (by omega), cz 8 64 5 (by omega) (by omega) (by omega), cz 8 64 6 (by omega) (by omega) (by omega), cz 8 64 7 (by omega) (by omega) (by omega), cz 8 64 8 (by omega) (by omega) (by omega), cz 8 64 41 (by omega) (by omega) (by omega), cz 8 64 42 (by omega) (by omega) (by omega), cz 8 64 44 (by omega) (by omega) (by omega), cz 8 64 45 (by omega) (by omega) (by omega), cz 8 64 46 (by omega) (by omega) (by omega), cz 8 64 47 (by omega) (by omega) (by omega), cz 8 64 48 (by omega) (by omega) (by omega)]
      exact ⟨rfl, rfl, rfl, rfl, rfl, rfl, rfl⟩
    · rw [cz 8 64 43 (by omega) (by omega) (by omega), if_neg (by omega)]
    · rw [cz 8 64 49 (by omega) (by omega) (by omega), cz 8 64 19 (by omega) (by omega) (by omega)]
      have : mk 0 j = false := by
        show mk (nI 0) j = false
        rw [mkn (by omega), Nat.zero_testBit]
      rw [this]; rfl
    · have h : ∀ i, i < 8 → ∀ j, j < 8 → (cσ 8 64).1 50 (8 * i + j) = -1 ∧ (cσ 8 64).1 (10 + i) j = -1 := by decide +kernel
      rw [(h i hi j hj).1, (h i hi j hj).2]
set_option maxHeartbeats 4000000 in
set_option maxRecDepth 100000 in
theorem law_loop (htr : ∀ τ, RR τ → OT τ) (hrk : ∀ τ, RR τ → ON (mX4_rank τ) mX5_rank) (hrc : ∀ τ, RR τ → ON (mX4_rankByCounting τ) mX5_rankByCounting) (hri : ∀ τ, RR τ → ON (mX4_isRigid τ) mX5_isRigid) (hsp : ∀ τ, RR τ → ∀ x1 x2, OZ (mL_isSpare x1 x2 τ) (mX5_isSpare x1 x2)) (xs : Nat → Int32) (L : Nat) (hL : L ≤ 2048) :
    ∀ (n t : Nat) (σ : fm_S), t ≤ 512 → 513 < n + t → RR σ → mL_law_L xs L n (nI (4 * t)) σ = some (.ok ()) := by
  intro n
  induction n with
  | zero =>
    intro t σ ht hn hR
    omega
  | succ n ih =>
    intro t σ ht hn hR
    rw [mL_law_L]
    by_cases hd : Int32.ofNat L - 4 < nI (4 * t)
    · rw [if_pos hd]
    · rw [if_neg hd]
      have hL4 : 4 * t + 4 ≤ L := by
        apply Classical.byContradiction
        intro q
        apply hd
        by_cases l4 : 4 ≤ L
        · rw [show Int32.ofNat L - 4 = nI (L - 4) from pk_sub (a := L) (b := 4) l4]
          exact nI_lt (by omega) (by omega)
        · have h4 : ∀ l, l < 4 → Int32.ofNat l - 4 < 0 := by decide +kernel
          exact Int32.lt_of_lt_of_le (h4 L (by omega)) (nI_pos' (by omega))
      have ht2 : t + 1 ≤ 512 := by omega
      have k0 : (nI (4 * t) < 0 ∨ L ≤ (nI (4 * t)).toNatClampNeg) = False := chk8 (by omega) (by omega)
      have k1 : (nI (4 * t) + 1 < 0 ∨ L ≤ (nI (4 * t) + 1).toNatClampNeg) = False := by rw [nI_1]; exact chk8 (by omega) (by omega)
      have k2 : (nI (4 * t) + 2 < 0 ∨ L ≤ (nI (4 * t) + 2).toNatClampNeg) = False := by rw [show nI (4 * t) + 2 = nI (4 * t + 2) from nI_add _ 2]; exact chk8 (by omega) (by omega)
      have k3 : (nI (4 * t) + 3 < 0 ∨ L ≤ (nI (4 * t) + 3).toNatClampNeg) = False := by rw [show nI (4 * t) + 3 = nI (4 * t + 3) from nI_add _ 3]; exact chk8 (by omega) (by omega)
      have e4 : nI (4 * t) + 4 = nI (4 * (t + 1)) := nI_add _ 4
      have go : ∀ σ', RR σ' → mL_law_L xs L n (nI (4 * t) + 4) σ' = some (.ok ()) := fun σ' h => by rw [e4]; exact ih (t + 1) σ' (by omega) (by omega) h
      rw [if_neg (fun h => by rw [k0] at h; exact h)]
      by_cases c0 : xs (nI (4 * t)).toNatClampNeg &&& 31 = 0
      · rw [if_pos c0]
        rw [if_neg (fun h => by rw [k1] at h; exact h)]
        rw [if_neg (fun h => by rw [k2] at h; exact h)]
        obtain ⟨r, σ1, a, σ2, h1, h2, h3, h4, h5⟩ := (c_addMember hR (xs (nI (4 * t) + 1).toNatClampNeg) (xs (nI (4 * t) + 2).toNatClampNeg))
        rw [h1, b2s, h2, b2s, h3, b1s, if_pos rfl]
        by_cases hr : r = 0
        · rw [if_pos hr, if_neg (fun h => by rw [chk1] at h; exact h)]
          rw [if_pos ((lg_cmp_eq _ _).mpr (h4 hr))]
          exact go σ2 h5
        · rw [if_neg hr]; exact go σ2 h5
      rw [if_neg c0]
      by_cases c1 : xs (nI (4 * t)).toNatClampNeg &&& 31 = 1
      · rw [if_pos c1]
        rw [if_neg (fun h => by rw [k1] at h; exact h)]
        rw [if_neg (fun h => by rw [k2] at h; exact h)]
        rw [if_neg (fun h => by rw [k3] at h; exact h)]
        obtain ⟨r, σ1, σ2, h1, h2, h3, h5⟩ := (c_move hR (xs (nI (4 * t) + 1).toNatClampNeg) (xs (nI (4 * t) + 2).toNatClampNeg) (xs (nI (4 * t) + 3).toNatClampNeg))
        rw [h1, b2s, h2, b1s, h3, b1s, if_pos rfl]; exact go σ2 h5
      rw [if_neg c1]
      by_cases c2 : xs (nI (4 * t)).toNatClampNeg &&& 31 = 2
      · rw [if_pos c2]
        rw [if_neg (fun h => by rw [k1] at h; exact h)]
        obtain ⟨r, σ1, a, σ2, h1, h2, h3, h4, h5⟩ := (c_toggle hR (xs (nI (4 * t) + 1).toNatClampNeg))
        rw [h1, b2s, h2, b2s, h3, b1s, if_pos rfl]
        by_cases hr : r = 0
        · rw [if_pos hr, if_neg (fun h => by rw [chk1] at h; exact h)]
          have hz := h4 hr
          by_cases ha : a = 0
          · rw [if_pos ha] at hz ⊢; rw [b1s, if_pos ((lg_cmp_eq _ _).mpr hz)]; exact go σ2 h5
          · rw [if_neg ha] at hz ⊢; rw [b1s, if_pos ((lg_cmp_eq _ _).mpr hz)]; exact go σ2 h5
        · rw [if_neg hr]; exact go σ2 h5
      rw [if_neg c2]
      by_cases c3 : xs (nI (4 * t)).toNatClampNeg &&& 31 = 3
      · rw [if_pos c3]
        rw [if_neg (fun h => by rw [k1] at h; exact h)]
        rw [if_neg (fun h => by rw [k2] at h; exact h)]
        obtain ⟨r, σ1, a, σ2, h1, h2, h3, h4, h5⟩ := (c_setPriority hR (xs (nI (4 * t) + 1).toNatClampNeg) (xs (nI (4 * t) + 2).toNatClampNeg))
        rw [h1, b2s, h2, b2s, h3, b1s, if_pos rfl]
        by_cases hr : r = 0
        · rw [if_pos hr, if_neg (fun h => by rw [chk1] at h; exact h)]
          rw [if_pos ((lg_cmp_eq _ _).mpr (h4 hr))]
          exact go σ2 h5
        · rw [if_neg hr]; exact go σ2 h5
      rw [if_neg c3]
      by_cases c4 : xs (nI (4 * t)).toNatClampNeg &&& 31 = 4
      · rw [if_pos c4]
        rw [if_neg (fun h => by rw [k1] at h; exact h)]
        obtain ⟨r, σ1, a, σ2, h1, h2, h3, h4, h5⟩ := (c_setRange hR (xs (nI (4 * t) + 1).toNatClampNeg))
        rw [h1, b2s, h2, b2s, h3, b1s, if_pos rfl]
        by_cases hr : r = 0
        · rw [if_pos hr, if_neg (fun h => by rw [chk1] at h; exact h)]
          rw [if_pos ((lg_cmp_eq _ _).mpr (h4 hr))]
          exact go σ2 h5
        · rw [if_neg hr]; exact go σ2 h5
      rw [if_neg c4]
      by_cases c5 : xs (nI (4 * t)).toNatClampNeg &&& 31 = 5
      · rw [if_pos c5]
        rw [if_neg (fun h => by rw [k1] at h; exact h)]
        rw [if_neg (fun h => by rw [k2] at h; exact h)]
        obtain ⟨r, σ1, a, σ2, h1, h2, h3, h4, h5⟩ := (c_block hR (xs (nI (4 * t) + 1).toNatClampNeg) (xs (nI (4 * t) + 2).toNatClampNeg))
        rw [h1, b2s, h2, b2s, h3, b1s, if_pos rfl]
        by_cases hr : r = 0
        · rw [if_pos hr, if_neg (fun h => by rw [chk1] at h; exact h)]
          have hz := h4 hr
          by_cases ha : a = 0
          · rw [if_pos ha] at hz ⊢; rw [b1s, if_pos ((lg_cmp_eq _ _).mpr hz)]; exact go σ2 h5
          · rw [if_neg ha] at hz ⊢; rw [b1s, if_pos ((lg_cmp_eq _ _).mpr hz)]; exact go σ2 h5
        · rw [if_neg hr]; exact go σ2 h5
      rw [if_neg c5]
      by_cases c6 : xs (nI (4 * t)).toNatClampNeg &&& 31 = 6
      · rw [if_pos c6]
        obtain ⟨r, σ2, h1, h2, h5⟩ := c_members hR
        rw [h1, b1s, h2, b2s, if_pos rfl]; exact go σ2 h5
      rw [if_neg c6]
      by_cases c7 : xs (nI (4 * t)).toNatClampNeg &&& 31 = 7
      · rw [if_pos c7]
        rw [if_neg (fun h => by rw [k1] at h; exact h)]
        obtain ⟨r, σ1, a, σ2, h1, h2, h3, h4, h5⟩ := (c_xOf hR (xs (nI (4 * t) + 1).toNatClampNeg))
        rw [h1, b2s, h2, b2s, h3, b1s, if_pos rfl]
        by_cases hr : r = 0
        · rw [if_pos hr, if_neg (fun h => by rw [chk1] at h; exact h)]
          rw [if_pos ((lg_cmp_eq _ _).mpr (h4 hr))]
          exact go σ2 h5
        · rw [if_neg hr]; exact go σ2 h5
      rw [if_neg c7]
      by_cases c8 : xs (nI (4 * t)).toNatClampNeg &&& 31 = 8
      · rw [if_pos c8]
        rw [if_neg (fun h => by rw [k1] at h; exact h)]
        obtain ⟨r, σ1, a, σ2, h1, h2, h3, h4, h5⟩ := (c_yOf hR (xs (nI (4 * t) + 1).toNatClampNeg))
        rw [h1, b2s, h2, b2s, h3, b1s, if_pos rfl]
        by_cases hr : r = 0
        · rw [if_pos hr, if_neg (fun h => by rw [chk1] at h; exact h)]
          rw [if_pos ((lg_cmp_eq _ _).mpr (h4 hr))]
          exact go σ2 h5
        · rw [if_neg hr]; exact go σ2 h5
      rw [if_neg c8]
      by_cases c9 : xs (nI (4 * t)).toNatClampNeg &&& 31 = 9
      · rw [if_pos c9]
        rw [if_neg (fun h => by rw [k1] at h; exact h)]
        rw [if_neg (fun h => by rw [k2] at h; exact h)]
        obtain ⟨r, σ1, a, σ2, h1, h2, h3, h4, h5⟩ := (c_areLinked hR (xs (nI (4 * t) + 1).toNatClampNeg) (xs (nI (4 * t) + 2).toNatClampNeg))
        rw [h1, b2s, h2, b2s, h3, b1s, if_pos rfl]
        by_cases hr : r = 0
        · rw [if_pos hr, if_neg (fun h => by rw [chk1] at h; exact h)]
          have hz := h4 hr
          by_cases ha : a = 0
          · rw [if_pos ha] at hz ⊢; rw [b1s, if_pos ((lg_cmp_eq _ _).mpr hz)]; exact go σ2 h5
          · rw [if_neg ha] at hz ⊢; rw [b1s, if_pos ((lg_cmp_eq _ _).mpr hz)]; exact go σ2 h5
        · rw [if_neg hr]; exact go σ2 h5
      rw [if_neg c9]
      by_cases c10 : xs (nI (4 * t)).toNatClampNeg &&& 31 = 10
      · rw [if_pos c10]
        obtain ⟨r, σ1, σ2, h1, h2, h5⟩ := (c_links hR)
        rw [h1, b2s, h2, b2s, if_pos rfl]; exact go σ2 h5
      rw [if_neg c10]
      by_cases c11 : xs (nI (4 * t)).toNatClampNeg &&& 31 = 11
      · rw [if_pos c11]
        rw [if_neg (fun h => by rw [k1] at h; exact h)]
        obtain ⟨r, σ1, a, σ2, h1, h2, h3, h4, h5⟩ := (c_degree hR (xs (nI (4 * t) + 1).toNatClampNeg))
        rw [h1, b2s, h2, b2s, h3, b1s, if_pos rfl]
        by_cases hr : r = 0
        · rw [if_pos hr, if_neg (fun h => by rw [chk1] at h; exact h)]
          rw [if_pos ((lg_cmp_eq _ _).mpr (h4 hr))]
          exact go σ2 h5
        · rw [if_neg hr]; exact go σ2 h5
      rw [if_neg c11]
      by_cases c12 : xs (nI (4 * t)).toNatClampNeg &&& 31 = 12
      · rw [if_pos c12]
        obtain ⟨r, σ1, σ2, h1, h2, h5⟩ := (c_groups hR)
        rw [h1, b2s, h2, b2s, if_pos rfl]; exact go σ2 h5
      rw [if_neg c12]
      by_cases c13 : xs (nI (4 * t)).toNatClampNeg &&& 31 = 13
      · rw [if_pos c13]
        rw [if_neg (fun h => by rw [k1] at h; exact h)]
        obtain ⟨r, σ1, a, σ2, h1, h2, h3, h4, h5⟩ := (c_leader hR (xs (nI (4 * t) + 1).toNatClampNeg))
        rw [h1, b2s, h2, b2s, h3, b1s, if_pos rfl]
        by_cases hr : r = 0
        · rw [if_pos hr, if_neg (fun h => by rw [chk1] at h; exact h)]
          rw [if_pos ((lg_cmp_eq _ _).mpr (h4 hr))]
          exact go σ2 h5
        · rw [if_neg hr]; exact go σ2 h5
      rw [if_neg c13]
      by_cases c14 : xs (nI (4 * t)).toNatClampNeg &&& 31 = 14
      · rw [if_pos c14]
        obtain ⟨r, σ1, σ2, h1, h2, h5⟩ := (htr σ hR)
        rw [h1, b2s, h2, b2s, if_pos ((lg_cmp_eq _ _).mpr rfl)]; exact go σ2 h5
      rw [if_neg c14]
      by_cases c15 : xs (nI (4 * t)).toNatClampNeg &&& 31 = 15
      · rw [if_pos c15]
        rw [if_neg (fun h => by rw [k1] at h; exact h)]
        rw [if_neg (fun h => by rw [k2] at h; exact h)]
        obtain ⟨r, σ1, a, σ2, h1, h2, h3, h4, h5⟩ := (c_setEstimate hR (xs (nI (4 * t) + 1).toNatClampNeg) (xs (nI (4 * t) + 2).toNatClampNeg))
        rw [h1, b2s, h2, b2s, h3, b1s, if_pos rfl]
        by_cases hr : r = 0
        · rw [if_pos hr, if_neg (fun h => by rw [chk1] at h; exact h)]
          rw [if_pos ((lg_cmp_eq _ _).mpr (h4 hr))]
          exact go σ2 h5
        · rw [if_neg hr]; exact go σ2 h5
      rw [if_neg c15]
      by_cases c16 : xs (nI (4 * t)).toNatClampNeg &&& 31 = 16
      · rw [if_pos c16]
        rw [if_neg (fun h => by rw [k1] at h; exact h)]
        obtain ⟨r, σ1, a, σ2, h1, h2, h3, h4, h5⟩ := (c_estimate hR (xs (nI (4 * t) + 1).toNatClampNeg))
        rw [h1, b2s, h2, b2s, h3, b1s, if_pos rfl]
        by_cases hr : r = 0
        · rw [if_pos hr, if_neg (fun h => by rw [chk1] at h; exact h)]
          rw [if_pos ((lg_cmp_eq _ _).mpr (h4 hr))]
          exact go σ2 h5
        · rw [if_neg hr]; exact go σ2 h5
      rw [if_neg c16]
      by_cases c17 : xs (nI (4 * t)).toNatClampNeg &&& 31 = 17
      · rw [if_pos c17]
        rw [if_neg (fun h => by rw [k1] at h; exact h)]
        obtain ⟨r, σ1, a, σ2, h1, h2, h3, h4, h5⟩ := (c_agree hR (xs (nI (4 * t) + 1).toNatClampNeg))
        rw [h1, b2s, h2, b2s, h3, b1s, if_pos rfl]
        by_cases hr : r = 0
        · rw [if_pos hr, if_neg (fun h => by rw [chk1] at h; exact h)]
          rw [if_pos ((lg_cmp_eq _ _).mpr (h4 hr))]
          exact go σ2 h5
        · rw [if_neg hr]; exact go σ2 h5
      rw [if_neg c17]
      by_cases c18 : xs (nI (4 * t)).toNatClampNeg &&& 31 = 18
      · rw [if_pos c18]
        rw [if_neg (fun h => by rw [k1] at h; exact h)]
        rw [if_neg (fun h => by rw [k2] at h; exact h)]
        obtain ⟨r, σ1, a, σ2, h1, h2, h3, h4, h5⟩ := (c_setSum hR (xs (nI (4 * t) + 1).toNatClampNeg) (xs (nI (4 * t) + 2).toNatClampNeg))
        rw [h1, b2s, h2, b2s, h3, b1s, if_pos rfl]
        by_cases hr : r = 0
        · rw [if_pos hr, if_neg (fun h => by rw [chk1] at h; exact h)]
          rw [if_pos ((lg_cmp_eq _ _).mpr (h4 hr))]
          exact go σ2 h5
        · rw [if_neg hr]; exact go σ2 h5
      rw [if_neg c18]
      by_cases c19 : xs (nI (4 * t)).toNatClampNeg &&& 31 = 19
      · rw [if_pos c19]
        rw [if_neg (fun h => by rw [k1] at h; exact h)]
        obtain ⟨r, σ1, a, σ2, h1, h2, h3, h4, h5⟩ := (c_sum hR (xs (nI (4 * t) + 1).toNatClampNeg))
        rw [h1, b2s, h2, b2s, h3, b1s, if_pos rfl]
        by_cases hr : r = 0
        · rw [if_pos hr, if_neg (fun h => by rw [chk1] at h; exact h)]
          rw [if_pos ((lg_cmp_eq _ _).mpr (h4 hr))]
          exact go σ2 h5
        · rw [if_neg hr]; exact go σ2 h5
      rw [if_neg c19]
      by_cases c20 : xs (nI (4 * t)).toNatClampNeg &&& 31 = 20
      · rw [if_pos c20]
        rw [if_neg (fun h => by rw [k1] at h; exact h)]
        obtain ⟨r, σ1, a, σ2, h1, h2, h3, h4, h5⟩ := (c_weight hR (xs (nI (4 * t) + 1).toNatClampNeg))
        rw [h1, b2s, h2, b2s, h3, b1s, if_pos rfl]
        by_cases hr : r = 0
        · rw [if_pos hr, if_neg (fun h => by rw [chk1] at h; exact h)]
          rw [if_pos ((lg_cmp_eq _ _).mpr (h4 hr))]
          exact go σ2 h5
        · rw [if_neg hr]; exact go σ2 h5
      rw [if_neg c20]
      by_cases c21 : xs (nI (4 * t)).toNatClampNeg &&& 31 = 21
      · rw [if_pos c21]
        rw [if_neg (fun h => by rw [k1] at h; exact h)]
        obtain ⟨r, σ1, a, σ2, h1, h2, h3, h4, h5⟩ := (c_spread hR (xs (nI (4 * t) + 1).toNatClampNeg))
        rw [h1, b2s, h2, b2s, h3, b1s, if_pos rfl]
        by_cases hr : r = 0
        · rw [if_pos hr, if_neg (fun h => by rw [chk1] at h; exact h)]
          rw [if_pos ((lg_cmp_eq _ _).mpr (h4 hr))]
          exact go σ2 h5
        · rw [if_neg hr]; exact go σ2 h5
      rw [if_neg c21]
      by_cases c22 : xs (nI (4 * t)).toNatClampNeg &&& 31 = 22
      · rw [if_pos c22]
        rw [if_neg (fun h => by rw [k1] at h; exact h)]
        rw [if_neg (fun h => by rw [k2] at h; exact h)]
        rw [if_neg (fun h => by rw [k3] at h; exact h)]
        obtain ⟨r, σ1, a, σ2, h1, h2, h3, h4, h5⟩ := (c_want hR (xs (nI (4 * t) + 1).toNatClampNeg) (xs (nI (4 * t) + 2).toNatClampNeg) (xs (nI (4 * t) + 3).toNatClampNeg))
        rw [h1, b2s, h2, b2s, h3, b1s, if_pos rfl]
        by_cases hr : r = 0
        · rw [if_pos hr, if_neg (fun h => by rw [chk1] at h; exact h)]
          rw [if_pos ((lg_cmp_eq _ _).mpr (h4 hr))]
          exact go σ2 h5
        · rw [if_neg hr]; exact go σ2 h5
      rw [if_neg c22]
      by_cases c23 : xs (nI (4 * t)).toNatClampNeg &&& 31 = 23
      · rw [if_pos c23]
        obtain ⟨r, σ1, σ2, h1, h2, h5⟩ := (c_error hR)
        rw [h1, b2s, h2, b2s, if_pos rfl]; exact go σ2 h5
      rw [if_neg c23]
      by_cases c24 : xs (nI (4 * t)).toNatClampNeg &&& 31 = 24
      · rw [if_pos c24]
        rw [if_neg (fun h => by rw [k1] at h; exact h)]
        obtain ⟨r, σ1, a, σ2, h1, h2, h3, h4, h5⟩ := (c_settle hR (xs (nI (4 * t) + 1).toNatClampNeg))
        rw [h1, b2s, h2, b2s, h3, b1s, if_pos rfl]
        by_cases hr : r = 0
        · rw [if_pos hr, if_neg (fun h => by rw [chk1] at h; exact h)]
          rw [if_pos ((lg_cmp_eq _ _).mpr (h4 hr))]
          exact go σ2 h5
        · rw [if_neg hr]; exact go σ2 h5
      rw [if_neg c24]
      by_cases c25 : xs (nI (4 * t)).toNatClampNeg &&& 31 = 25
      · rw [if_pos c25]
        obtain ⟨r, σ1, σ2, h1, h2, h5⟩ := (hrk σ hR)
        rw [h1, b2s, h2, b2s, if_pos rfl]; exact go σ2 h5
      rw [if_neg c25]
      by_cases c26 : xs (nI (4 * t)).toNatClampNeg &&& 31 = 26
      · rw [if_pos c26]
        obtain ⟨r, σ1, σ2, h1, h2, h5⟩ := (hrc σ hR)
        rw [h1, b2s, h2, b2s, if_pos rfl]; exact go σ2 h5
      rw [if_neg c26]
      by_cases c27 : xs (nI (4 * t)).toNatClampNeg &&& 31 = 27
      · rw [if_pos c27]
        obtain ⟨r, σ1, σ2, h1, h2, h5⟩ := (hri σ hR)
        rw [h1, b2s, h2, b2s, if_pos rfl]; exact go σ2 h5
      rw [if_neg c27]
      by_cases c28 : xs (nI (4 * t)).toNatClampNeg &&& 31 = 28
      · rw [if_pos c28]
        rw [if_neg (fun h => by rw [k1] at h; exact h)]
        rw [if_neg (fun h => by rw [k2] at h; exact h)]
        obtain ⟨r, σ1, a, σ2, h1, h2, h3, h4, h5⟩ := (hsp σ hR (xs (nI (4 * t) + 1).toNatClampNeg) (xs (nI (4 * t) + 2).toNatClampNeg))
        rw [h1, b2s, h2, b2s, h3, b1s, if_pos rfl]
        by_cases hr : r = 0
        · rw [if_pos hr, if_neg (fun h => by rw [chk1] at h; exact h)]
          have hz := h4 hr
          by_cases ha : a = 0
          · rw [if_pos ha] at hz ⊢; rw [b1s, if_pos ((lg_cmp_eq _ _).mpr hz)]; exact go σ2 h5
          · rw [if_neg ha] at hz ⊢; rw [b1s, if_pos ((lg_cmp_eq _ _).mpr hz)]; exact go σ2 h5
        · rw [if_neg hr]; exact go σ2 h5
      rw [if_neg c28]
      exact go σ hR
end LVZ
