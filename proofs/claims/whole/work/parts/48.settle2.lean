section LVI
theorem k_rounds (x : Int32) (τ : fm_S) : (win x 1 50 = true ∧ mX4_requireRounds x τ = some (.ok τ)) ∨ (win x 1 50 = false ∧ mX4_requireRounds x τ = some (.error ("java/lang/IllegalArgumentException", τ))) := by
  rw [mX4_requireRounds]
  rcases k_win x 1 50 τ with ⟨h1, e1⟩ | ⟨h1, e1⟩
  · rw [e1, xo]; exact Or.inl ⟨h1, rfl⟩
  · rw [e1, xe]; exact Or.inr ⟨h1, rfl⟩
theorem win_n {x : Int32} (h : win x 1 50 = true) : ∃ r, 1 ≤ r ∧ r ≤ 50 ∧ x = nI r := by
  unfold win at h
  simp only [Bool.and_eq_true, decide_eq_true_eq] at h
  have h0 : ¬ x < 0 := fun q => h.1 (Int32.lt_trans q (by decide))
  obtain ⟨r, hr, rfl⟩ := nI_of2 (M := 50) (n := 50) (by decide) h0 h.2
  refine ⟨r, ?_, hr, rfl⟩
  apply Classical.byContradiction
  intro q
  have : r = 0 := by omega
  subst this
  exact h.1 (by decide)
/-- the class's stores, round by round -/
def Tc (f : fm_S → Option fm_S) (τ : fm_S) : Nat → fm_S
  | 0 => τ
  | n + 1 => (f (Tc f τ n)).getD (Tc f τ n)
theorem mv_round {σ σ' τ τ' : fm_S} {c : Nat} (hv : MV σ τ c) (a1 : ∀ a b, ¬ (20 ≤ a ∧ a < 40) → a ≠ 1 → a ≠ 2 → τ'.1 a b = τ.1 a b) (a2 : ∀ i, (τ'.1 1 i = if i < c then nw τ c 1 i else τ.1 1 i) ∧ (τ'.1 2 i = if i < c then nw τ c 2 i else τ.1 2 i))
    (b1 : ∀ a b, ¬ (51 ≤ a ∧ a ≤ 54) → a ≠ 41 → a ≠ 42 → σ'.1 a b = σ.1 a b) (b2 : ∀ i, i < 8 → (σ'.1 41 i = if i < c then nw τ c 1 i else τ.1 1 i) ∧ (σ'.1 42 i = if i < c then nw τ c 2 i else τ.1 2 i)) : MV σ' τ' c := by
  obtain ⟨h1, h2, h3, h4, h5, h6⟩ := hv
  refine ⟨by rw [b1 _ _ (by omega) (by omega) (by omega)]; exact h1, by rw [b1 _ _ (by omega) (by omega) (by omega), a1 _ _ (by omega) (by omega) (by omega)]; exact h2, fun i hi => ?_, fun i hi => by rw [b1 _ _ (by omega) (by omega) (by omega), a1 _ _ (by omega) (by omega) (by omega)]; exact h4 i hi, fun i hi j hj => by rw [b1 _ _ (by omega) (by omega) (by omega), a1 _ _ (by omega) (by omega) (by omega)]; exact h5 i hi j hj, fun i hi j hj => by rw [b1 _ _ (by omega) (by omega) (by omega), a1 _ _ (by omega) (by omega) (by omega)]; exact h6 i hi j hj⟩
  obtain ⟨-, -, g3, g4, g5, g6, g7⟩ := h3 i hi
  refine ⟨(b2 i hi).1.trans (a2 i).1.symm, (b2 i hi).2.trans (a2 i).2.symm, ?_, ?_, ?_, ?_, ?_⟩
  · rw [b1 _ _ (by omega) (by omega) (by omega), a1 _ _ (by omega) (by omega) (by omega)]; exact g3
  · rw [b1 _ _ (by omega) (by omega) (by omega), a1 _ _ (by omega) (by omega) (by omega)]; exact g4
  · rw [b1 _ _ (by omega) (by omega) (by omega), a1 _ _ (by omega) (by omega) (by omega)]; exact g5
  · rw [b1 _ _ (by omega) (by omega) (by omega), a1 _ _ (by omega) (by omega) (by omega)]; exact g6
  · rw [b1 _ _ (by omega) (by omega) (by omega), a1 _ _ (by omega) (by omega) (by omega)]; exact g7
theorem Tc_wf {τ : fm_S} {c : Nat} (hw : WF τ c) : ∀ k, WF (Tc mX4_stepTogether τ k) c ∧ mX4_stepTogether (Tc mX4_stepTogether τ k) = some (Tc mX4_stepTogether τ (k + 1)) ∧ (∀ a b, ¬ (20 ≤ a ∧ a < 40) → a ≠ 1 → a ≠ 2 → (Tc mX4_stepTogether τ k).1 a b = τ.1 a b) := by
  intro k
  induction k with
  | zero =>
    obtain ⟨t, e, -⟩ := cl_round hw
    refine ⟨hw, ?_, fun _ _ _ _ _ => rfl⟩
    show mX4_stepTogether τ = some ((mX4_stepTogether τ).getD τ)
    rw [e]; rfl
  | succ k ih =>
    obtain ⟨w, e, f⟩ := ih
    obtain ⟨t, e1, e2, -⟩ := cl_round w
    have et : Tc mX4_stepTogether τ (k + 1) = t := by
      have := e.symm.trans e1
      exact Option.some.inj this
    have w2 : WF (Tc mX4_stepTogether τ (k + 1)) c := by
      rw [et]; exact w.of (fun a b hab => e2 a b (by omega) (by omega) (by omega))
    refine ⟨w2, ?_, fun a b h0 h1 h2 => by rw [et, e2 a b h0 h1 h2]; exact f a b h0 h1 h2⟩
    obtain ⟨u, g, -⟩ := cl_round w2
    show mX4_stepTogether (Tc mX4_stepTogether τ (k + 1)) = some ((mX4_stepTogether (Tc mX4_stepTogether τ (k + 1))).getD _)
    rw [g]; rfl
theorem settle0 (n : Nat) (x1 : Int32) (σ : fm_S) : mX5_settle_L15 (n + 1) x1 0 0 σ = some σ := by
  simp only [mX5_settle_L15]
  by_cases q : x1 ≤ 0
  · rw [if_pos q]
  · rw [if_neg q]; rfl
theorem c_settle {τ : fm_S} (h : RR τ) (x1 : Int32) : OI (mL_settle x1 τ) (mX5_settle x1) := by
  obtain ⟨c, hw, hv⟩ := h
  have hc := hw.1
  rcases k_rounds x1 τ with ⟨hr, e1⟩ | ⟨hr, e1⟩
  · obtain ⟨r, r1, r2, rfl⟩ := win_n hr
    obtain ⟨t, c1, c2⟩ := lpU (fun n x2 s => mX4_settle_L6 n (nI r) x2 s) r (fun i s => s = Tc mX4_stepTogether τ i) (fun s => s = Tc mX4_stepTogether τ r)
      (fun n s hs => ⟨s, by simp only [mX4_settle_L6]; rw [if_pos (nI_le (Nat.le_refl _) (by omega))], hs⟩)
      (fun n i s hi hs => ⟨_, by
        simp only [mX4_settle_L6]
        rw [if_neg (nI_ge hi (by omega)), hs, (Tc_wf hw i).2.1, b1s, nI_1], rfl⟩)
      fF 0 τ (Nat.zero_le _) (by unfold fF; omega) rfl
    have c1 : mX4_settle_L6 fF (nI r) 0 τ = some t := c1
    subst c2
    obtain ⟨wr, -, fr⟩ := Tc_wf hw r
    obtain ⟨τe, d1, d2, d3⟩ := k_draw wr
    have se : scr (Tc mX4_stepTogether τ r) τe := scr.row d2 (by decide)
    have herr := k_errC wr d3 (fun a b hab => se a b (by omega))
    obtain ⟨v, hvv⟩ : ∃ v, v = er (Tc mX4_stepTogether τ r) := ⟨_, rfl⟩
    obtain ⟨σ1, d4⟩ : ∃ z, z = fm_wr (sL τe 55 (0 : Int32) v.toInt64) 61 2 0 := ⟨_, rfl⟩
    have b0 : ∀ a b, ¬ (20 ≤ a ∧ a < 40) → a ≠ 1 → a ≠ 2 → (a = 61 → b ≠ 2) → σ1.1 a b = τ.1 a b := fun a b h0 h1 h2 h3 => by
      rw [d4, wrN _ _ (by omega), st55a, se a b h0]; exact fr a b h0 h1 h2
    have hv1 : MV σ1 τ c := hv.of (fun a b hab => b0 a b (by omega) (by omega) (by omega) (by omega)) (fun _ _ _ => rfl)
    obtain ⟨S, m1, m2, m3, m4⟩ := lpU (fun n x3 s => mX5_settle_L15 n (nI r) (bI true) x3 s) r (fun i s => MV s (Tc mX4_stepTogether τ i) c ∧ (∀ a b, ¬ (51 ≤ a ∧ a ≤ 54) → a ≠ 41 → a ≠ 42 → s.1 a b = σ1.1 a b) ∧ ∀ b, s.2 55 b = σ1.2 55 b) (fun s => MV s (Tc mX4_stepTogether τ r) c ∧ (∀ a b, ¬ (51 ≤ a ∧ a ≤ 54) → a ≠ 41 → a ≠ 42 → s.1 a b = σ1.1 a b) ∧ ∀ b, s.2 55 b = σ1.2 55 b)
      (fun n s hs => ⟨s, by simp only [mX5_settle_L15]; rw [if_pos (nI_le (Nat.le_refl _) (by omega))], hs⟩)
      (fun n i s hi hs => by
        obtain ⟨wi, ei, -⟩ := Tc_wf hw i
        obtain ⟨t', g1, g2, g3⟩ := cl_round wi
        have et : t' = Tc mX4_stepTogether τ (i + 1) := Option.some.inj (g1.symm.trans ei)
        subst et
        obtain ⟨s', k1, k2, k3, k4⟩ := md_round wi hs.1
        refine ⟨s', ?_, mv_round hs.1 g2 g3 k2 k4, fun a b h0 h1 h2 => by rw [k2 a b h0 h1 h2]; exact hs.2.1 a b h0 h1 h2, fun b => by rw [k3]; exact hs.2.2 b⟩
        simp only [mX5_settle_L15]
        rw [if_neg (nI_ge hi (by omega)), if_neg (by decide), k1, b1s, nI_1])
      fF 0 σ1 (Nat.zero_le _) (by unfold fF; omega) ⟨hv1, fun _ _ _ _ _ => rfl, fun _ => rfl⟩
    have m1 : mX5_settle_L15 fF (nI r) (bI true) 0 σ1 = some S := m1
    refine ⟨0, sL τe 55 (0 : Int32) v.toInt64, v, S, ?_, ?_, ?_, ?_, ?_⟩
    · rw [mL_settle, h2o (r := v) (σ := τe)]
      · simp only [chk1, if_false]
      · rw [mX4_settle, e1, xo, c1, b1s, mX4_error, d1, b1s, herr, b1s, b2s, hvv]
    · rw [mX5_settle, k_in, hr, b1s, show (1 : Int32) = bI true from rfl, k_goes, b2s]
      simp only [if_true, Bool.and_self]
      rw [← d4, m1, b1s, if_neg (by decide), k_errM wr m2, b1s, hvv]
    · rw [k_thrown, m3 61 2 (by omega) (by omega) (by omega), d4, wrS]
    · intro _
      show S.2 55 _ = _
      rw [m4, d4]
      exact st55 τe v.toInt64
    · refine fin wr m2 (fun a b hab => ?_)
      rw [m3 a b (by omega) (by omega) (by omega), d4, wrN _ _ (by omega), st55a]
      exact se a b (by omega)
  · refine ⟨1, τ, 0, fm_wr τ 61 2 1, ?_, ?_, (bad hw hv 1).1, fun q => absurd q (by decide), (bad hw hv 1).2⟩
    · rw [mL_settle, h2e (σ := τ) (E := "java/lang/IllegalArgumentException")]
      · rfl
      · rw [mX4_settle, e1, xe]
    · rw [mX5_settle, k_in, hr, b1s, show (1 : Int32) = bI true from rfl, k_goes, b2s]
      have : mX5_settle_L15 fF x1 (bI (false && true)) 0 (fm_wr τ 61 2 (if false then (if true then 0 else 2) else 1)) = some (fm_wr τ 61 2 1) := by
        exact settle0 999 x1 (fm_wr τ 61 2 1)
      rw [this, b1s]; rfl
end LVI
