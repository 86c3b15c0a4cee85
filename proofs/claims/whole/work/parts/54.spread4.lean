section LVO
theorem mv_hand {σ σ' τ τ' : fm_S} {c : Nat} (hv : MV σ τ c) (a1 : ∀ a b, a ≠ 22 → a ≠ 23 → a ≠ 6 → a ≠ 7 → a ≠ 8 → τ'.1 a b = τ.1 a b) (a6 : ∀ i, τ'.1 6 i = if i < c then τ.1 6 i + SD τ 6 c i else τ.1 6 i) (a7 : ∀ i, τ'.1 7 i = if i < c then τ.1 7 i + SD τ 7 c i else τ.1 7 i) (a8 : ∀ i, τ'.1 8 i = SL τ c i)
    (b1 : ∀ a b, a ≠ 51 → a ≠ 52 → a ≠ 46 → a ≠ 47 → a ≠ 48 → σ'.1 a b = σ.1 a b) (b6 : ∀ i, i < 8 → σ'.1 46 i = if i < c then τ.1 6 i + SD τ 6 c i else τ.1 6 i) (b7 : ∀ i, i < 8 → σ'.1 47 i = if i < c then τ.1 7 i + SD τ 7 c i else τ.1 7 i) (b8 : ∀ i, i < 8 → σ'.1 48 i = SL τ c i) : MV σ' τ' c := by
  obtain ⟨h1, h2, h3, h4, h5, h6⟩ := hv
  have A : ∀ a b, (a < 6 ∨ (8 < a ∧ a < 20) ∨ a = 60) → τ'.1 a b = τ.1 a b := fun a b h => a1 a b (by omega) (by omega) (by omega) (by omega) (by omega)
  have B : ∀ a b, (41 ≤ a ∧ a < 46 ∨ a = 49 ∨ a = 50 ∨ a = 61) → σ'.1 a b = σ.1 a b := fun a b h => b1 a b (by omega) (by omega) (by omega) (by omega) (by omega)
  refine ⟨by rw [B _ _ (by omega)]; exact h1, by rw [B _ _ (by omega), A _ _ (by omega)]; exact h2, fun i hi => ?_, fun i hi => by rw [B _ _ (by omega), A _ _ (by omega)]; exact h4 i hi, fun i hi j hj => by rw [B _ _ (by omega), A _ _ (by omega)]; exact h5 i hi j hj, fun i hi j hj => by rw [B _ _ (by omega), A _ _ (by omega)]; exact h6 i hi j hj⟩
  obtain ⟨g1, g2, g3, g4, -, -, -⟩ := h3 i hi
  refine ⟨?_, ?_, ?_, ?_, (b6 i hi).trans (a6 i).symm, (b7 i hi).trans (a7 i).symm, (b8 i hi).trans (a8 i).symm⟩
  · rw [B _ _ (by omega), A _ _ (by omega)]; exact g1
  · rw [B _ _ (by omega), A _ _ (by omega)]; exact g2
  · rw [B _ _ (by omega), A _ _ (by omega)]; exact g3
  · rw [B _ _ (by omega), A _ _ (by omega)]; exact g4
theorem wf_hand {τ τ' : fm_S} {c : Nat} (hw : WF τ c) (a1 : ∀ a b, a ≠ 22 → a ≠ 23 → a ≠ 6 → a ≠ 7 → a ≠ 8 → τ'.1 a b = τ.1 a b) (a8 : ∀ i, τ'.1 8 i = SL τ c i) : WF τ' c := by
  obtain ⟨h1, h2, h3, h4, h5, h6, h7, h8⟩ := id hw
  have A : ∀ a b, (a < 6 ∨ (8 < a ∧ a < 20) ∨ a = 60) → τ'.1 a b = τ.1 a b := fun a b h => a1 a b (by omega) (by omega) (by omega) (by omega) (by omega)
  refine ⟨h1, by rw [A _ _ (by omega)]; exact h2, fun i hi => by rw [A _ _ (by omega)]; exact h3 i hi, fun i hi hi' => by rw [A _ _ (by omega)]; exact h4 i hi hi', fun i hi => by rw [A _ _ (by omega)]; exact h5 i hi, fun i hi j hj => by rw [A _ _ (by omega), A _ _ (by omega)]; exact h6 i hi j hj, fun i hi j hj => by rw [A _ _ (by omega), A _ _ (by omega)]; exact h7 i hi j hj, fun i hi => ?_⟩
  rw [a8 i]; unfold SL
  by_cases z : i < c
  · rw [if_pos z]
    rcases rh_cases hw z with hr | ⟨j, hj, -, hr⟩
    · rw [if_pos hr]; exact h8 i hi
    · have hr1 : ¬ nI j = -1 := by
        have : ∀ f, f < 9 → ¬ nI f = -1 := by decide +kernel
        exact this j (by omega)
      rw [hr, if_neg hr1]
      exact ⟨j + 1, by omega, (nI_pred j).symm⟩
  · rw [if_neg z]; exact h8 i hi
def hS (s : fm_S) : Option fm_S := (mX4_handHalves s).map Prod.snd
noncomputable def AC (τ : fm_S) (c : Nat) : Nat → Int32
  | 0 => 0
  | k + 1 => AC τ c k + SC (Tc hS τ k) c
theorem Th_wf {τ : fm_S} {c : Nat} (hw : WF τ c) (hn : NV τ (lk τ)) : ∀ k, (WF (Tc hS τ k) c ∧ NV (Tc hS τ k) (lk (Tc hS τ k))) ∧ mX4_handHalves (Tc hS τ k) = some (SC (Tc hS τ k) c, Tc hS τ (k + 1)) ∧ (∀ a b, a ≠ 22 → a ≠ 23 → a ≠ 6 → a ≠ 7 → a ≠ 8 → (Tc hS τ k).1 a b = τ.1 a b) := by
  intro k
  induction k with
  | zero =>
    obtain ⟨t, e, -⟩ := cl_hand hw hn
    refine ⟨⟨hw, hn⟩, ?_, fun _ _ _ _ _ _ _ => rfl⟩
    show mX4_handHalves τ = some (SC τ c, (hS τ).getD τ)
    unfold hS
    rw [e]; rfl
  | succ k ih =>
    obtain ⟨⟨w, n⟩, e, f⟩ := ih
    obtain ⟨t, e1, e2, -, -, e5⟩ := cl_hand w n
    have et : Tc hS τ (k + 1) = t := by
      have := e.symm.trans e1
      exact (Prod.mk.inj (Option.some.inj this)).2
    have w2 : WF (Tc hS τ (k + 1)) c := by rw [et]; exact wf_hand w e2 e5
    have n2 : NV (Tc hS τ (k + 1)) (lk (Tc hS τ (k + 1))) := by
      rw [et]
      intro a ha
      rw [e2 21 a (by omega) (by omega) (by omega) (by omega) (by omega)]
      exact ⟨(n a ha).1, fun b hb => by rw [(n a ha).2 b hb]; exact (lk_of5 (fun a b hab => e2 a b (by omega) (by omega) (by omega) (by omega) (by omega)) a b).symm⟩
    refine ⟨⟨w2, n2⟩, ?_, fun a b h1 h2 h3 h4 h5 => by rw [et, e2 a b h1 h2 h3 h4 h5]; exact f a b h1 h2 h3 h4 h5⟩
    obtain ⟨u, g, -⟩ := cl_hand w2 n2
    show mX4_handHalves (Tc hS τ (k + 1)) = some (SC (Tc hS τ (k + 1)) c, (hS (Tc hS τ (k + 1))).getD _)
    unfold hS
    unfold hS at g
    rw [g]; rfl
theorem spread0 (n : Nat) (x1 : Int32) (σ : fm_S) : mX5_spread_L18 (n + 1) x1 0 0 0 σ = some (0, σ) := by
  simp only [mX5_spread_L18]
  by_cases q : x1 ≤ 0
  · rw [if_pos q]
  · rw [if_neg q]; rfl
theorem c_spread {τ : fm_S} (h : RR τ) (x1 : Int32) : OI (mL_spread x1 τ) (mX5_spread x1) := by
  obtain ⟨c, hw, hv⟩ := h
  have hc := hw.1
  rcases k_rounds x1 τ with ⟨hr, e1⟩ | ⟨hr, e1⟩
  · obtain ⟨r, r1, r2, rfl⟩ := win_n hr
    obtain ⟨τd, d1, d2, d3⟩ := k_draw hw
    have sd : scr τ τd := scr.row d2 (by decide)
    have wd := sd.wf hw
    have nd : NV τd (lk τd) := fun a ha => ⟨(d3 a ha).1, fun b hb => by rw [(d3 a ha).2 b hb]; exact (sd.lk a b).symm⟩
    obtain ⟨t, c1, c2⟩ := lpU (fun n x3 (a : Int32 × fm_S) => mX4_spread_L12 n (nI r) a.1 x3 a.2) r (fun i a => a = (AC τd c i, Tc hS τd i)) (fun a => a = (AC τd c r, Tc hS τd r))
      (fun n a ha => ⟨a, by simp only [mX4_spread_L12]; rw [if_pos (nI_le (Nat.le_refl _) (by omega))], ha⟩)
      (fun n i a hi ha => ⟨(AC τd c (i + 1), Tc hS τd (i + 1)), by
        simp only [mX4_spread_L12]
        rw [if_neg (nI_ge hi (by omega)), ha]
        show mb2 (mX4_handHalves (Tc hS τd i)) _ = _
        rw [(Th_wf wd nd i).2.1, b2s, nI_1]; rfl, rfl⟩)
      fF 0 (0, τd) (Nat.zero_le _) (by unfold fF; omega) rfl
    have c1 : mX4_spread_L12 fF (nI r) 0 0 τd = some t := c1
    subst c2
    obtain ⟨⟨wr, -⟩, -, fr⟩ := Th_wf wd nd r
    obtain ⟨v, hvv⟩ : ∃ v, v = AC τd c r := ⟨_, rfl⟩
    obtain ⟨σ1, d4⟩ : ∃ z, z = fm_wr (sL (Tc hS τd r) 55 (0 : Int32) v.toInt64) 61 2 0 := ⟨_, rfl⟩
    have b0 : ∀ a b, 40 ≤ a ∧ a ≤ 50 ∨ (a = 61 ∧ b < 2) → σ1.1 a b = τ.1 a b := fun a b h0 => by
      rw [d4, wrN _ _ (by omega), st55a, fr a b (by omega) (by omega) (by omega) (by omega) (by omega)]; exact sd a b (by omega)
    have hvd : MV τ τd c := hv.tau (fun a b hab => sd a b (by omega))
    have hv1 : MV σ1 τd c := hvd.of (fun a b hab => b0 a b (by omega)) (fun _ _ _ => rfl)
    obtain ⟨⟨w, S⟩, m1, m0, m2, m3, m4⟩ := lpU (fun n x4 (a : Int32 × fm_S) => mX5_spread_L18 n (nI r) a.1 (bI true) x4 a.2) r (fun i a => a.1 = AC τd c i ∧ MV a.2 (Tc hS τd i) c ∧ (∀ x b, x ≠ 51 → x ≠ 52 → x ≠ 46 → x ≠ 47 → x ≠ 48 → a.2.1 x b = σ1.1 x b) ∧ a.2.2 = σ1.2) (fun a => a.1 = AC τd c r ∧ MV a.2 (Tc hS τd r) c ∧ (∀ x b, x ≠ 51 → x ≠ 52 → x ≠ 46 → x ≠ 47 → x ≠ 48 → a.2.1 x b = σ1.1 x b) ∧ a.2.2 = σ1.2)
      (fun n a ha => ⟨a, by simp only [mX5_spread_L18]; rw [if_pos (nI_le (Nat.le_refl _) (by omega))], ha⟩)
      (fun n i a hi ha => by
        obtain ⟨⟨wi, ni⟩, ei, -⟩ := Th_wf wd nd i
        obtain ⟨t', g1, g2, g3, g4, g5⟩ := cl_hand wi ni
        have et : t' = Tc hS τd (i + 1) := (Prod.mk.inj (Option.some.inj (g1.symm.trans ei))).2
        subst et
        obtain ⟨s', k1, k2, k3, k4, k5, k6⟩ := md_hand wi ha.2.1
        refine ⟨(a.1 + SC (Tc hS τd i) c, s'), ?_, by rw [ha.1]; rfl, mv_hand ha.2.1 g2 g3 g4 g5 k2 k4 k5 k6, fun x b h1 h2 h3 h4 h5 => by rw [k2 x b h1 h2 h3 h4 h5]; exact ha.2.2.1 x b h1 h2 h3 h4 h5, by rw [k3]; exact ha.2.2.2⟩
        simp only [mX5_spread_L18]
        rw [if_neg (nI_ge hi (by omega)), if_neg (by decide), k1, b2s, nI_1])
      fF 0 (0, σ1) (Nat.zero_le _) (by unfold fF; omega) ⟨rfl, hv1, fun _ _ _ _ _ _ _ => rfl, rfl⟩
    dsimp only at m0 m2 m3 m4
    have m1 : mX5_spread_L18 fF (nI r) 0 (bI true) 0 σ1 = some (w, S) := m1
    refine ⟨0, sL (Tc hS τd r) 55 (0 : Int32) v.toInt64, v, S, ?_, ?_, ?_, ?_, ?_⟩
    · rw [mL_spread, h2o (r := v) (σ := Tc hS τd r)]
      · simp only [chk1, if_false]
      · rw [mX4_spread, e1, xo, d1, b1s, c1, b2s, hvv]
    · rw [mX5_spread, k_in, hr, b1s, show mX5_goes (bI true) (1 : Int32) _ = _ from k_goes true true _, b2s]
      simp only [if_true, Bool.and_self]
      rw [← d4, m1, b2s, m0, hvv]
    · rw [k_thrown, m3 61 2 (by omega) (by omega) (by omega) (by omega) (by omega), d4, wrS]
    · intro _
      show S.2 55 _ = _
      rw [m4, d4]
      exact st55 (Tc hS τd r) v.toInt64
    · refine fin wr m2 (fun a b hab => ?_)
      rw [m3 a b (by omega) (by omega) (by omega) (by omega) (by omega), d4, wrN _ _ (by omega), st55a]
  · refine ⟨1, τ, 0, fm_wr τ 61 2 1, ?_, ?_, (bad hw hv 1).1, fun q => absurd q (by decide), (bad hw hv 1).2⟩
    · rw [mL_spread, h2e (σ := τ) (E := "java/lang/IllegalArgumentException")]
      · rfl
      · rw [mX4_spread, e1, xe]
    · rw [mX5_spread, k_in, hr, b1s, show mX5_goes (bI false) (1 : Int32) _ = _ from k_goes false true _, b2s]
      have : mX5_spread_L18 fF x1 0 (bI (false && true)) 0 (fm_wr τ 61 2 (if false then (if true then 0 else 2) else 1)) = some (0, fm_wr τ 61 2 1) := spread0 999 x1 (fm_wr τ 61 2 1)
      rw [this, b2s]
end LVO
