section PWB
theorem k_rdS {σ : fm_S} {c w K : Nat} (h : GS σ c) (h11 : 11 ≤ w) (hw13 : w < 13) (k1 : 1 ≤ K) (k3 : K ≤ 3) : ∃ σ', rdB (nI w) (nI K) σ = some (1, σ') ∧ GS σ' c := by
  obtain ⟨hw, hg, hr, hl, hp, hnw, hse, hz⟩ := h
  have hc := hg.1
  have n11 : (11 : Int32) ≤ nI w := nI_le (a := 11) h11 (by omega)
  have n13 : ¬ (13 : Int32) ≤ nI w := nI_ge (b := 13) hw13 (by decide)
  obtain ⟨τd, d1, d2, d3⟩ := k_draw hw
  have sd : scr σ τd := scr.row d2 (by decide)
  have wd := sd.wf hw
  have nd : NV τd (lk τd) := NV_lk sd d3
  have rows : ∀ k a b, ¬ (20 ≤ a ∧ a < 40) → a ≠ 6 → a ≠ 7 → a ≠ 8 → (Tc hS τd k).1 a b = σ.1 a b := fun k a b q1 q2 q3 q4 => by
    rw [(Th_wf wd nd k).2.2 a b (by omega) (by omega) q2 q3 q4]; exact sd a b q1
  have step : ∀ k, (∀ i, (Tc hS τd (k + 1)).1 6 i = if i < c then (Tc hS τd k).1 6 i + SD (Tc hS τd k) 6 c i else (Tc hS τd k).1 6 i) ∧ (∀ i, (Tc hS τd (k + 1)).1 7 i = if i < c then (Tc hS τd k).1 7 i + SD (Tc hS τd k) 7 c i else (Tc hS τd k).1 7 i) ∧ ∀ i, (Tc hS τd (k + 1)).1 8 i = SL (Tc hS τd k) c i := fun k => by
    obtain ⟨⟨wk, nk⟩, ek, -⟩ := Th_wf wd nd k
    obtain ⟨t, g1, g2, g3, g4, g5⟩ := cl_hand wk nk
    have et : Tc hS τd (k + 1) = t := (Prod.mk.inj (Option.some.inj (ek.symm.trans g1))).2
    rw [et]; exact ⟨g3, g4, g5⟩
  have NWk : ∀ k, NW (Tc hS τd k) c := fun k => by
    induction k with
    | zero => exact hnw.of (fun i _ => sd 7 i (by omega))
    | succ k ih => exact NW_hand (Th_wf wd nd k).1.1 ih (step k).2.1
  have hi6 : ∀ k i, c ≤ i → (Tc hS τd k).1 6 i = σ.1 6 i := fun k i hi => by
    induction k with
    | zero => exact sd 6 i (by omega)
    | succ k ih => rw [(step k).1 i, if_neg (by omega)]; exact ih
  obtain ⟨⟨y, s⟩, e1, p1, p2, p3⟩ := lpU (fun n x11 (a : Int32 × fm_S) => mL_acts_L575 n (nI w) (nI K) a.1 x11 a.2) K
    (fun k a => a.1 = AC τd c k ∧ spE c σ a.2 ∧ LSP a.2 (Tc hS τd k) c)
    (fun a => a.1 = AC τd c K ∧ spE c σ a.2 ∧ LSP a.2 (Tc hS τd K) c)
    (fun n a ha => ⟨a, by simp only [mL_acts_L575]; rw [if_pos (nI_le (Nat.le_refl _) (by omega))], ha⟩)
    (fun n k a hk ha => by
      obtain ⟨a1, s⟩ := a
      obtain ⟨x0, x1, x2⟩ := ha
      dsimp only at x0 x1 x2
      have gk : GE s (Tc hS τd k) c := (x1.ge hg).of (fun _ _ => rfl) (fun _ => rfl) (fun a b hab => rows k a b (by omega) (by omega) (by omega) (by omega))
      obtain ⟨s', y1, y2, y3⟩ := k_spreadL (Th_wf wd nd k).1.1 gk x2 (NWk k)
      refine ⟨(AC τd c (k + 1), s'), ?_, rfl, fun a b q1 q2 q3 => (y2 a b q1 q2 q3).trans (x1 a b q1 q2 q3), fun i hi => ?_⟩
      · simp only [mL_acts_L575]
        rw [if_neg (nI_ge hk (by omega)), if_pos n11, if_neg n13, y1, b2s, b1s, nI_1, x0]; rfl
      · obtain ⟨z1, z2, z3⟩ := y3 i hi
        rw [(step k).1 i, (step k).2.1 i, (step k).2.2 i, if_pos hi, if_pos hi]
        exact ⟨z1, z2, z3⟩)
    4 0 (0, σ) (Nat.zero_le _) (by omega) ⟨rfl, fun _ _ _ _ _ => rfl, fun i hi => by
      obtain ⟨-, -, a3, a4, a5⟩ := hr i hi
      show σ.1 40 (8 * i + 5) = τd.1 6 i ∧ σ.1 40 (8 * i + 6) = τd.1 7 i ∧ σ.1 40 (8 * i + 7) = τd.1 8 i + 1
      rw [sd 6 i (by omega), sd 7 i (by omega), sd 8 i (by omega)]; exact ⟨a3, a4, a5⟩⟩
  dsimp only at p1 p2 p3
  have e1 : mL_acts_L575 4 (nI w) (nI K) 0 0 σ = some (y, s) := e1
  have hws : WF s c := hw.of (fun a b hab => p2 a b (by omega) (by omega) (by omega))
  obtain ⟨σ', c1, c2, c3⟩ := k_spreadC (τ := s) (τd := τd) (c := c) (r := K) hws (fun a b hab => by rw [p2 a b (by omega) (by omega) (by omega)]; exact sd a b (by omega)) wd nd k1 (by omega)
  have F : ∀ a b, a ≠ 6 → a ≠ 7 → a ≠ 8 → ¬ (20 ≤ a ∧ a < 40) → a ≠ 43 → a ≠ 44 → ¬ (a = 40 ∧ 5 ≤ b % 8 ∧ b < 8 * c) → σ'.1 a b = σ.1 a b := fun a b q1 q2 q3 q4 q5 q6 q7 => (c2 a b q4 q1 q2 q3).trans (p2 a b q5 q6 q7)
  have F0 : ∀ a b, a < 6 ∨ (8 < a ∧ a < 20) ∨ a = 60 ∨ a = 41 ∨ a = 42 → σ'.1 a b = σ.1 a b := fun a b q => F a b (by omega) (by omega) (by omega) (by omega) (by omega) (by omega) (by omega)
  have F4 : ∀ b, (b % 8 < 5 ∨ 8 * c ≤ b) → σ'.1 40 b = σ.1 40 b := fun b q => F 40 b (by omega) (by omega) (by omega) (by omega) (by omega) (by omega) (by omega)
  have LL : ∀ i, i < c → ∀ k, σ'.1 40 (8 * i + k) = s.1 40 (8 * i + k) := fun i hi k => c2 40 _ (by omega) (by omega) (by omega) (by omega)
  refine ⟨σ', ?_, ?_, ?_, ?_, ?_, ?_, ?_, ?_, ?_⟩
  · unfold rdB
    rw [e1, b2s, if_pos n11, if_neg n13, c1, b2s, p1, if_pos rfl]
  · have wK := (Th_wf wd nd K).1.1
    exact wK.of (fun a b hab => c3 a b (by omega))
  · exact hg.of (fun b hb => F4 b (by omega)) (fun b => F0 41 b (by omega)) (fun a b hab => F0 a b (by omega))
  · intro i hi
    obtain ⟨a1, a2, -⟩ := hr i hi
    obtain ⟨z1, z2, z3⟩ := p3 i hi
    rw [F4 (8 * i + 3) (by omega), F4 (8 * i + 4) (by omega), F0 4 i (by omega), F0 5 i (by omega), LL i hi 5, LL i hi 6, LL i hi 7, c3 6 i (by omega), c3 7 i (by omega), c3 8 i (by omega)]
    exact ⟨a1, a2, z1, z2, z3⟩
  · exact hl.of (fun b => F0 42 b (by omega)) (fun a b _ _ => F0 a b (by omega))
  · exact hp.of (fun i _ => ⟨F0 1 i (by omega), F0 2 i (by omega)⟩) (fun a b _ _ => F0 a b (by omega))
  · exact (NWk K).of (fun i _ => c3 7 i (by omega))
  · exact hse.of (fun i _ => F0 5 i (by omega))
  · refine hz.of (fun a i q1 q2 q3 q4 => ?_) (fun i k q1 q2 q3 => F4 _ (by omega))
    by_cases e : a = 6
    · subst e; rw [c3 6 i (by omega), hi6 K i q3]
    · exact F0 a i (by omega)
theorem k_rdT {σ : fm_S} {c w K : Nat} (h : GS σ c) (h0 : 0 < c) (h13 : 13 ≤ w) (hw15 : w < 15) (k1 : 1 ≤ K) (k3 : K ≤ 3) : ∃ σ', rdB (nI w) (nI K) σ = some (1, σ') ∧ GS σ' c := by
  obtain ⟨hw, hg, hr, hl, hp, hnw, hse, hz⟩ := h
  have hc := hg.1
  have n11 : (11 : Int32) ≤ nI w := nI_le (a := 11) (by omega) (by omega)
  have n13 : (13 : Int32) ≤ nI w := nI_le (a := 13) h13 (by omega)
  have step : ∀ k, ∀ i, ((Tc mX4_stepTogether σ (k + 1)).1 1 i = if i < c then nw (Tc mX4_stepTogether σ k) c 1 i else (Tc mX4_stepTogether σ k).1 1 i) ∧ ((Tc mX4_stepTogether σ (k + 1)).1 2 i = if i < c then nw (Tc mX4_stepTogether σ k) c 2 i else (Tc mX4_stepTogether σ k).1 2 i) := fun k => by
    obtain ⟨wk, ek, -⟩ := Tc_wf hw k
    obtain ⟨t, g1, g2, g3⟩ := cl_round wk
    have et : Tc mX4_stepTogether σ (k + 1) = t := Option.some.inj (ek.symm.trans g1)
    rw [et]; exact g3
  have rows : ∀ k a b, ¬ (20 ≤ a ∧ a < 40) → a ≠ 1 → a ≠ 2 → (Tc mX4_stepTogether σ k).1 a b = σ.1 a b := fun k => (Tc_wf hw k).2.2
  have NPk : ∀ k, NP (Tc mX4_stepTogether σ k) c := fun k => by
    induction k with
    | zero => exact hp
    | succ k ih =>
      refine ⟨fun i hi => ?_, fun i j hi hj => by rw [rows (k + 1) (10 + i) j (by omega) (by omega) (by omega)]; exact hp.2 i j hi hj⟩
      rw [(step k i).1, (step k i).2, if_pos hi, if_pos hi]
      exact ⟨(k_nw ih hc (Or.inl rfl) hi).2, (k_nw ih hc (Or.inr rfl) hi).2⟩
  have geK : ∀ k s, setE σ s → (∀ i, i < c → s.1 40 (8 * i) = (Tc mX4_stepTogether σ k).1 1 i ∧ s.1 40 (8 * i + 1) = (Tc mX4_stepTogether σ k).1 2 i) → GE s (Tc mX4_stepTogether σ k) c := fun k s x1 x2 => by
    obtain ⟨g1, g2, g3, g4, g5⟩ := hg
    refine ⟨g1, (x1 40 40 (by omega)).trans g2, ?_, fun i hi => ⟨(x2 i hi).1, (x2 i hi).2, ?_⟩, fun i j hij hj => ?_⟩
    · rw [x1 40 41 (by omega), rows k 60 1 (by omega) (by omega) (by omega)]; exact g3
    · rw [x1 40 _ (by omega), rows k 3 i (by omega) (by omega) (by omega)]; exact (g4 i hi).2.2
    · rw [x1 41 _ (by omega), rows k 19 i (by omega) (by omega) (by omega)]; exact g5 i j hij hj
  have lwK : ∀ k s, setE σ s → LW s (Tc mX4_stepTogether σ k) := fun k s x1 i j hij hj => by
    rw [x1 42 _ (by omega), rows k (10 + i) j (by omega) (by omega) (by omega)]; exact hl i j hij hj
  obtain ⟨⟨y, s⟩, e1, p2, p3⟩ := lpU (fun n x11 (a : Int32 × fm_S) => mL_acts_L575 n (nI w) (nI K) a.1 x11 a.2) K
    (fun k a => setE σ a.2 ∧ ∀ i, i < c → a.2.1 40 (8 * i) = (Tc mX4_stepTogether σ k).1 1 i ∧ a.2.1 40 (8 * i + 1) = (Tc mX4_stepTogether σ k).1 2 i)
    (fun a => setE σ a.2 ∧ ∀ i, i < c → a.2.1 40 (8 * i) = (Tc mX4_stepTogether σ K).1 1 i ∧ a.2.1 40 (8 * i + 1) = (Tc mX4_stepTogether σ K).1 2 i)
    (fun n a ha => ⟨a, by simp only [mL_acts_L575]; rw [if_pos (nI_le (Nat.le_refl _) (by omega))], ha⟩)
    (fun n k a hk ha => by
      obtain ⟨a1, s⟩ := a
      obtain ⟨x1, x2⟩ := ha
      dsimp only at x1 x2
      obtain ⟨s', y1, y2, y3⟩ := k_settleL (Tc_wf hw k).1 (geK k s x1 x2) (lwK k s x1) (NPk k) h0
      refine ⟨(a1, s'), ?_, fun a b q => (y2 a b q).trans (x1 a b q), fun i hi => ?_⟩
      · simp only [mL_acts_L575]
        rw [if_neg (nI_ge hk (by omega)), if_pos n11, if_pos n13, y1, b1s, nI_1]
      · obtain ⟨z1, z2⟩ := y3 i hi
        rw [(step k i).1, (step k i).2, if_pos hi, if_pos hi]
        exact ⟨z1, z2⟩)
    4 0 (0, σ) (Nat.zero_le _) (by omega) ⟨fun _ _ _ => rfl, fun i hi => ⟨(hg.2.2.2.1 i hi).1, (hg.2.2.2.1 i hi).2.1⟩⟩
  dsimp only at p2 p3
  have e1 : mL_acts_L575 4 (nI w) (nI K) 0 0 σ = some (y, s) := e1
  have hws : WF s c := hw.of (fun a b hab => p2 a b (by omega))
  obtain ⟨σ', c1, c2, c3⟩ := k_settleC (τ := s) (τd := σ) (c := c) (r := K) hws (fun a b hab => (p2 a b (by omega)).symm) hw k1 (by omega)
  have c2' : ∀ a b, 40 ≤ a → σ'.1 a b = s.1 a b := fun a b q => c2 a b (by omega) (by omega) (by omega)
  have F : ∀ a b, a ≠ 1 → a ≠ 2 → ¬ (20 ≤ a ∧ a < 40) → a ≠ 40 → σ'.1 a b = σ.1 a b := fun a b q1 q2 q4 q5 => (c2 a b q4 q1 q2).trans (p2 a b (by omega))
  have F4 : ∀ b, ¬ (b < 40 ∧ b % 8 ≤ 1) → σ'.1 40 b = σ.1 40 b := fun b q => (c2' 40 b (by omega)).trans (p2 40 b (by omega))
  have wK := (Tc_wf hw K).1
  have gK : GE σ' (Tc mX4_stepTogether σ K) c := (geK K s p2 p3).of (fun b _ => c2' 40 b (by omega)) (fun b => c2' 41 b (by omega)) (fun _ _ _ => rfl)
  have hE := k_errorL (σ := σ') wK gK (fun i j hij hj => by
    rw [c2' 42 _ (by omega)]; exact lwK K s p2 i j hij hj) (NPk K)
  refine ⟨σ', ?_, ?_, ?_, ?_, ?_, ?_, ?_, ?_, ?_⟩
  · unfold rdB
    rw [e1, b2s, if_pos n11, if_pos n13, c1, b2s, hE, b1s, if_pos rfl]
  · exact wK.of (fun a b hab => c3 a b (by omega))
  · exact gK.of (fun _ _ => rfl) (fun _ => rfl) (fun a b hab => c3 a b (by omega))
  · exact hr.of (fun i hi k q1 q2 => F4 _ (by omega)) (fun a i q1 q2 _ => F a i (by omega) (by omega) (by omega) (by omega))
  · exact hl.of (fun b => F 42 b (by omega) (by omega) (by omega) (by omega)) (fun a b _ _ => F a b (by omega) (by omega) (by omega) (by omega))
  · exact (NPk K).of (fun i _ => ⟨c3 1 i (by omega), c3 2 i (by omega)⟩) (fun a b _ _ => c3 a b (by omega))
  · exact hnw.of (fun i _ => F 7 i (by omega) (by omega) (by omega) (by omega))
  · exact hse.of (fun i _ => F 5 i (by omega) (by omega) (by omega) (by omega))
  · refine ⟨fun i q1 q2 => ?_, fun i q1 q2 => ?_⟩
    · rw [F 4 i (by omega) (by omega) (by omega) (by omega), F 5 i (by omega) (by omega) (by omega) (by omega), F 6 i (by omega) (by omega) (by omega) (by omega)]; exact hz.1 i q1 q2
    · rw [F4 (8 * i + 2) (by omega), F4 (8 * i + 3) (by omega), F4 (8 * i + 4) (by omega), F4 (8 * i + 5) (by omega), F4 (8 * i + 7) (by omega)]; exact hz.2 i q1 q2
theorem k_rd {σ : fm_S} {c w K : Nat} (h : GS σ c) (h0 : 0 < c) (hw15 : w < 15) (k1 : 1 ≤ K) (k3 : K ≤ 3) : ∃ σ', rdB (nI w) (nI K) σ = some (1, σ') ∧ GS σ' c := by
  by_cases q : w < 11
  · exact k_rdA h h0 q k1 k3
  · by_cases q2 : w < 13
    · exact k_rdS h (by omega) q2 k1 k3
    · exact k_rdT h h0 (by omega) hw15 k1 k3
end PWB
