section LVN
set_option maxHeartbeats 1000000 in
theorem md_hand {σ τ : fm_S} {c : Nat} (hw : WF τ c) (hv : MV σ τ c) : ∃ σ', mX5_spreads σ = some (SC τ c, σ') ∧ (∀ a b, a ≠ 51 → a ≠ 52 → a ≠ 46 → a ≠ 47 → a ≠ 48 → σ'.1 a b = σ.1 a b) ∧ σ'.2 = σ.2 ∧ (∀ i, i < 8 → σ'.1 46 i = if i < c then τ.1 6 i + SD τ 6 c i else τ.1 6 i) ∧ (∀ i, i < 8 → σ'.1 47 i = if i < c then τ.1 7 i + SD τ 7 c i else τ.1 7 i) ∧ ∀ i, i < 8 → σ'.1 48 i = SL τ c i := by
  have hc := hw.1
  have v6 : ∀ i, i < 8 → σ.1 46 i = τ.1 6 i := fun i hi => (hv.2.2.1 i hi).2.2.2.2.1
  have v7 : ∀ i, i < 8 → σ.1 47 i = τ.1 7 i := fun i hi => (hv.2.2.1 i hi).2.2.2.2.2.1
  have v8 : ∀ i, i < 8 → σ.1 48 i = τ.1 8 i := fun i hi => (hv.2.2.1 i hi).2.2.2.2.2.2
  obtain ⟨s0, e0, ⟨r0, r0'⟩, z0⟩ := lpU (fun n x s => mX5_spreads_L4 n x s) c (fun i t => ((∀ a b, a ≠ 51 → a ≠ 52 → t.1 a b = σ.1 a b) ∧ t.2 = σ.2) ∧ ∀ j, j < i → t.1 51 j = 0 ∧ t.1 52 j = 0) (fun t => ((∀ a b, a ≠ 51 → a ≠ 52 → t.1 a b = σ.1 a b) ∧ t.2 = σ.2) ∧ ∀ j, j < c → t.1 51 j = 0 ∧ t.1 52 j = 0)
    (fun n t ht => ⟨t, by simp only [mX5_spreads_L4]; rw [ht.1.1 61 0 (by omega) (by omega), hv.1, if_pos (nI_le (Nat.le_refl _) (by omega))], ht⟩)
    (fun n i t hi ht => by
      refine ⟨fm_wr (fm_wr t 51 i 0) 52 i 0, ?_, ⟨fun a b h1 h2 => by rw [wrN _ _ (by omega), wrN _ _ (by omega)]; exact ht.1.1 a b h1 h2, ht.1.2⟩, fun j hj => ?_⟩
      · simp only [mX5_spreads_L4]
        rw [ht.1.1 61 0 (by omega) (by omega), hv.1, if_neg (nI_ge hi (by omega))]
        simp only [chk8 (show i < 8 by omega) (by decide), if_false]
        rw [sIn _ _ _ (by omega), sIn _ _ _ (by omega), nI_1]
      · by_cases e : j = i
        · subst e; exact ⟨by rw [wrN _ _ (by omega), wrS], wrS _ _ _ _⟩
        · rw [wrN _ _ (by omega), wrN _ _ (by omega), wrN _ _ (by omega), wrN _ _ (by omega)]; exact ht.2 j (by omega))
    fF 0 σ (Nat.zero_le _) (by unfold fF; omega) ⟨⟨fun _ _ _ _ => rfl, rfl⟩, fun j hj => absurd hj (by omega)⟩
  obtain ⟨⟨n1, t1⟩, e2, ⟨p0, ⟨p1, p1'⟩, p2, p3⟩⟩ := lpU (fun n x (a : Int32 × fm_S) => mX5_spreads_L34 n a.1 x a.2) c
    (fun i a => a.1 = SC τ i ∧ ((∀ x b, x ≠ 51 → x ≠ 52 → x ≠ 48 → a.2.1 x b = σ.1 x b) ∧ a.2.2 = σ.2) ∧ (∀ x, x < c → a.2.1 51 x = SD τ 6 i x ∧ a.2.1 52 x = SD τ 7 i x) ∧ ∀ x, x < 8 → a.2.1 48 x = SL τ i x)
    (fun a => a.1 = SC τ c ∧ ((∀ x b, x ≠ 51 → x ≠ 52 → x ≠ 48 → a.2.1 x b = σ.1 x b) ∧ a.2.2 = σ.2) ∧ (∀ x, x < c → a.2.1 51 x = SD τ 6 c x ∧ a.2.1 52 x = SD τ 7 c x) ∧ ∀ x, x < 8 → a.2.1 48 x = SL τ c x)
    (fun n a ha => ⟨a, by simp only [mX5_spreads_L34]; rw [ha.2.1.1 61 0 (by omega) (by omega) (by omega), hv.1, if_pos (nI_le (Nat.le_refl _) (by omega))], ha⟩)
    (fun n i a hi ha => by
      obtain ⟨a1, s⟩ := a
      obtain ⟨x0, ⟨x1, x1'⟩, x2, x3⟩ := ha
      dsimp only at x0 x1 x1' x2 x3
      have s8 : s.1 48 i = τ.1 8 i := by rw [x3 i (by omega), SL, if_neg (by omega)]
      have g1 := k_nextM (s := s) hw hv (fun a b h1 h2 h3 => x1 a b h1 h2 h3) hi s8
      rcases rh_cases hw hi with hr | ⟨j, hj, hij, hr⟩
      · refine ⟨(a1, s), ?_, ?_, ⟨x1, x1'⟩, fun x hx => ?_, fun x hx => ?_⟩
        · simp only [mX5_spreads_L34]
          rw [x1 61 0 (by omega) (by omega) (by omega), hv.1, if_neg (nI_ge hi (by omega)), g1, b1s, hr, if_pos (by decide), nI_1]
        · show a1 = _; rw [SC, if_pos hr]; exact x0
        · rw [SD, if_pos hr, SD, if_pos hr]; exact x2 x hx
        · show s.1 48 x = _
          rw [x3 x hx]; unfold SL
          by_cases e : x = i
          · subst e; rw [if_neg (by omega), if_pos (by omega), if_pos hr]
          · by_cases z : x < i
            · rw [if_pos z, if_pos (show x < i + 1 by omega)]
            · rw [if_neg z, if_neg (show ¬ x < i + 1 by omega)]
      · have hr1 : ¬ nI j = -1 := by
          have : ∀ f, f < 9 → ¬ nI f = -1 := by decide +kernel
          exact this j (by omega)
        have cj : (nI j).toNatClampNeg = j := nI_clamp (by omega)
        have y6 : s.1 46 i = τ.1 6 i := by rw [x1 46 i (by omega) (by omega) (by omega)]; exact v6 i (by omega)
        have y7 : s.1 47 i = τ.1 7 i := by rw [x1 47 i (by omega) (by omega) (by omega)]; exact v7 i (by omega)
        refine ⟨(a1 + 1, fm_wr (fm_wr (fm_wr (fm_wr (fm_wr s 51 i (s.1 51 i - τ.1 6 i / 2)) 51 j (s.1 51 j + τ.1 6 i / 2)) 52 i (s.1 52 i - τ.1 7 i / 2)) 52 j (s.1 52 j + τ.1 7 i / 2)) 48 i (nI j)), ?_, ?_, ⟨fun x b h1 h2 h3 => ?_, x1'⟩, fun x hx => ⟨?_, ?_⟩, fun x hx => ?_⟩
        · simp only [mX5_spreads_L34]
          rw [x1 61 0 (by omega) (by omega) (by omega), hv.1, if_neg (nI_ge hi (by omega)), g1, b1s, hr, if_neg (nI_pos (by omega))]
          simp only [chk8 (show i < 8 by omega) (by decide), chk8 (show j < 8 by omega) (by decide), if_false]
          simp only [rIn _ _ (show i < 2 ^ 31 by omega), rIn _ _ (show j < 2 ^ 31 by omega), sIn _ _ _ (show i < 2 ^ 31 by omega), sIn _ _ _ (show j < 2 ^ 31 by omega), nI_1]
          have hij' : ¬ i = j := fun q => hij q.symm
          simp [wrD, hij, hij', y6, y7]
        · show a1 + 1 = _; rw [SC, hr, if_neg hr1, x0]
        · show (fm_wr _ 48 i (nI j)).1 x b = _
          rw [wrN _ _ (by omega), wrN _ _ (by omega), wrN _ _ (by omega), wrN _ _ (by omega), wrN _ _ (by omega)]; exact x1 x b h1 h2 h3
        · show (fm_wr _ 48 i (nI j)).1 51 x = _
          rw [wrN _ _ (by omega), wrN _ _ (by omega), wrN _ _ (by omega), SD, hr, if_neg hr1, cj]
          by_cases q1 : x = j
          · rw [if_pos q1, q1, wrS, (x2 j hj).1]
          · rw [if_neg q1, wrN _ _ (by omega)]
            by_cases q2 : x = i
            · rw [if_pos q2, q2, wrS, (x2 i hi).1]
            · rw [if_neg q2, wrN _ _ (by omega)]; exact (x2 x hx).1
        · show (fm_wr _ 48 i (nI j)).1 52 x = _
          rw [wrN _ _ (by omega), SD, hr, if_neg hr1, cj]
          by_cases q1 : x = j
          · rw [if_pos q1, q1, wrS, (x2 j hj).2]
          · rw [if_neg q1, wrN _ _ (by omega)]
            by_cases q2 : x = i
            · rw [if_pos q2, q2, wrS, (x2 i hi).2]
            · rw [if_neg q2, wrN _ _ (by omega), wrN _ _ (by omega), wrN _ _ (by omega)]; exact (x2 x hx).2
        · show (fm_wr _ 48 i (nI j)).1 48 x = _
          unfold SL
          by_cases e : x = i
          · subst e; rw [wrS, if_pos (by omega), hr, if_neg hr1]
          · rw [wrN _ _ (by omega), wrN _ _ (by omega), wrN _ _ (by omega), wrN _ _ (by omega), wrN _ _ (by omega), x3 x hx]; unfold SL
            by_cases z : x < i
            · rw [if_pos z, if_pos (show x < i + 1 by omega)]
            · rw [if_neg z, if_neg (show ¬ x < i + 1 by omega)])
    fF 0 (0, s0) (Nat.zero_le _) (by unfold fF; omega) ⟨rfl, ⟨fun x b h1 h2 h3 => r0 x b h1 h2, r0'⟩, fun x hx => z0 x hx, fun x hx => by
      show s0.1 48 x = _
      rw [r0 48 x (by omega) (by omega), v8 x hx]; rfl⟩
  dsimp only at p0 p1 p1' p2 p3
  obtain ⟨t2, e3, ⟨q1, q1'⟩, q2⟩ := lpU (fun n x s => mX5_spreads_L138 n x s) c (fun i t => ((∀ a b, a ≠ 46 → a ≠ 47 → t.1 a b = t1.1 a b) ∧ t.2 = σ.2) ∧ ∀ j, j < 8 → (t.1 46 j = if j < i then τ.1 6 j + SD τ 6 c j else τ.1 6 j) ∧ (t.1 47 j = if j < i then τ.1 7 j + SD τ 7 c j else τ.1 7 j)) (fun t => ((∀ a b, a ≠ 46 → a ≠ 47 → t.1 a b = t1.1 a b) ∧ t.2 = σ.2) ∧ ∀ j, j < 8 → (t.1 46 j = if j < c then τ.1 6 j + SD τ 6 c j else τ.1 6 j) ∧ (t.1 47 j = if j < c then τ.1 7 j + SD τ 7 c j else τ.1 7 j))
    (fun n t ht => ⟨t, by simp only [mX5_spreads_L138]; rw [ht.1.1 61 0 (by omega) (by omega), p1 61 0 (by omega) (by omega) (by omega), hv.1, if_pos (nI_le (Nat.le_refl _) (by omega))], ht⟩)
    (fun n i t hi ht => by
      have y1 : t.1 46 i = τ.1 6 i := by rw [(ht.2 i (by omega)).1, if_neg (by omega)]
      have y2 : t.1 47 i = τ.1 7 i := by rw [(ht.2 i (by omega)).2, if_neg (by omega)]
      have y3 : t.1 51 i = SD τ 6 c i := by rw [ht.1.1 51 i (by omega) (by omega)]; exact (p2 i hi).1
      have y4 : t.1 52 i = SD τ 7 c i := by rw [ht.1.1 52 i (by omega) (by omega)]; exact (p2 i hi).2
      refine ⟨fm_wr (fm_wr t 46 i (τ.1 6 i + SD τ 6 c i)) 47 i (τ.1 7 i + SD τ 7 c i), ?_, ⟨fun a b h1 h2 => by rw [wrN _ _ (by omega), wrN _ _ (by omega)]; exact ht.1.1 a b h1 h2, ht.1.2⟩, fun j hj => ?_⟩
      · simp only [mX5_spreads_L138]
        rw [ht.1.1 61 0 (by omega) (by omega), p1 61 0 (by omega) (by omega) (by omega), hv.1, if_neg (nI_ge hi (by omega))]
        simp only [chk8 (show i < 8 by omega) (by decide), if_false]
        simp only [rIn _ _ (show i < 2 ^ 31 by omega), sIn _ _ _ (show i < 2 ^ 31 by omega), nI_1]
        simp [wrD, y1, y2, y3, y4]
      · by_cases e : j = i
        · subst e
          rw [if_pos (by omega), if_pos (by omega)]
          exact ⟨by rw [wrN _ _ (by omega), wrS], wrS _ _ _ _⟩
        · rw [wrN _ _ (by omega), wrN _ _ (by omega), wrN _ _ (by omega), wrN _ _ (by omega)]
          obtain ⟨w1, w2⟩ := ht.2 j hj
          rw [w1, w2]
          by_cases q : j < i
          · rw [if_pos q, if_pos q, if_pos (by omega), if_pos (by omega)]; exact ⟨rfl, rfl⟩
          · rw [if_neg q, if_neg q, if_neg (by omega), if_neg (by omega)]; exact ⟨rfl, rfl⟩)
    fF 0 t1 (Nat.zero_le _) (by unfold fF; omega) ⟨⟨fun _ _ _ _ => rfl, p1'⟩, fun j hj => by
      rw [if_neg (by omega), if_neg (by omega), p1 46 j (by omega) (by omega) (by omega), p1 47 j (by omega) (by omega) (by omega)]
      exact ⟨v6 j hj, v7 j hj⟩⟩
  refine ⟨t2, ?_, fun a b h1 h2 h3 h4 h5 => by rw [q1 a b h3 h4]; exact p1 a b h1 h2 h5, q1', fun i hi => (q2 i hi).1, fun i hi => (q2 i hi).2, fun i hi => by rw [q1 48 i (by omega) (by omega)]; exact p3 i hi⟩
  rw [mX5_spreads]
  have e0 : mX5_spreads_L4 fF 0 σ = some s0 := e0
  have e2 : mX5_spreads_L34 fF 0 0 s0 = some (n1, t1) := e2
  have e3 : mX5_spreads_L138 fF 0 t1 = some t2 := e3
  rw [e0, b1s, e2, b2s, e3, b1s, p0]
end LVN
