section PWC
theorem k_within {x lo hi : Int32} (τ : fm_S) (h1 : lo.toInt ≤ x.toInt) (h2 : x.toInt ≤ hi.toInt) : mX4_requireWithin x lo hi τ = some τ := by
  rw [mX4_requireWithin, if_neg (fun q => by have := Int32.lt_iff_toInt_lt.mp q; omega), if_pos (Int32.le_iff_toInt_le.mpr h2)]
theorem k_lit : (-1000 : Int32).toInt = -1000 ∧ (1000 : Int32).toInt = 1000 ∧ (-1000000 : Int32).toInt = -1000000 ∧ (1000000 : Int32).toInt = 1000000 := by decide
theorem k_small {x : Int32} (τ : fm_S) (hx : small x) : mX4_requireWithin x (-1000) 1000 τ = some τ := by
  have := k_lit
  unfold small at hx
  exact k_within τ (by omega) (by omega)
theorem k_place {x y : Int32} (τ : fm_S) (hx : small x) (hy : small y) : mX4_requirePlace x y τ = some τ := by
  rw [mX4_requirePlace, k_small τ hx, b1s, k_small τ hy, b1s]
theorem k_value {x : Int32} (τ : fm_S) (h : x.toInt.natAbs ≤ 1000000) : mX4_requireValue x τ = some τ := by
  have := k_lit
  rw [mX4_requireValue, k_within τ (by omega) (by omega), b1s]
theorem k_moveC {τ : fm_S} {c i : Nat} (hw : WF τ c) (hi : i < c) {x y : Int32} (hx : small x) (hy : small y) : mX4_move (nI i) x y τ = some (fm_wr (fm_wr τ 1 i x) 2 i y) := by
  have hc := hw.1
  rw [mX4_move, k_reqM hw hi, b1s, k_place τ hx hy, b1s]
  simp only [chk8 (show i < 8 by omega) (by decide), if_false]
  rw [sIn _ _ _ (by omega), sIn _ _ _ (by omega)]
theorem k_toggleC {τ : fm_S} {c i : Nat} (hw : WF τ c) (hi : i < c) : mX4_toggle (nI i) τ = some (if τ.1 3 i = 0 then 1 else 0, fm_wr τ 3 i (if τ.1 3 i = 0 then 1 else 0)) := by
  have hc := hw.1
  rw [mX4_toggle, k_reqM hw hi, b1s]
  simp only [chk8 (show i < 8 by omega) (by decide), if_false, rIn _ _ (show i < 2 ^ 31 by omega), sIn _ _ _ (show i < 2 ^ 31 by omega)]
  have n1 : vp_nar .boolean (1 : Int32) = 1 := nar01 true
  have n0 : vp_nar .boolean (0 : Int32) = 0 := nar01 false
  by_cases e : τ.1 3 i = 0
  · rw [if_pos e, if_pos e, b1s, n1, wrS, n1, if_neg (by simp)]
  · rw [if_neg e, if_neg e, b1s, n0, wrS, n0, if_neg (by simp)]
theorem k_prioC {τ : fm_S} {c i : Nat} (hw : WF τ c) (hi : i < c) {v : Nat} (hv : v ≤ 99) : mX4_setPriority (nI i) (nI v) τ = some (τ.1 4 i, fm_wr τ 4 i (nI v)) := by
  have hc := hw.1
  have h1 := nI_toInt (n := v) (by omega)
  rw [mX4_setPriority, k_reqM hw hi, b1s, k_within τ (show (0 : Int32).toInt ≤ (nI v).toInt by rw [h1, show (0 : Int32).toInt = 0 from by decide]; omega) (show (nI v).toInt ≤ (99 : Int32).toInt by rw [h1, show (99 : Int32).toInt = 99 from by decide]; omega), b1s]
  simp only [chk8 (show i < 8 by omega) (by decide), if_false, rIn _ _ (show i < 2 ^ 31 by omega), sIn _ _ _ (show i < 2 ^ 31 by omega)]
theorem k_rangeC {v : Nat} (hv : v ≤ 3000) (τ : fm_S) : mX4_setRange (nI v) τ = some (τ.1 60 1, fm_wr τ 60 1 (nI v)) := by
  have h1 := nI_toInt (n := v) (by omega)
  rw [mX4_setRange, k_within τ (show (0 : Int32).toInt ≤ (nI v).toInt by rw [h1, show (0 : Int32).toInt = 0 from by decide]; omega) (show (nI v).toInt ≤ (3000 : Int32).toInt by rw [h1, show (3000 : Int32).toInt = 3000 from by decide]; omega), b1s]
theorem k_estC {τ : fm_S} {c i : Nat} (hw : WF τ c) (hi : i < c) {v : Int32} (hv : small v) : mX4_setEstimate (nI i) v τ = some (τ.1 5 i, fm_wr τ 5 i v) ∧ mX4_setSum (nI i) v τ = some (τ.1 6 i, fm_wr τ 6 i v) := by
  have hc := hw.1
  unfold small at hv
  constructor
  · rw [mX4_setEstimate, k_reqM hw hi, b1s, k_value τ (by omega), b1s]
    simp only [chk8 (show i < 8 by omega) (by decide), if_false, rIn _ _ (show i < 2 ^ 31 by omega), sIn _ _ _ (show i < 2 ^ 31 by omega)]
  · rw [mX4_setSum, k_reqM hw hi, b1s, k_value τ (by omega), b1s]
    simp only [chk8 (show i < 8 by omega) (by decide), if_false, rIn _ _ (show i < 2 ^ 31 by omega), sIn _ _ _ (show i < 2 ^ 31 by omega)]
theorem k_unlike {τ : fm_S} {c i j : Nat} (hw : WF τ c) (hi : i < c) (hj : j < c) (hij : i ≠ j) : mX4_requireUnlike (nI i) (nI j) τ = some τ := by
  have hc := hw.1
  rw [mX4_requireUnlike, k_reqM hw hi, b1s, k_reqM hw hj, b1s, if_neg (fun q => hij ((nI_eq (by omega) (by omega)).mp q))]
theorem k_blockC {τ : fm_S} {c i j : Nat} (hw : WF τ c) (hi : i < c) (hj : j < c) (hij : i ≠ j) : ∃ τ', mX4_block (nI i) (nI j) τ = some (if mk (τ.1 19 i) j then 0 else 1, τ') ∧ rowE 19 τ τ' ∧ ∀ a, a < 8 → m8 (τ'.1 19 a) ∧ ∀ b, b < 8 → mk (τ'.1 19 a) b = if (a = i ∧ b = j) ∨ (a = j ∧ b = i) then !(mk (τ.1 19 i) j) else mk (τ.1 19 a) b := by
  have hc := hw.1
  obtain ⟨τ', e, r, g⟩ := k_flip (s := τ) (show i < 8 by omega) (show j < 8 by omega) hij hw.2.2.2.2.1 (hw.2.2.2.2.2.1 j (by omega) i (by omega))
  refine ⟨τ', ?_, r, g⟩
  rw [mX4_block, k_unlike hw hi hj hij, b1s, k_joins18 (hw.2.2.2.2.1 i (by omega)) (by omega) (by omega), b1s]
  by_cases hb : mk (τ.1 19 i) j = true
  · rw [if_pos hb] at e
    rw [hb, if_pos rfl, if_neg (by decide), e, b1s, if_pos rfl]
  · rw [if_neg hb] at e
    rw [if_neg hb, if_neg hb, if_pos rfl, e, b1s]
theorem k_wantC {τ : fm_S} {c i j : Nat} (hw : WF τ c) (hi : i < c) (hj : j < c) (hij : i ≠ j) {v : Int32} (hv : v = -1 ∨ ∃ q, 1 ≤ q ∧ q ≤ 9000 ∧ v = nI q) : mX4_want (nI i) (nI j) v τ = some (τ.1 (10 + i) j, fm_wr (fm_wr τ (10 + i) j v) (10 + j) i v) := by
  have hc := hw.1
  have ei : 9 + 1 + (nI i).toNatClampNeg = 10 + i := by rw [nI_clamp (by omega)]
  have ej : 9 + 1 + (nI j).toNatClampNeg = 10 + j := by rw [nI_clamp (by omega)]
  have hm : (if v = (-1 : Int32) then some τ else mb1 (mX4_requireWithin v (1 : Int32) (8000000 : Int32) τ) fun σ15 => some σ15) = some τ := by
    rcases hv with e | ⟨q, q1, q2, e⟩
    · rw [if_pos e]
    · have h1 := nI_toInt (n := q) (by omega)
      have ne : ¬ v = -1 := fun w => by
        have := congrArg Int32.toInt w
        rw [e, h1] at this
        have h2 : (-1 : Int32).toInt = -1 := by decide
        omega
      rw [if_neg ne, e, k_within τ (show (1 : Int32).toInt ≤ (nI q).toInt by rw [h1, show (1 : Int32).toInt = 1 from by decide]; omega) (show (nI q).toInt ≤ (8000000 : Int32).toInt by rw [h1, show (8000000 : Int32).toInt = 8000000 from by decide]; omega), b1s]
  rw [mX4_want, k_unlike hw hi hj hij, b1s]
  show mb1 (if v = (-1 : Int32) then some τ else mb1 (mX4_requireWithin v (1 : Int32) (8000000 : Int32) τ) fun σ15 => some σ15) _ = _
  rw [hm, b1s]
  simp only [chk8 (show i < 8 by omega) (by decide), chk8 (show j < 8 by omega) (by decide), if_false, ei, ej, rIn _ _ (show j < 2 ^ 31 by omega), sIn _ _ _ (show i < 2 ^ 31 by omega), sIn _ _ _ (show j < 2 ^ 31 by omega)]
-- the picture after a deed
theorem GS_move {σ : fm_S} {c i : Nat} (h : GS σ c) (hi : i < c) {x y : Int32} (hx : small x) (hy : small y) : GS (fm_wr (fm_wr (fm_wr (fm_wr σ 40 (8 * i) x) 40 (8 * i + 1) y) 1 i x) 2 i y) c := by
  obtain ⟨hw, hg, hr, hl, hp, hnw, hse, hz⟩ := h
  obtain ⟨σ', hσ⟩ : ∃ s, s = fm_wr (fm_wr (fm_wr (fm_wr σ 40 (8 * i) x) 40 (8 * i + 1) y) 1 i x) 2 i y := ⟨_, rfl⟩
  rw [← hσ]
  have F : ∀ a b, ¬ (a = 40 ∧ (b = 8 * i ∨ b = 8 * i + 1)) → ¬ ((a = 1 ∨ a = 2) ∧ b = i) → σ'.1 a b = σ.1 a b := fun a b q1 q2 => by
    rw [hσ, wrN _ _ (by omega), wrN _ _ (by omega), wrN _ _ (by omega), wrN _ _ (by omega)]
  have v1 : σ'.1 1 i = x := by rw [hσ, wrN _ _ (by omega), wrS]
  have v2 : σ'.1 2 i = y := by rw [hσ, wrS]
  have v3 : σ'.1 40 (8 * i) = x := by rw [hσ, wrN _ _ (by omega), wrN _ _ (by omega), wrN _ _ (by omega), wrS]
  have v4 : σ'.1 40 (8 * i + 1) = y := by rw [hσ, wrN _ _ (by omega), wrN _ _ (by omega), wrS]
  obtain ⟨g1, g2, g3, g4, g5⟩ := hg
  refine ⟨hw.of (fun a b hab => F a b (by omega) (by omega)), ⟨g1, (F 40 40 (by omega) (by omega)).trans g2, by rw [F 40 41 (by omega) (by omega), F 60 1 (by omega) (by omega)]; exact g3, fun k hk => ?_, fun a b hab hb => by rw [F 41 _ (by omega) (by omega), F 19 a (by omega) (by omega)]; exact g5 a b hab hb⟩, hr.of (fun k hk j j1 j2 => F 40 _ (by omega) (by omega)) (fun a k a1 a2 _ => F a k (by omega) (by omega)), hl.of (fun b => F 42 b (by omega) (by omega)) (fun a b _ _ => F a b (by omega) (by omega)), ⟨fun k hk => ?_, fun a b ha hb => by rw [F (10 + a) b (by omega) (by omega)]; exact hp.2 a b ha hb⟩, hnw.of (fun k _ => F 7 k (by omega) (by omega)), hse.of (fun k _ => F 5 k (by omega) (by omega)), ⟨fun k q1 q2 => ?_, fun k q1 q2 => ?_⟩⟩
  · by_cases e : k = i
    · subst e
      rw [v1, v2, v3, v4, F 40 (8 * k + 2) (by omega) (by omega), F 3 k (by omega) (by omega)]
      exact ⟨rfl, rfl, (g4 k hk).2.2⟩
    · rw [F 40 (8 * k) (by omega) (by omega), F 40 (8 * k + 1) (by omega) (by omega), F 40 (8 * k + 2) (by omega) (by omega), F 1 k (by omega) (by omega), F 2 k (by omega) (by omega), F 3 k (by omega) (by omega)]
      exact g4 k hk
  · by_cases e : k = i
    · subst e
      rw [v1, v2]; exact ⟨hx, hy⟩
    · rw [F 1 k (by omega) (by omega), F 2 k (by omega) (by omega)]; exact hp.1 k hk
  · rw [F 4 k (by omega) (by omega), F 5 k (by omega) (by omega), F 6 k (by omega) (by omega)]; exact hz.1 k q1 q2
  · rw [F 40 _ (by omega) (by omega), F 40 _ (by omega) (by omega), F 40 _ (by omega) (by omega), F 40 _ (by omega) (by omega), F 40 _ (by omega) (by omega)]; exact hz.2 k q1 q2
theorem GS_toggle {σ : fm_S} {c i : Nat} (h : GS σ c) (hi : i < c) : GS (fm_wr (fm_wr σ 40 (8 * i + 2) ((1 : Int32) - σ.1 40 (8 * i + 2))) 3 i (if σ.1 3 i = 0 then 1 else 0)) c := by
  obtain ⟨hw, hg, hr, hl, hp, hnw, hse, hz⟩ := h
  obtain ⟨σ', hσ⟩ : ∃ s, s = fm_wr (fm_wr σ 40 (8 * i + 2) ((1 : Int32) - σ.1 40 (8 * i + 2))) 3 i (if σ.1 3 i = 0 then 1 else 0) := ⟨_, rfl⟩
  rw [← hσ]
  have F : ∀ a b, ¬ (a = 40 ∧ b = 8 * i + 2) → ¬ (a = 3 ∧ b = i) → σ'.1 a b = σ.1 a b := fun a b q1 q2 => by
    rw [hσ, wrN _ _ (by omega), wrN _ _ (by omega)]
  have v1 : σ'.1 3 i = if σ.1 3 i = 0 then 1 else 0 := by rw [hσ, wrS]
  have v3 : σ'.1 40 (8 * i + 2) = (1 : Int32) - σ.1 40 (8 * i + 2) := by rw [hσ, wrN _ _ (by omega), wrS]
  obtain ⟨g1, g2, g3, g4, g5⟩ := hg
  obtain ⟨h1, h2, h3, h4, h5, h6, h7, h8⟩ := hw
  refine ⟨⟨h1, (F 60 0 (by omega) (by omega)).trans h2, fun k hk => ?_, fun k q1 q2 => by rw [F 3 k (by omega) (by omega)]; exact h4 k q1 q2, fun k hk => by rw [F 19 k (by omega) (by omega)]; exact h5 k hk, fun a ha b hb => by rw [F 19 a (by omega) (by omega), F 19 b (by omega) (by omega)]; exact h6 a ha b hb, fun a ha b hb => by rw [F (10 + a) b (by omega) (by omega), F (10 + b) a (by omega) (by omega)]; exact h7 a ha b hb, fun k hk => by rw [F 8 k (by omega) (by omega)]; exact h8 k hk⟩, ⟨g1, (F 40 40 (by omega) (by omega)).trans g2, by rw [F 40 41 (by omega) (by omega), F 60 1 (by omega) (by omega)]; exact g3, fun k hk => ?_, fun a b hab hb => by rw [F 41 _ (by omega) (by omega), F 19 a (by omega) (by omega)]; exact g5 a b hab hb⟩, hr.of (fun k hk j j1 j2 => F 40 _ (by omega) (by omega)) (fun a k a1 a2 _ => F a k (by omega) (by omega)), hl.of (fun b => F 42 b (by omega) (by omega)) (fun a b _ _ => F a b (by omega) (by omega)), hp.of (fun k _ => ⟨F 1 k (by omega) (by omega), F 2 k (by omega) (by omega)⟩) (fun a b _ _ => F a b (by omega) (by omega)), hnw.of (fun k _ => F 7 k (by omega) (by omega)), hse.of (fun k _ => F 5 k (by omega) (by omega)), hz.of (fun a k q1 q2 q3 q4 => F a k (by omega) (by omega)) (fun k j q1 q2 q3 => F 40 _ (by omega) (by omega))⟩
  · by_cases e : k = i
    · subst e
      rw [v1]; split
      · exact Or.inr rfl
      · exact Or.inl rfl
    · rw [F 3 k (by omega) (by omega)]; exact h3 k hk
  · by_cases e : k = i
    · subst e
      obtain ⟨y1, y2, y3⟩ := g4 k hk
      rw [v1, v3, F 40 (8 * k) (by omega) (by omega), F 40 (8 * k + 1) (by omega) (by omega), F 1 k (by omega) (by omega), F 2 k (by omega) (by omega)]
      refine ⟨y1, y2, ?_⟩
      rw [y3]
      by_cases z : σ.1 3 k = 0
      · rw [if_pos z]; decide
      · rw [if_neg z]; decide
    · rw [F 40 (8 * k) (by omega) (by omega), F 40 (8 * k + 1) (by omega) (by omega), F 40 (8 * k + 2) (by omega) (by omega), F 1 k (by omega) (by omega), F 2 k (by omega) (by omega), F 3 k (by omega) (by omega)]
      exact g4 k hk
theorem GS_row {σ : fm_S} {c i a : Nat} (h : GS σ c) (hi : i < c) (ha : a = 4 ∨ a = 5 ∨ a = 6) {v : Int32} (hv : a = 5 → small v) : GS (fm_wr (fm_wr σ 40 (8 * i + (a - 1)) v) a i v) c := by
  obtain ⟨hw, hg, hr, hl, hp, hnw, hse, hz⟩ := h
  have hc := hg.1
  obtain ⟨σ', hσ⟩ : ∃ s, s = fm_wr (fm_wr σ 40 (8 * i + (a - 1)) v) a i v := ⟨_, rfl⟩
  rw [← hσ]
  have F : ∀ q b, ¬ (q = 40 ∧ b = 8 * i + (a - 1)) → ¬ (q = a ∧ b = i) → σ'.1 q b = σ.1 q b := fun q b q1 q2 => by
    rw [hσ, wrN _ _ (by omega), wrN _ _ (by omega)]
  have v1 : σ'.1 a i = v := by rw [hσ, wrS]
  have v3 : σ'.1 40 (8 * i + (a - 1)) = v := by rw [hσ, wrN _ _ (by omega), wrS]
  refine ⟨hw.of (fun q b hab => F q b (by omega) (by omega)), hg.of (fun b hb => F 40 b (by omega) (by omega)) (fun b => F 41 b (by omega) (by omega)) (fun q b hab => F q b (by omega) (by omega)), fun k hk => ?_, hl.of (fun b => F 42 b (by omega) (by omega)) (fun q b _ _ => F q b (by omega) (by omega)), hp.of (fun k _ => ⟨F 1 k (by omega) (by omega), F 2 k (by omega) (by omega)⟩) (fun q b _ _ => F q b (by omega) (by omega)), hnw.of (fun k _ => F 7 k (by omega) (by omega)), fun k hk => ?_, hz.of (fun q k q1 q2 q3 q4 => F q k (by omega) (by omega)) (fun k j q1 q2 q3 => F 40 _ (by omega) (by omega))⟩
  · by_cases e : k = i
    · subst e
      obtain ⟨y1, y2, y3, y4, y5⟩ := hr k hk
      have go : ∀ q, 4 ≤ q → q ≤ 8 → q ≠ a → σ'.1 40 (8 * k + (q - 1)) = σ.1 40 (8 * k + (q - 1)) ∧ σ'.1 q k = σ.1 q k := fun q q1 q2 q3 => ⟨F 40 _ (by omega) (by omega), F q k (by omega) (by omega)⟩
      rw [F 40 (8 * k + 6) (by omega) (by omega), F 40 (8 * k + 7) (by omega) (by omega), F 7 k (by omega) (by omega), F 8 k (by omega) (by omega)]
      rcases ha with rfl | rfl | rfl
      · rw [(go 5 (by omega) (by omega) (by omega)).2, (go 6 (by omega) (by omega) (by omega)).2, F 40 (8 * k + 4) (by omega) (by omega), F 40 (8 * k + 5) (by omega) (by omega)]
        exact ⟨v3.trans v1.symm, y2, y3, y4, y5⟩
      · rw [(go 4 (by omega) (by omega) (by omega)).2, (go 6 (by omega) (by omega) (by omega)).2, F 40 (8 * k + 3) (by omega) (by omega), F 40 (8 * k + 5) (by omega) (by omega)]
        exact ⟨y1, v3.trans v1.symm, y3, y4, y5⟩
      · rw [(go 4 (by omega) (by omega) (by omega)).2, (go 5 (by omega) (by omega) (by omega)).2, F 40 (8 * k + 3) (by omega) (by omega), F 40 (8 * k + 4) (by omega) (by omega)]
        exact ⟨y1, y2, v3.trans v1.symm, y4, y5⟩
    · rw [F 40 (8 * k + 3) (by omega) (by omega), F 40 (8 * k + 4) (by omega) (by omega), F 40 (8 * k + 5) (by omega) (by omega), F 40 (8 * k + 6) (by omega) (by omega), F 40 (8 * k + 7) (by omega) (by omega), F 4 k (by omega) (by omega), F 5 k (by omega) (by omega), F 6 k (by omega) (by omega), F 7 k (by omega) (by omega), F 8 k (by omega) (by omega)]
      exact hr k hk
  · by_cases e : k = i ∧ a = 5
    · obtain ⟨e1, e2⟩ := e
      subst e1
      have : σ'.1 5 k = v := by rw [← e2]; exact v1
      rw [this]; exact hv e2
    · rw [F 5 k (by omega) (by omega)]; exact hse k hk
theorem GS_range {σ : fm_S} {c : Nat} (h : GS σ c) (v : Int32) : GS (fm_wr (fm_wr σ 40 41 v) 60 1 v) c := by
  obtain ⟨hw, hg, hr, hl, hp, hnw, hse, hz⟩ := h
  obtain ⟨g1, g2, g3, g4, g5⟩ := hg
  obtain ⟨σ', hσ⟩ : ∃ s, s = fm_wr (fm_wr σ 40 41 v) 60 1 v := ⟨_, rfl⟩
  rw [← hσ]
  have F : ∀ q b, ¬ (q = 40 ∧ b = 41) → ¬ (q = 60 ∧ b = 1) → σ'.1 q b = σ.1 q b := fun q b q1 q2 => by
    rw [hσ, wrN _ _ (by omega), wrN _ _ (by omega)]
  have v1 : σ'.1 60 1 = v := by rw [hσ, wrS]
  have v3 : σ'.1 40 41 = v := by rw [hσ, wrN _ _ (by omega), wrS]
  exact ⟨hw.of (fun q b hab => F q b (by omega) (by omega)), ⟨g1, (F 40 40 (by omega) (by omega)).trans g2, v3.trans v1.symm, fun k hk => by
    rw [F 40 (8 * k) (by omega) (by omega), F 40 (8 * k + 1) (by omega) (by omega), F 40 (8 * k + 2) (by omega) (by omega), F 1 k (by omega) (by omega), F 2 k (by omega) (by omega), F 3 k (by omega) (by omega)]
    exact g4 k hk, fun a b hab hb => by rw [F 41 _ (by omega) (by omega), F 19 a (by omega) (by omega)]; exact g5 a b hab hb⟩, hr.of (fun k hk j j1 j2 => F 40 _ (by omega) (by omega)) (fun a k a1 a2 _ => F a k (by omega) (by omega)), hl.of (fun b => F 42 b (by omega) (by omega)) (fun q b _ _ => F q b (by omega) (by omega)), hp.of (fun k _ => ⟨F 1 k (by omega) (by omega), F 2 k (by omega) (by omega)⟩) (fun q b _ _ => F q b (by omega) (by omega)), hnw.of (fun k _ => F 7 k (by omega) (by omega)), hse.of (fun k _ => F 5 k (by omega) (by omega)), hz.of (fun q k q1 q2 q3 q4 => F q k (by omega) (by omega)) (fun k j q1 q2 q3 => F 40 _ (by omega) (by omega))⟩
end PWC
