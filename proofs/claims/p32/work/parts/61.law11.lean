section PVN
theorem k_areLinkedC {τ : fm_S} {c : Nat} (hw : WF τ c) {i j : Nat} (hi : i < c) (hj : j < c) : mX4_areLinked (nI i) (nI j) τ = some (if lk τ i j then 1 else 0, τ) := by
  have hc := hw.1
  rw [mX4_areLinked, k_reqM hw hi, b1s, k_reqM hw hj, b1s, k_hears hw (by omega) (by omega), b1s, nar01]; simp
theorem k_linksC {τ : fm_S} {c : Nat} (hw : WF τ c) : ∃ τ', mX4_links τ = some (nI (tot τ 8) / 2, τ') ∧ scr τ τ' := by
  obtain ⟨τ1, e1, r1, n1⟩ := k_draw hw
  obtain ⟨t, g1, g2⟩ := lpU (fun n x2 (s : Int32) => mX1_pairCount20_L4 n s x2 τ1) 8 (fun j s => s = nI (tot τ j)) (fun t => t = nI (tot τ 8))
    (fun n s hs => ⟨s, by simp only [mX1_pairCount20_L4]; rw [show (8 : Int32) = nI 8 from rfl, if_pos (nI_le (Nat.le_refl _) (by decide))], hs⟩)
    (fun n j s hj hs => ⟨nI (tot τ (j + 1)), by
      simp only [mX1_pairCount20_L4]
      rw [show (8 : Int32) = nI 8 from rfl, if_neg (nI_ge hj (by decide)), k_degC n1 hj, b1s, hs, nI_add, nI_1]; rfl, rfl⟩)
    fF 0 0 (Nat.zero_le _) (by unfold fF; omega) rfl
  refine ⟨τ1, ?_, scr.row r1 (by decide)⟩
  rw [mX4_links, e1, b1s, mX1_pairCount20]
  have g1 : mX1_pairCount20_L4 fF 0 0 τ1 = some t := g1
  rw [g1, b1s, b1s, g2]
theorem k_degreeC {τ : fm_S} {c : Nat} (hw : WF τ c) {i : Nat} (hi : i < c) : ∃ τ', mX4_degree (nI i) τ = some (nI (deg τ i), τ') ∧ scr τ τ' := by
  have hc := hw.1
  obtain ⟨τ1, e1, r1, n1⟩ := k_draw hw
  refine ⟨τ1, ?_, scr.row r1 (by decide)⟩
  rw [mX4_degree, k_reqM hw hi, b1s, e1, b1s, k_degC n1 (by omega), b1s]; rfl
theorem k_groupsC {τ : fm_S} {c : Nat} (hw : WF τ c) : ∃ τ', mX4_groups τ = some (gc τ c, τ') ∧ scr τ τ' := by
  obtain ⟨τ1, e1, r1, n1⟩ := k_draw hw
  have s1 : scr τ τ1 := scr.row r1 (by decide)
  refine ⟨τ1, ?_, s1⟩
  rw [mX4_groups, e1, b1s, k_countC hw n1 (fun a b hab => s1 a b (by omega)), b1s]
theorem k_xOfC {τ : fm_S} {c : Nat} (hw : WF τ c) {i : Nat} (hi : i < c) : mX4_xOf (nI i) τ = some (τ.1 1 i, τ) ∧ mX4_yOf (nI i) τ = some (τ.1 2 i, τ) ∧ mX4_estimate (nI i) τ = some (τ.1 5 i, τ) ∧ mX4_sum (nI i) τ = some (τ.1 6 i, τ) ∧ mX4_weight (nI i) τ = some (τ.1 7 i, τ) := by
  have hc := hw.1
  refine ⟨?_, ?_, ?_, ?_, ?_⟩
  · rw [mX4_xOf, k_reqM hw hi, b1s]; simp only [chk8 (show i < 8 by omega) (by decide), if_false]; rw [rIn _ _ (by omega)]
  · rw [mX4_yOf, k_reqM hw hi, b1s]; simp only [chk8 (show i < 8 by omega) (by decide), if_false]; rw [rIn _ _ (by omega)]
  · rw [mX4_estimate, k_reqM hw hi, b1s]; simp only [chk8 (show i < 8 by omega) (by decide), if_false]; rw [rIn _ _ (by omega)]
  · rw [mX4_sum, k_reqM hw hi, b1s]; simp only [chk8 (show i < 8 by omega) (by decide), if_false]; rw [rIn _ _ (by omega)]
  · rw [mX4_weight, k_reqM hw hi, b1s]; simp only [chk8 (show i < 8 by omega) (by decide), if_false]; rw [rIn _ _ (by omega)]
theorem Gr_c {τ : fm_S} {c : Nat} (hw : WF τ c) {i j : Nat} (hi : i < c) (h : Gr τ i j) : j < c := by
  have hc := hw.1
  refine h (fun j => j < c) hi (fun a b ha hb hS hl => (lk_lt hw ha hb hl).2.1)
theorem k_leaderC {τ : fm_S} {c : Nat} (hw : WF τ c) {i : Nat} (hi : i < c) : ∃ r τ', mX4_leader (nI i) τ = some (r, τ') ∧ scr τ τ' ∧ ((up τ i = false ∧ r = -1) ∨ (up τ i = true ∧ ∃ q, q < 8 ∧ r = nI q ∧ Ld (fun j => Gr τ i j) (τ.1 4) q)) := by
  have hc := hw.1
  by_cases e : τ.1 3 i = 0
  · refine ⟨-1, τ, ?_, scr.rfl, Or.inl ⟨by simp [up, e], rfl⟩⟩
    rw [mX4_leader, k_reqM hw hi, b1s]
    simp only [chk8 (show i < 8 by omega) (by decide), if_false]
    rw [rIn _ _ (by omega), if_pos e]
  · obtain ⟨τ1, e1, r1, n1⟩ := k_draw hw
    have s1 : scr τ τ1 := scr.row r1 (by decide)
    obtain ⟨y, e2, y1, y2⟩ := k_groupC n1 (show i < 8 by omega)
    obtain ⟨q, q1, q2, q3⟩ := k_ldC hw (fun a b hab => s1 a b (by omega)) y1 hi ((y2 i (by omega)).mpr (Gr_self τ i)) (fun j h1 h2 => by
      cases hm : mk y j
      · rfl
      · have := Gr_c hw hi ((y2 j h2).mp hm); omega)
    refine ⟨nI q, τ1, ?_, s1, Or.inr ⟨by simp [up, e], q, q1, rfl, ?_⟩⟩
    · rw [mX4_leader, k_reqM hw hi, b1s]
      simp only [chk8 (show i < 8 by omega) (by decide), if_false]
      rw [rIn _ _ (by omega), if_neg e, e1, b1s, e2, b1s, q2, b1s]
    · refine ⟨(y2 q q1).mp q3.1.2, fun j hj => q3.2 j ⟨by have := Gr_c hw hi hj; omega, (y2 j (by have := Gr_c hw hi hj; omega)).mpr hj⟩⟩
/-- hands shaken: every link has two ends -/
theorem hands {τ : fm_S} {c : Nat} (hw : WF τ c) (hc : c ≤ 5) : tot τ 8 = 2 * cnt (LK τ c).testBit 25 := by
  have hs : ∀ i j, i < 8 → j < 8 → lk τ i j = lk τ j i := fun i j hi hj => lk_symm hw hi hj
  have h5 : ∀ i j, i < 8 → j < 8 → 5 ≤ j → lk τ i j = false := fun i j hi hj h => by rw [hs i j hi hj]; exact lk_hi hw hj (by omega)
  have h5' : ∀ i j, i < 8 → 5 ≤ i → lk τ i j = false := fun i j hi h => lk_hi hw hi (by omega)
  have hb : ∀ k, k < 25 → (LK τ c).testBit k = (decide (k / 5 < k % 5) && lk τ (k / 5) (k % 5)) := fun k hk => by
    by_cases q : k / 5 < k % 5
    · have := LK_tb hw hc (i := k / 5) (j := k % 5) q (by omega)
      rw [show 5 * (k / 5) + k % 5 = k by omega] at this
      rw [this]; simp [q]
    · cases e : (LK τ c).testBit k
      · simp [q]
      · exact absurd (FU5_tb (sb_tb (LK_FU τ c) e)).1 q
  rw [cnt_congr 25 hb]
  simp only [tot, deg, cn8, cnt]
  have d : ∀ i, lk τ i i = false := lk_self τ
  simp only [d, h5 0 5 (by omega) (by omega) (by omega), h5 0 6 (by omega) (by omega) (by omega), h5 0 7 (by omega) (by omega) (by omega), h5 1 5 (by omega) (by omega) (by omega), h5 1 6 (by omega) (by omega) (by omega), h5 1 7 (by omega) (by omega) (by omega), h5 2 5 (by omega) (by omega) (by omega), h5 2 6 (by omega) (by omega) (by omega), h5 2 7 (by omega) (by omega) (by omega), h5 3 5 (by omega) (by omega) (by omega), h5 3 6 (by omega) (by omega) (by omega), h5 3 7 (by omega) (by omega) (by omega), h5 4 5 (by omega) (by omega) (by omega), h5 4 6 (by omega) (by omega) (by omega), h5 4 7 (by omega) (by omega) (by omega), h5' 5 _ (by omega) (by omega), h5' 6 _ (by omega) (by omega), h5' 7 _ (by omega) (by omega), hs 1 0 (by omega) (by omega), hs 2 0 (by omega) (by omega), hs 3 0 (by omega) (by omega), hs 4 0 (by omega) (by omega), hs 2 1 (by omega) (by omega), hs 3 1 (by omega) (by omega), hs 4 1 (by omega) (by omega), hs 3 2 (by omega) (by omega), hs 4 2 (by omega) (by omega), hs 4 3 (by omega) (by omega)]
  simp
  omega
end PVN
