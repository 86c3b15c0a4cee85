section PVZ
theorem ex_al {τ τ' : fm_S} (h : alike τ τ') {i j : Nat} (hi : i < 8) : ex τ' i j = ex τ i j := by
  unfold ex
  rw [lk_of h i j, sq_of h i j, h (10 + i) j (by omega)]
theorem smq_al {τ τ' : fm_S} (h : alike τ τ') {q i : Nat} (hq : q < 20) (hi : i < 8) : ∀ n, smq τ' q i n = smq τ q i n
  | 0 => rfl
  | n + 1 => by rw [smq, smq, smq_al h hq hi n, ex_al h hi, h q i (by omega), h q n (by omega)]
theorem nw_al {τ τ' : fm_S} (h : alike τ τ') {c q i : Nat} (hq : q < 20) (hi : i < 8) : nw τ' c q i = nw τ c q i := by
  unfold nw
  rw [smq_al h hq hi, h q i (by omega)]
theorem er_al {τ τ' : fm_S} (h : alike τ τ') : er τ' = er τ := by
  unfold er
  exact rs_congr 8 (fun i hi => rs_congr i (fun j hj => by rw [ex_al h hi]))
theorem step_al {τ τ' : fm_S} {c : Nat} (h : alike τ τ') (hw : WF τ c) (hw' : WF τ' c) : ∀ k, alike (Tc mX4_stepTogether τ k) (Tc mX4_stepTogether τ' k) := by
  have hc := hw.1
  intro k
  induction k with
  | zero => exact h
  | succ k ih =>
    obtain ⟨w, e, -⟩ := Tc_wf hw k
    obtain ⟨w', e', -⟩ := Tc_wf hw' k
    obtain ⟨t, a1, a2, a3⟩ := cl_round w
    obtain ⟨t', b1, b2, b3⟩ := cl_round w'
    have et : Tc mX4_stepTogether τ (k + 1) = t := Option.some.inj (e.symm.trans a1)
    have et' : Tc mX4_stepTogether τ' (k + 1) = t' := Option.some.inj (e'.symm.trans b1)
    rw [et, et']
    intro a b hab
    by_cases h1 : a = 1
    · subst h1
      rw [(a3 b).1, (b3 b).1]
      by_cases q : b < c
      · rw [if_pos q, if_pos q, nw_al ih (by omega) (by omega)]
      · rw [if_neg q, if_neg q]; exact ih 1 b (by omega)
    · by_cases h2 : a = 2
      · subst h2
        rw [(a3 b).2, (b3 b).2]
        by_cases q : b < c
        · rw [if_pos q, if_pos q, nw_al ih (by omega) (by omega)]
        · rw [if_neg q, if_neg q]; exact ih 2 b (by omega)
      · rw [a2 a b (by omega) h1 h2, b2 a b (by omega) h1 h2]; exact ih a b hab
theorem k_settleC {τ τd : fm_S} {c r : Nat} (hw : WF τ c) (hal : alike τ τd) (wd : WF τd c) (h1 : 1 ≤ r) (h2 : r ≤ 50) : ∃ τ', mX4_settle (nI r) τ = some (er (Tc mX4_stepTogether τd r), τ') ∧ (∀ a b, ¬ (20 ≤ a ∧ a < 40) → a ≠ 1 → a ≠ 2 → τ'.1 a b = τ.1 a b) ∧ alike (Tc mX4_stepTogether τd r) τ' := by
  obtain ⟨t, c1, c2⟩ := lpU (fun n x2 (s : fm_S) => mX4_settle_L6 n (nI r) x2 s) r (fun i s => s = Tc mX4_stepTogether τ i) (fun s => s = Tc mX4_stepTogether τ r)
    (fun n s hs => ⟨s, by simp only [mX4_settle_L6]; rw [if_pos (nI_le (Nat.le_refl _) (by omega))], hs⟩)
    (fun n i s hi hs => ⟨_, by
      simp only [mX4_settle_L6]
      rw [if_neg (nI_ge hi (by omega)), hs, (Tc_wf hw i).2.1, b1s, nI_1], rfl⟩)
    fF 0 τ (Nat.zero_le _) (by unfold fF; omega) rfl
  have c1 : mX4_settle_L6 fF (nI r) 0 τ = some t := c1
  subst c2
  obtain ⟨wr, -, fr⟩ := Tc_wf hw r
  obtain ⟨τe, d1, d2⟩ := k_errorC wr
  have al := step_al hal hw wd r
  have al' : alike (Tc mX4_stepTogether τd r) (Tc mX4_stepTogether τ r) := fun a b hab => (al a b hab).symm
  refine ⟨τe, ?_, fun a b h3 h4 h5 => ?_, fun a b hab => ?_⟩
  · rw [mX4_settle, k_win1 h1 h2, b1s, c1, b1s, d1, b2s, er_al al']
  · rw [d2 a b h3]; exact fr a b h3 h4 h5
  · rw [d2 a b (by omega)]; exact al' a b hab
end PVZ
