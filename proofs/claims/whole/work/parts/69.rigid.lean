section LVBE
theorem gMax_len {P : Nat × Nat → Prop} {I : List (Nat × Nat)} (h : gMax P I) : I.length + 3 ≤ 16 := by
  have h2 : gSz (fun _ => true) = 8 := by decide
  have := h.1 (fun _ => true) (by omega)
  have e : gCn (fun _ => true) I = I.length := by
    unfold gCn
    rw [List.countP_eq_length]
    intro e _; rfl
  omega
theorem c_isRigid {τ : fm_S} (h : RR τ) : ON (mX4_isRigid τ) mX5_isRigid := by
  obtain ⟨c, hw, hv⟩ := h
  obtain ⟨τ1, e1, r1, n1⟩ := k_draw hw
  have s1 : scr τ τ1 := scr.row r1 (by decide)
  have he : ∀ a b, a < 20 ∨ a = 60 → τ1.1 a b = τ.1 a b := fun a b hab => s1 a b (by omega)
  obtain ⟨y, e2, y1, y2⟩ := k_upSet hw he
  have e3 := q_cnt y1
  rw [cn8_congr y2] at e3
  have u8 := cn8_le (up τ)
  have e4 := k_countC hw n1 he
  obtain ⟨τ2, I, e5, r2, g2⟩ := k_pebblesC (fun i hi j hj => lk_symm hw hi hj) n1
  have s1' : scr τ τ2 := s1.trans r2.scr
  have m1 := msc.last τ1 0
  have m2 := msc.last τ2 0
  have ou : ∀ σ, mX5_isRigid σ = mX5_isRigid σ := fun _ => rfl
  by_cases q1 : cn8 (up τ) < 2
  · have l1 : nI (cn8 (up τ)) < (2 : Int32) := nI_lt (b := 2) q1 (by decide)
    refine ⟨0, τ1, fm_wr τ1 61 2 0, ?_, ?_, ro hw hv s1 m1⟩
    · rw [mX4_isRigid, e1, b1s, e2, b1s, e3, b1s, if_pos l1]
    · rw [mX5_isRigid, k_countM hw (m1.mv (s1.mv hv)), b1s]
      by_cases q2 : gc τ c = 1
      · rw [if_pos q2, k_countUp hw (m1.mv (s1.mv hv)), b1s, if_pos l1]
      · rw [if_neg q2]
  · have l1 : ¬ nI (cn8 (up τ)) < (2 : Int32) := nI_nlt (b := 2) (by omega) (by omega)
    by_cases q2 : gc τ c = 1
    · obtain ⟨σ', J, f3, s3, g3⟩ := k_ranksM hw (m2.mv (s1'.mv hv)) hx_none
      have hl : I.length = J.length := gMax_eq (P_ok τ) g2 (gMax_iff g3 (fun e => (P_same τ e).symm))
      have mv3 := s3.mv (m2.mv (s1'.mv hv))
      refine ⟨if nI I.length = 2 * nI (cn8 (up τ)) - 3 then 1 else 0, τ2, σ', ?_, ?_, ro hw hv s1' (m2.trans s3)⟩
      · rw [mX4_isRigid, e1, b1s, e2, b1s, e3, b1s, if_neg l1, e4, b1s, if_pos q2, e5, b2s]
        by_cases q3 : nI I.length = 2 * nI (cn8 (up τ)) - 3
        · rw [if_pos q3, if_pos q3]
        · rw [if_neg q3, if_neg q3]
      · rw [mX5_isRigid, k_countM hw (m2.mv (s1'.mv hv)), b1s, if_pos q2, k_countUp hw (m2.mv (s1'.mv hv)), b1s, if_neg l1, f3, b2s, k_countUp hw mv3, b1s, ← hl]
        by_cases q3 : nI I.length = 2 * nI (cn8 (up τ)) - 3
        · rw [if_pos q3, if_pos q3]
        · rw [if_neg q3, if_neg q3]
    · refine ⟨0, τ1, fm_wr τ1 61 2 0, ?_, ?_, ro hw hv s1 m1⟩
      · rw [mX4_isRigid, e1, b1s, e2, b1s, e3, b1s, if_neg l1, e4, b1s, if_neg q2]
      · rw [mX5_isRigid, k_countM hw (m1.mv (s1.mv hv)), b1s, if_neg q2]
end LVBE
