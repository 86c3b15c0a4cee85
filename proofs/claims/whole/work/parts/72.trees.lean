section LVBL
def lo (m : Nat) : Nat := ((List.range 8).find? m.testBit).getD 0
theorem q_lo : ∀ m, m < 256 → m ≠ 0 → mJ6_numberOfTrailingZeros_0f7a4 (nI m) = some (nI (lo m)) ∧ lo m < 8 ∧ m.testBit (lo m) = true ∧ ∀ j, j < 8 → j < lo m → m.testBit j = false := by decide +kernel
theorem cnt_less {P Q : Nat → Bool} {t : Nat} (hP : P t = true) (h : ∀ j, j < 8 → Q j = (P j && !(j == t))) : ∀ n, n ≤ 8 → cnt P n = cnt Q n + if t < n then 1 else 0 := by
  intro n
  induction n with
  | zero => intro _; rfl
  | succ n ih =>
    intro hn
    have := ih (by omega)
    rw [cnt, cnt, h n (by omega), this]
    by_cases e : n = t
    · subst e; rw [hP, if_neg (by omega), if_pos (by omega)]; simp
    · have e2 : (n == t) = false := by simp [e]
      rw [e2]
      by_cases q : t < n
      · rw [if_pos q, if_pos (by omega)]; simp; omega
      · rw [if_neg q, if_neg (by omega)]; simp
set_option maxHeartbeats 1000000 in
theorem c_trees {τ : fm_S} (h : RR τ) : OT τ := by
  obtain ⟨c, hw, hv⟩ := h
  have hc := hw.1
  obtain ⟨τ1, e1, r1, n1⟩ := k_draw hw
  have s1 : scr τ τ1 := scr.row r1 (by decide)
  have he : ∀ a b, a < 20 ∨ a = 60 → τ1.1 a b = τ.1 a b := fun a b hab => s1 a b (by omega)
  obtain ⟨y, e2, y1, y2⟩ := k_upSet hw he
  by_cases hex : ∃ z, z < 8 ∧ up τ z = true
  · obtain ⟨z, hz, uz⟩ := hex
    obtain ⟨m, hm, rfl⟩ := y1
    have hm0 : m ≠ 0 := fun q => by
      subst q
      have := y2 z hz
      rw [uz, mkn (by omega), Nat.zero_testBit] at this
      cases this
    obtain ⟨l1, l2, l3, l4⟩ := q_lo m hm hm0
    have ym : ∀ j, j < 8 → m.testBit j = up τ j := fun j hj => by rw [← y2 j hj, mkn (by omega)]
    obtain ⟨x, w1, w2, w3⟩ := q_without (x := nI m) ⟨m, hm, rfl⟩ l2
    have w3 : ∀ j, j < 8 → mk x j = (up τ j && !(j == lo m)) := fun j hj => by rw [w3 j hj, y2 j hj]
    have ut : up τ (lo m) = true := by rw [← ym _ l2]; exact l3
    have ct := cnt_less ut w3
    have c8 := ct 8 (Nat.le_refl _)
    rw [if_pos l2] at c8
    have cle := cnt_le (up τ) 8
    obtain ⟨N, hN⟩ : ∃ N, N = cnt (mk x) 8 := ⟨_, rfl⟩
    rw [← hN] at c8
    have hN7 : N ≤ 7 := by omega
    obtain ⟨s2, e3, f3, g3⟩ := k_fillC n1 w2
    rw [← hN] at e3
    have nu := NU_nth c8
    have nf := NU_fU nu
    have bl : BL (vC s2) (lA τ N (fun i => nth (up τ) (fU N i))) N 0 := fun i j _ hi _ hj => by
      have at' : ∀ i, i < N → nth (up τ) (fU N i) < 8 ∧ mk x (nth (up τ) (fU N i)) = true ∧ cnt (mk x) (nth (up τ) (fU N i)) = i := fun i hi => by
        have ef : fU N i = i + 1 := by unfold fU; rw [if_neg (by omega)]
        rw [ef]
        obtain ⟨a1, a2, a3⟩ := nth_s (P := up τ) (a := i + 1) (by omega)
        have c0 : cnt (up τ) (lo m) = 0 := by
          refine Classical.byContradiction fun q => ?_
          obtain ⟨j, j1, j2, j3⟩ := nth_ex (up τ) (lo m) 0 (by omega)
          rw [← ym j (by omega), l4 j (by omega) j1] at j2; cases j2
        have gt : lo m < nth (up τ) (i + 1) := by
          refine Classical.byContradiction fun q => ?_
          have := cnt_mn (P := up τ) (show nth (up τ) (i + 1) ≤ lo m by omega)
          omega
        have := ct (nth (up τ) (i + 1)) (by omega)
        rw [if_pos gt] at this
        refine ⟨a1, ?_, by omega⟩
        rw [w3 _ a1, a2]
        have : (nth (up τ) (i + 1) == lo m) = false := by simp; omega
        rw [this] <;> rfl
      obtain ⟨a1, a2, a3⟩ := at' i hi
      obtain ⟨b1, b2, b3⟩ := at' j hj
      have := g3 _ a1 _ b1 a2 b2
      rw [a3, b3] at this
      rw [dM_0, lA_in (by omega) (by omega)]
      exact this
    obtain ⟨v, s3, e4, f4, g4⟩ := k_detC hN7 (lA_le nf) bl
    have cl : mX4_trees τ = some (v, s3) := by
      have ny : ¬ nI m = 0 := nI_ne0 (by omega) (by omega)
      rw [mX4_trees, e1, b1s, e2, b1s, mX3_treesOf, if_neg ny, l1, b1s, w1, b1s, e3, b2s, e4, b2s, b2s]
    have s3' : scr τ s3 := fun a b hab => by rw [f4, f3]; exact s1 a b hab
    have m1 := msc.last s3 0
    have hv1 := m1.mv (s3'.mv hv)
    by_cases hG : ∀ x y, x < 8 → y < 8 → up τ x = true → up τ y = true → Gr τ x y
    · have g1 := (gc_one hw hz uz).mpr hG
      obtain ⟨s4, e5, r5, z5⟩ := k_listM hw hv1
      have m2 : msc (fm_wr s3 61 2 0) s4 := ⟨fun a b q _ => r5.1 a b (by omega), fun b => by rw [r5.2]⟩
      have hpos : ∀ hh, NU τ N hh → ∀ k, k < N → 0 < dM (lA τ N hh) k k k := fun hh hn k hk => lPivots (fun i hi => lA_row hn (by omega)) (lA_np hn) (lA_conn hn hG) hk
      have hdd : ∀ i, i ≤ N → dd (lA τ N (nth (up τ))) i ≠ 0 := fun i hi => by
        cases i with
        | zero => rw [dd_0]; decide
        | succ i => rw [dd_succ]; have := hpos _ nu i (by omega); omega
      obtain ⟨s5, e6, f6⟩ := k_minorM hw (m2.mv hv1) nu hN7 (fun i hi => z5 i (by omega)) hdd
      have m3 : msc s4 s5 := ⟨fun a b _ _ => by rw [f6.1], f6.2⟩
      have ev : v = lI (dd (lA τ N (nth (up τ))) N) := by
        rcases g4 with ⟨_, k, k1, k2⟩ | ⟨q, _⟩
        · have := hpos _ nf k k1; omega
        · rw [q]
          have a1 := dMinors (B := lA τ N (nth (up τ))) (N := N) (fun i hi => lA_row nu hi) (lA_col hw nu)
          have a2 := dd_up (lA τ N (nth (up τ))) (fU N) N (fun i hi => by unfold fU; rw [if_neg (by omega)])
          have a3 : (fun i j => lA τ N (nth (up τ)) (fU N i) (fU N j)) = lA τ N (fun i => nth (up τ) (fU N i)) := by
            funext i j
            unfold lA
            have hf : ∀ i, fU N i ≤ N ↔ i ≤ N := fun i => by
              unfold fU
              by_cases q : i = N
              · rw [if_pos q]; omega
              · rw [if_neg q]; omega
            by_cases q : i ≤ N ∧ j ≤ N
            · rw [if_pos q, if_pos ⟨(hf i).mpr q.1, (hf j).mpr q.2⟩]
            · rw [if_neg q, if_neg (fun w => q ⟨(hf i).mp w.1, (hf j).mp w.2⟩)]
          rw [a3, a1] at a2
          rw [a2]
      refine ⟨v, s3, s5, cl, ?_, ro hw hv s3' ((m1.trans m2).trans m3)⟩
      rw [mX5_trees, k_countM hw hv1, b1s, if_pos g1, e5, b2s, c8, nI_pred, e6, b2s, ev]
    · have g1 : ¬ gc τ c = 1 := fun q => hG ((gc_one hw hz uz).mp q)
      have ev : v = 0 := by
        rcases g4 with ⟨q, _⟩ | ⟨_, q⟩
        · exact q
        · refine absurd ?_ hG
          intro a b ha hb ua ub
          refine Classical.byContradiction fun w => ?_
          obtain ⟨k, k1, k2⟩ := lA_broken hw nf ha hb ua ub w
          exact q k k1 k2
      refine ⟨v, s3, fm_wr s3 61 2 0, cl, ?_, ro hw hv s3' m1⟩
      rw [mX5_trees, k_countM hw hv1, b1s, if_neg g1, ev]
  · have hy0 : y = 0 := m8_ext y1 m80 (fun j hj => by
      rw [y2 j hj, mk0]
      cases q : up τ j
      · rfl
      · exact absurd ⟨j, hj, q⟩ hex)
    have m1 := msc.last τ1 0
    have g1 : ¬ gc τ c = 1 := fun q => by
      obtain ⟨F, hF, hg⟩ := gc_n τ
      have : cnt F c = 0 := by
        refine Classical.byContradiction fun w => ?_
        obtain ⟨i, i1, i2, i3⟩ := nth_ex F c 0 (by omega)
        exact hex ⟨i, by omega, by unfold up; simpa using ((hF i).mp i2).1⟩
      rw [hg c, this] at q
      exact absurd q (by decide)
    refine ⟨0, τ1, fm_wr τ1 61 2 0, ?_, ?_, ro hw hv s1 m1⟩
    · rw [mX4_trees, e1, b1s, e2, b1s, mX3_treesOf, hy0, if_pos rfl, b2s]
    · rw [mX5_trees, k_countM hw (m1.mv (s1.mv hv)), b1s, if_neg g1]
end LVBL
