section PVK
def lo (m : Nat) : Nat := ((List.range 8).find? m.testBit).getD 0
theorem q_lo : ∀ m, m < 256 → m ≠ 0 → mJ6_numberOfTrailingZeros_0f7a4 (nI m) = some (nI (lo m)) ∧ lo m < 8 ∧ m.testBit (lo m) = true ∧ ∀ j, j < 8 → j < lo m → m.testBit j = false := by decide +kernel
theorem cnt_less {P Q : Nat → Bool} {t : Nat} (hP : P t = true) (h : ∀ j, j < 8 → Q j = (P j && !(j == t))) : ∀ n, n ≤ 8 → cnt P n = cnt Q n + if t < n then 1 else 0 := by
  intro n
  induction n with
  | zero => intro _; rfl
  | succ n ih =>
    intro hn
    have := ih (by omega)
    rw [cnt, cnt, h n (by omega), this]
    by_cases e : n = t
    · subst e; rw [hP, if_neg (by omega), if_pos (by omega)]; simp
    · have e2 : (n == t) = false := by simp [e]
      rw [e2]
      by_cases q : t < n
      · rw [if_pos q, if_pos (by omega)]; simp; omega
      · rw [if_neg q, if_neg (by omega)]; simp
/-- all that are up are in one group -/
def one (τ : fm_S) : Prop := ∀ x y, x < 8 → y < 8 → up τ x = true → up τ y = true → Gr τ x y
theorem k_treesC {τ : fm_S} {c : Nat} (hw : WF τ c) : ∃ v s3, mX4_trees τ = some (v, s3) ∧ scr τ s3 ∧ ((∀ z, z < 8 → up τ z = false) → v = 0) ∧ ((∃ z, z < 8 ∧ up τ z = true) → (one τ → v = lI (dd (lA τ (cnt (up τ) 8 - 1) (fun i => nth (up τ) (fU (cnt (up τ) 8 - 1) i))) (cnt (up τ) 8 - 1))) ∧ (¬ one τ → v = 0)) := by
  have hc := hw.1
  obtain ⟨τ1, e1, r1, n1⟩ := k_draw hw
  have s1 : scr τ τ1 := scr.row r1 (by decide)
  have he : ∀ a b, a < 20 ∨ a = 60 → τ1.1 a b = τ.1 a b := fun a b hab => s1 a b (by omega)
  obtain ⟨y, e2, y1, y2⟩ := k_upSet hw he
  by_cases hex : ∃ z, z < 8 ∧ up τ z = true
  · obtain ⟨z, hz, uz⟩ := hex
    obtain ⟨m, hm, rfl⟩ := y1
    have hm0 : m ≠ 0 := fun q => by
      subst q
      have := y2 z hz
      rw [uz, mkn (by omega), Nat.zero_testBit] at this
      cases this
    obtain ⟨l1, l2, l3, l4⟩ := q_lo m hm hm0
    have ym : ∀ j, j < 8 → m.testBit j = up τ j := fun j hj => by rw [← y2 j hj, mkn (by omega)]
    obtain ⟨x, w1, w2, w3⟩ := q_without (x := nI m) ⟨m, hm, rfl⟩ l2
    have w3 : ∀ j, j < 8 → mk x j = (up τ j && !(j == lo m)) := fun j hj => by rw [w3 j hj, y2 j hj]
    have ut : up τ (lo m) = true := by rw [← ym _ l2]; exact l3
    have ct := cnt_less ut w3
    have c8 := ct 8 (Nat.le_refl _)
    rw [if_pos l2] at c8
    have cle := cnt_le (up τ) 8
    obtain ⟨N, hN⟩ : ∃ N, N = cnt (mk x) 8 := ⟨_, rfl⟩
    rw [← hN] at c8
    have hN7 : N ≤ 7 := by omega
    obtain ⟨s2, e3, f3, g3⟩ := k_fillC n1 w2
    rw [← hN] at e3
    have nu := NU_nth c8
    have nf := NU_fU nu
    have bl : BL (vC s2) (lA τ N (fun i => nth (up τ) (fU N i))) N 0 := fun i j _ hi _ hj => by
      have at' : ∀ i, i < N → nth (up τ) (fU N i) < 8 ∧ mk x (nth (up τ) (fU N i)) = true ∧ cnt (mk x) (nth (up τ) (fU N i)) = i := fun i hi => by
        have ef : fU N i = i + 1 := by unfold fU; rw [if_neg (by omega)]
        rw [ef]
        obtain ⟨a1, a2, a3⟩ := nth_s (P := up τ) (a := i + 1) (by omega)
        have c0 : cnt (up τ) (lo m) = 0 := by
          refine Classical.byContradiction fun q => ?_
          obtain ⟨j, j1, j2, j3⟩ := nth_ex (up τ) (lo m) 0 (by omega)
          rw [← ym j (by omega), l4 j (by omega) j1] at j2; cases j2
        have gt : lo m < nth (up τ) (i + 1) := by
          refine Classical.byContradiction fun q => ?_
          have := cnt_mn (P := up τ) (show nth (up τ) (i + 1) ≤ lo m by omega)
          omega
        have := ct (nth (up τ) (i + 1)) (by omega)
        rw [if_pos gt] at this
        refine ⟨a1, ?_, by omega⟩
        rw [w3 _ a1, a2]
        have : (nth (up τ) (i + 1) == lo m) = false := by simp; omega
        rw [this] <;> rfl
      obtain ⟨a1, a2, a3⟩ := at' i hi
      obtain ⟨b1, b2, b3⟩ := at' j hj
      have := g3 _ a1 _ b1 a2 b2
      rw [a3, b3] at this
      rw [dM_0, lA_in (by omega) (by omega)]
      exact this
    obtain ⟨v, s3, e4, f4, g4⟩ := k_detC hN7 (lA_le nf) bl
    have cl : mX4_trees τ = some (v, s3) := by
      have ny : ¬ nI m = 0 := nI_ne0 (by omega) (by omega)
      rw [mX4_trees, e1, b1s, e2, b1s, mX3_treesOf, if_neg ny, l1, b1s, w1, b1s, e3, b2s, e4, b2s, b2s]
    have s3' : scr τ s3 := fun a b hab => by rw [f4, f3]; exact s1 a b hab
    refine ⟨v, s3, cl, s3', fun h => ?_, fun _ => ⟨fun hG => ?_, fun hG => ?_⟩⟩
    · rw [h z hz] at uz; cases uz
    · rw [show cnt (up τ) 8 - 1 = N by omega]
      rcases g4 with ⟨_, k, k1, k2⟩ | ⟨q, _⟩
      · have : 0 < dM (lA τ N (fun i => nth (up τ) (fU N i))) k k k := lPivots (fun i hi => lA_row nf (by omega)) (lA_np nf) (lA_conn nf hG) k1
        omega
      · exact q
    · rcases g4 with ⟨q, _⟩ | ⟨_, q⟩
      · exact q
      · refine absurd ?_ hG
        intro a b ha hb ua ub
        refine Classical.byContradiction fun w => ?_
        obtain ⟨k, k1, k2⟩ := lA_broken hw nf ha hb ua ub w
        exact q k k1 k2
  · have hy0 : y = 0 := m8_ext y1 m80 (fun j hj => by
      rw [y2 j hj, mk0]
      cases q : up τ j
      · rfl
      · exact absurd ⟨j, hj, q⟩ hex)
    refine ⟨0, τ1, ?_, s1, fun _ => rfl, fun h => absurd h hex⟩
    rw [mX4_trees, e1, b1s, e2, b1s, mX3_treesOf, hy0, if_pos rfl, b2s]
/-- the members up, as bits -/
def UK (τ : fm_S) (c : Nat) : Nat := msk (up τ) c
theorem UK_lt {τ : fm_S} {c : Nat} (hc : c ≤ 5) : UK τ c < 32 := Nat.lt_of_lt_of_le (msk_lt _ _) (Nat.pow_le_pow_right (n := 2) (by decide) hc)
theorem UK_tb {τ : fm_S} {c : Nat} (hw : WF τ c) {j : Nat} (hj : j < 8) : (UK τ c).testBit j = up τ j := by
  unfold UK
  rw [msk_tb]
  by_cases h : j < c
  · simp [h]
  · rw [up_hi hw (by omega) hj]; simp
theorem UK_0 {τ : fm_S} {c : Nat} (hw : WF τ c) : UK τ c = 0 ↔ ∀ z, z < 8 → up τ z = false := by
  constructor
  · intro h z hz
    rw [← UK_tb hw hz, h, Nat.zero_testBit]
  · intro h
    have hc := hw.1
    exact (msk_0 c).mpr (fun j hj => h j (by omega))
theorem LK_PU {τ : fm_S} {c : Nat} (hw : WF τ c) : LK τ c &&& PU (UK τ c) = LK τ c := sb_of fun j hj => by
  unfold LK at hj
  rw [msk_tb] at hj
  unfold PU
  rw [msk_tb]
  simp only [lq, Bool.and_eq_true] at hj ⊢
  obtain ⟨a1, a2⟩ := lk_up hj.2.2
  have : j < 25 := by simpa using hj.1
  rw [UK_tb hw (by omega), UK_tb hw (by omega)]
  exact ⟨hj.1, hj.2.1.1, a1, a2⟩
/-- the law's question whether all are joined -/
theorem whole_one {τ : fm_S} {c : Nat} (hw : WF τ c) (hc : c ≤ 5) (h0 : UK τ c ≠ 0) : gN (LK τ c) (loU (UK τ c)) = UK τ c ↔ one τ := by
  obtain ⟨-, -, l3⟩ := q_lo5 _ (UK_lt (τ := τ) hc)
  obtain ⟨l4, l5⟩ := l3 h0
  have ul : up τ (loU (UK τ c)) = true := by rw [← UK_tb hw (by omega)]; exact l5
  have hlc : loU (UK τ c) < c := by
    apply Classical.byContradiction; intro hn
    rw [up_hi hw (by omega) (by omega)] at ul; cases ul
  constructor
  · intro h x y hx hy ux uy
    have g : ∀ x, x < 8 → up τ x = true → Gr τ (loU (UK τ c)) x := fun x hx ux => by
      rw [← gN_Gr hw hc hlc hx, h, UK_tb hw hx]; exact ux
    exact Gr_trans (Gr_symm hw (g x hx ux)) (g y hy uy)
  · intro h
    apply Nat.eq_of_testBit_eq
    intro j
    by_cases hj : j < 8
    · rw [UK_tb hw hj]
      cases hu : up τ j
      · cases hg : (gN (LK τ c) (loU (UK τ c))).testBit j
        · rfl
        · have := (gN_Gr hw hc hlc hj).mp hg
          rcases Gr_up this with q | q
          · rw [q, ul] at hu; cases hu
          · unfold up at hu
            simp at hu; exact absurd hu q
      · exact (gN_Gr hw hc hlc hj).mpr (h _ _ (by omega) hj ul hu)
    · rw [Nat.testBit_lt_two_pow (Nat.lt_of_lt_of_le (gN_lt _ l4) (Nat.pow_le_pow_right (n := 2) (by decide) (show 5 ≤ j by omega))), Nat.testBit_lt_two_pow (Nat.lt_of_lt_of_le (UK_lt (τ := τ) hc) (Nat.pow_le_pow_right (n := 2) (by decide) (show 5 ≤ j by omega)))]
theorem q_nth : ∀ U, U < 32 → ∀ a, a < 5 → a < cnt U.testBit 5 → nthC U a < 5 ∧ U.testBit (nthC U a) = true ∧ cnt U.testBit (nthC U a) = a := by decide +kernel
theorem c2_at {U G : Nat} (hU : U < 32) (h0 : U ≠ 0) (hs : G &&& PU U = G) (hw : gN G (loU U) = U) : dd (AUG U G) (cnt U.testBit 5 - 1) = if cnt U.testBit 5 = 1 then 1 else (tv U G : Int) := by
  have h : allS (c2 U) (PU U) 1100 (PU U) = true := by
    by_cases q : U < 31
    · rcases t_det U q with h | h
      · exact absurd h h0
      · exact h
    · have : U = 31 := by omega
      subst this; exact t_det31
  have := allS_at 1100 (PU U) (msk_lt _ _) (Nat.and_self _) h G hs (sb_le hs)
  unfold c2 at this
  rw [hw] at this
  simpa using this
theorem up_cnt {τ : fm_S} {c : Nat} (hw : WF τ c) (hc : c ≤ 5) : cnt (up τ) 8 = cnt (UK τ c).testBit 5 := by
  rw [← cnt8_5 (UK_lt hc)]
  exact cnt_congr 8 (fun j hj => (UK_tb hw hj).symm)
theorem lA_AUG {τ : fm_S} {c : Nat} (hw : WF τ c) (hc : c ≤ 5) (h0 : UK τ c ≠ 0) : lA τ (cnt (up τ) 8 - 1) (fun i => nth (up τ) (fU (cnt (up τ) 8 - 1) i)) = AUG (UK τ c) (LK τ c) := by
  rw [up_cnt hw hc]
  have hU := UK_lt (τ := τ) hc
  have hc1 : 1 ≤ cnt (UK τ c).testBit 5 := by
    have hd : ∀ U, U < 32 → U ≠ 0 → 1 ≤ cnt U.testBit 5 := by decide
    exact hd _ hU h0
  have hc5 := cnt_le (UK τ c).testBit 5
  have hn : ∀ i, i ≤ cnt (UK τ c).testBit 5 - 1 → nth (up τ) (fU (cnt (UK τ c).testBit 5 - 1) i) = nthC (UK τ c) (fU (cnt (UK τ c).testBit 5 - 1) i) ∧ nthC (UK τ c) (fU (cnt (UK τ c).testBit 5 - 1) i) < 5 := fun i hi => by
    have hf : fU (cnt (UK τ c).testBit 5 - 1) i < cnt (UK τ c).testBit 5 := by
      unfold fU; split <;> omega
    obtain ⟨a1, a2, a3⟩ := q_nth _ hU _ (by omega) hf
    refine ⟨?_, a1⟩
    have e : cnt (up τ) (nthC (UK τ c) (fU (cnt (UK τ c).testBit 5 - 1) i)) = fU (cnt (UK τ c).testBit 5 - 1) i := by
      exact (cnt_congr _ (fun j hj => (UK_tb hw (by omega)).symm)).trans a3
    have := nth_c (P := up τ) (j := nthC (UK τ c) (fU (cnt (UK τ c).testBit 5 - 1) i)) (by omega) (by rw [← UK_tb hw (by omega)]; exact a2)
    rw [e] at this
    exact this
  funext i j
  unfold lA AUG
  by_cases q : i ≤ cnt (UK τ c).testBit 5 - 1 ∧ j ≤ cnt (UK τ c).testBit 5 - 1
  · rw [if_pos q, if_pos q]
    obtain ⟨x1, x2⟩ := hn i q.1
    obtain ⟨y1, y2⟩ := hn j q.2
    simp only [x1, y1]
    generalize nthC (UK τ c) (fU (cnt (UK τ c).testBit 5 - 1) i) = a at x2
    generalize nthC (UK τ c) (fU (cnt (UK τ c).testBit 5 - 1) j) = b at y2
    unfold eL eUG
    by_cases e : a = b
    · rw [if_pos e, if_pos e]
      have : deg τ a = degG (LK τ c) a := by
        unfold deg degG
        rw [← cnt8, cnt_hi (c := 5) (fun j h1 h2 => by rw [lk_symm hw (by omega) h2]; exact lk_hi hw h2 (by omega)) 8 (by omega) (by omega)]
        refine cnt_congr 5 (fun j hj => ?_)
        by_cases ea : a = j
        · subst ea; simp [lk_self]
        · rw [LK_pr hw hc (by omega) hj ea]; simp [ea]
      rw [this]
    · rw [if_neg e, if_neg e, LK_pr hw hc x2 y2 e]
  · rw [if_neg q, if_neg q]
end PVK
