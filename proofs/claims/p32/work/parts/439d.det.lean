section LVBH
theorem wlS (σ : fm_S) (q i : Nat) (v : Int64) : (fm_wl σ q i v).2 q i = v := by simp [fm_wl]
theorem wlN (σ : fm_S) {q i a b : Nat} (v : Int64) (h : a ≠ q ∨ b ≠ i) : (fm_wl σ q i v).2 a b = σ.2 a b := by
  have : ¬ (a = q ∧ b = i) := by omega
  simp [fm_wl, this]
theorem wl1 (σ : fm_S) (q i : Nat) (v : Int64) : (fm_wl σ q i v).1 = σ.1 := rfl
theorem rLn (σ : fm_S) (q : Nat) {j : Nat} (h : j < 2 ^ 31) : rL σ q (nI j) = σ.2 q j := by
  unfold rL; rw [nI_clamp h]
theorem sLn (σ : fm_S) (q : Nat) {j : Nat} (v : Int64) (h : j < 2 ^ 31) : sL σ q (nI j) v = fm_wl σ q j v := by
  unfold sL; rw [nI_clamp h]
theorem len32 : ∀ a, a < 8 → fm_len (32 + a) = 8 := by decide
theorem NV.of1 {s s' : fm_S} {L : Nat → Nat → Bool} (h : NV s L) (e : s'.1 = s.1) : NV s' L := fun a ha => by rw [e]; exact h a ha
theorem k_fillRow {τ s : fm_S} (hn : NV s (lk τ)) {x : Int32} (hx : m8 x) {i a : Nat} (hi : i < 8) (ha : a < 8) : ∃ s', mX3_fillRow (32 + a) x (nI i) s = some s' ∧ s'.1 = s.1 ∧ (∀ q b, q ≠ 32 + a → s'.2 q b = s.2 q b) ∧ ∀ j, j < 8 → mk x j = true → s'.2 (32 + a) (cnt (mk x) j) = lI (eL τ i j) := by
  have hlen := len32 a ha
  obtain ⟨⟨y, t⟩, e1, t1, t2, t3⟩ := lpU (fun n x5 (u : Int32 × fm_S) => mX3_fillRow_L6 (32 + a) n x (nI i) u.1 x5 u.2 |>.map (fun z => ((0 : Int32), z))) 8
    (fun j u => u.1 = nI (cnt (mk x) j) ∧ u.2.1 = s.1 ∧ (∀ q b, q ≠ 32 + a → u.2.2 q b = s.2 q b) ∧ ∀ j', j' < j → mk x j' = true → u.2.2 (32 + a) (cnt (mk x) j') = lI (eL τ i j'))
    (fun u => u.2.1 = s.1 ∧ (∀ q b, q ≠ 32 + a → u.2.2 q b = s.2 q b) ∧ ∀ j', j' < 8 → mk x j' = true → u.2.2 (32 + a) (cnt (mk x) j') = lI (eL τ i j'))
    (fun n u hu => ⟨(0, u.2), by simp only [mX3_fillRow_L6]; rw [show (8 : Int32) = nI 8 from rfl, if_pos (nI_le (Nat.le_refl _) (by decide))] <;> rfl, hu.2⟩)
    (fun n j u hj ⟨h1, h2, h3, h4⟩ => by
      have hh := q_holds hx hj
      have hcj : cnt (mk x) j < 8 := by have := cnt_le (mk x) j; omega
      cases z : mk x j
      · rw [z, if_neg (by decide)] at hh
        refine ⟨u, ?_, ?_, h2, h3, fun j' hj' hm => ?_⟩
        · simp only [mX3_fillRow_L6]
          rw [show (8 : Int32) = nI 8 from rfl, if_neg (nI_ge hj (by decide)), hh, b1s, if_pos rfl, nI_1]
        · rw [h1, cnt, z] <;> rfl
        · by_cases e : j' = j
          · rw [e, z] at hm; cases hm
          · exact h4 j' (by omega) hm
      · rw [z, if_pos rfl] at hh
        have hnu : NV u.2 (lk τ) := hn.of1 h2
        have hjn := k_joins20 (hnu i hi).1 hi hj
        rw [(hnu i hi).2 j hj] at hjn
        have e0 : (if (if lk τ i j = true then (1 : Int32) else 0) = 0 then some ((0 : Int64)) else some ((-1 : Int64))) = some (lI (if lk τ i j = true then -1 else 0)) := by
          cases lk τ i j
          · show some (0 : Int64) = some (lI 0); rw [lI_0]
          · show some (-1 : Int64) = some (lI (-1)); rw [lI_m]
        have e1 : cnt (mk x) (j + 1) = cnt (mk x) j + 1 := by rw [cnt, z] <;> rfl
        have old : ∀ j', j' < j → mk x j' = true → cnt (mk x) j' ≠ cnt (mk x) j := fun j' h hm => by have := cnt_st h hm; omega
        by_cases q : j = i
        · subst q
          refine ⟨(nI (cnt (mk x) (j + 1)), fm_wl (fm_wl u.2 (32 + a) (cnt (mk x) j) (lI (if lk τ j j = true then -1 else 0))) (32 + a) (cnt (mk x) j) (lI (deg τ j))), ?_, rfl, h2, fun q b hq => ?_, fun j' hj' hm => ?_⟩
          · simp only [mX3_fillRow_L6]
            rw [show (8 : Int32) = nI 8 from rfl, if_neg (nI_ge hj (by decide)), hh, b1s, if_neg (by decide), hjn, b1s, e0, b1s, h1, hlen]
            simp only [chk8 hcj (by decide), if_false, if_true]
            rw [sLn _ _ _ (by omega), k_degC (hnu.of1 (wl1 _ _ _ _)) hj, b1s, sLn _ _ _ (by omega), lI_nat (by have := cn8_le (lk τ j); omega), nI_1, nI_1, e1] <;> rfl
          · show (fm_wl _ _ _ _).2 q b = _
            rw [wlN _ _ (Or.inl hq), wlN _ _ (Or.inl hq)]; exact h3 q b hq
          · show (fm_wl _ _ _ _).2 _ _ = _
            by_cases e : j' = j
            · subst e
              rw [wlS]; unfold eL; rw [if_pos rfl]
            · have := old j' (by omega) hm
              rw [wlN _ _ (Or.inr this), wlN _ _ (Or.inr this)]; exact h4 j' (by omega) hm
        · have ne : ¬ nI j = nI i := fun w => q ((nI_eq (by omega) (by omega)).mp w)
          refine ⟨(nI (cnt (mk x) (j + 1)), fm_wl u.2 (32 + a) (cnt (mk x) j) (lI (if lk τ i j = true then -1 else 0))), ?_, rfl, h2, fun q b hq => ?_, fun j' hj' hm => ?_⟩
          · simp only [mX3_fillRow_L6]
            rw [show (8 : Int32) = nI 8 from rfl, if_neg (nI_ge hj (by decide)), hh, b1s, if_neg (by decide), hjn, b1s, e0, b1s, h1, hlen]
            simp only [chk8 hcj (by decide), if_false]
            rw [if_neg ne, sLn _ _ _ (by omega), nI_1, nI_1, e1]
          · show (fm_wl _ _ _ _).2 q b = _
            rw [wlN _ _ (Or.inl hq)]; exact h3 q b hq
          · show (fm_wl _ _ _ _).2 _ _ = _
            by_cases e : j' = j
            · subst e
              rw [wlS]; unfold eL; rw [if_neg (fun w : i = j' => q w.symm)]
            · have := old j' (by omega) hm
              rw [wlN _ _ (Or.inr this)]; exact h4 j' (by omega) hm)
    fF 0 (0, s) (Nat.zero_le _) (by unfold fF; omega) ⟨rfl, rfl, fun _ _ _ => rfl, fun j' hj' => absurd hj' (by omega)⟩
  have e1 : (mX3_fillRow_L6 (32 + a) fF x (nI i) 0 0 s).map (fun z => ((0 : Int32), z)) = some (y, t) := e1
  have e2 : mX3_fillRow_L6 (32 + a) fF x (nI i) 0 0 s = some t := by
    cases w : mX3_fillRow_L6 (32 + a) fF x (nI i) 0 0 s
    · rw [w] at e1; cases e1
    · rw [w] at e1; cases e1; rfl
  exact ⟨t, by rw [mX3_fillRow, e2, b1s], t1, t2, t3⟩
theorem k_fillC {τ s : fm_S} (hn : NV s (lk τ)) {x : Int32} (hx : m8 x) : ∃ s', mX3_fill x s = some (nI (cnt (mk x) 8), s') ∧ s'.1 = s.1 ∧ ∀ i, i < 8 → ∀ j, j < 8 → mk x i = true → mk x j = true → s'.2 (32 + cnt (mk x) i) (cnt (mk x) j) = lI (eL τ i j) := by
  obtain ⟨⟨y, t⟩, e1, t0, t1, t2⟩ := lpU (fun n x4 (u : Int32 × fm_S) => mX3_fill_L5 n x u.1 x4 u.2) 8
    (fun k u => u.1 = nI (cnt (mk x) k) ∧ u.2.1 = s.1 ∧ ∀ i, i < k → ∀ j, j < 8 → mk x i = true → mk x j = true → u.2.2 (32 + cnt (mk x) i) (cnt (mk x) j) = lI (eL τ i j))
    (fun u => u.1 = nI (cnt (mk x) 8) ∧ u.2.1 = s.1 ∧ ∀ i, i < 8 → ∀ j, j < 8 → mk x i = true → mk x j = true → u.2.2 (32 + cnt (mk x) i) (cnt (mk x) j) = lI (eL τ i j))
    (fun n u hu => ⟨u, by simp only [mX3_fill_L5]; rw [show (8 : Int32) = nI 8 from rfl, if_pos (nI_le (Nat.le_refl _) (by decide))], hu⟩)
    (fun n k u hk ⟨h1, h2, h3⟩ => by
      have hh := q_holds hx hk
      have hck : cnt (mk x) k < 8 := by have := cnt_le (mk x) k; omega
      cases z : mk x k
      · rw [z, if_neg (by decide)] at hh
        refine ⟨u, ?_, ?_, h2, fun i hi j hj m1 m2 => ?_⟩
        · simp only [mX3_fill_L5]
          rw [show (8 : Int32) = nI 8 from rfl, if_neg (nI_ge hk (by decide)), hh, b1s, if_pos rfl, nI_1]
        · rw [h1, cnt, z] <;> rfl
        · by_cases e : i = k
          · rw [e, z] at m1; cases m1
          · exact h3 i (by omega) j hj m1 m2
      · rw [z, if_pos rfl] at hh
        obtain ⟨s', f1, f2, f3, f4⟩ := k_fillRow (hn.of1 h2) hx hk hck
        have e1 : cnt (mk x) (k + 1) = cnt (mk x) k + 1 := by rw [cnt, z] <;> rfl
        refine ⟨(nI (cnt (mk x) (k + 1)), s'), ?_, rfl, f2.trans h2, fun i hi j hj m1 m2 => ?_⟩
        · have ei : 31 + 1 + (nI (cnt (mk x) k)).toNatClampNeg = 32 + cnt (mk x) k := by rw [nI_clamp (by omega)]
          simp only [mX3_fill_L5]
          rw [show (8 : Int32) = nI 8 from rfl, if_neg (nI_ge hk (by decide)), hh, b1s, if_neg (by decide), h1]
          simp only [chk8 hck (by decide), if_false, ei]
          rw [f1, b1s, nI_1, nI_1, e1]
        · show s'.2 _ _ = _
          by_cases e : i = k
          · subst e; exact f4 j hj m2
          · have := cnt_st (P := mk x) (show i < k by omega) m1
            rw [f3 _ _ (by omega)]; exact h3 i (by omega) j hj m1 m2)
    fF 0 (0, s) (Nat.zero_le _) (by unfold fF; omega) ⟨rfl, rfl, fun i hi => absurd hi (by omega)⟩
  have e1 : mX3_fill_L5 fF x 0 0 s = some (y, t) := e1
  have t0 : y = _ := t0
  exact ⟨t, by rw [mX3_fill, e1, b2s, t0], t1, t2⟩
end LVBH
section LVBI
/-- a round of elimination under way: rows below r, and row r below column c, are done -/
def BI (V : Nat → Nat → Int64) (A : Nat → Nat → Int) (N k r c : Nat) : Prop := ∀ i j, k ≤ i → i < N → k ≤ j → j < N → V i j = lI (if k < i ∧ k < j ∧ (i < r ∨ (i = r ∧ j < c)) then dM A (k + 1) i j else dM A k i j)
def BL (V : Nat → Nat → Int64) (A : Nat → Nat → Int) (N k : Nat) : Prop := ∀ i j, k ≤ i → i < N → k ≤ j → j < N → V i j = lI (dM A k i j)
theorem BI_0 {V : Nat → Nat → Int64} {A : Nat → Nat → Int} {N k : Nat} (h : BL V A N k) : BI V A N k (k + 1) (k + 1) := fun i j h1 h2 h3 h4 => by
  rw [if_neg (by omega)]; exact h i j h1 h2 h3 h4
theorem BI_row {V : Nat → Nat → Int64} {A : Nat → Nat → Int} {N k r : Nat} (h : BI V A N k r N) : BI V A N k (r + 1) (k + 1) := fun i j h1 h2 h3 h4 => by
  rw [h i j h1 h2 h3 h4]
  by_cases q : k < i ∧ k < j ∧ (i < r ∨ (i = r ∧ j < N))
  · rw [if_pos q, if_pos (by omega)]
  · rw [if_neg q, if_neg (by omega)]
theorem BI_end {V : Nat → Nat → Int64} {A : Nat → Nat → Int} {N k : Nat} (h : BI V A N k N (k + 1)) : BL V A N (k + 1) := fun i j h1 h2 h3 h4 => by
  rw [h i j (by omega) h2 (by omega) h4, if_pos (by omega)]
/-- what elimination needs -/
def BH (A : Nat → Nat → Int) (N k : Nat) : Prop := N ≤ 7 ∧ k < N ∧ (∀ i j, (A i j).natAbs ≤ if i = j then 7 else 1) ∧ ∀ i, i ≤ k + 1 → dd A i ≠ 0
theorem dd_le {A : Nat → Nat → Int} (h : ∀ i j, (A i j).natAbs ≤ if i = j then 7 else 1) {k : Nat} (hk : k ≤ 7) : (dd A k).natAbs ≤ 62748517 := by
  cases k with
  | zero => rw [dd_0]; decide
  | succ k => rw [dd_succ]; exact dM_le h (by omega) (Nat.le_refl _)
theorem BI_at {V : Nat → Nat → Int64} {A : Nat → Nat → Int} {N k r c : Nat} (h : BI V A N k r c) (hk : k < N) (h1 : k < r) (h2 : r < N) (h3 : k < c) (h4 : c < N) : V r c = lI (dM A k r c) ∧ V k k = lI (dM A k k k) ∧ V r k = lI (dM A k r k) ∧ V k c = lI (dM A k k c) := by
  refine ⟨?_, ?_, ?_, ?_⟩
  · rw [h r c (by omega) h2 (by omega) h4, if_neg (by omega)]
  · rw [h k k (by omega) hk (by omega) hk, if_neg (by omega)]
  · rw [h r k (by omega) h2 (by omega) hk, if_neg (by omega)]
  · rw [h k c (by omega) hk (by omega) h4, if_neg (by omega)]
theorem BI_step {V V' : Nat → Nat → Int64} {A : Nat → Nat → Int} {N k r c : Nat} (hB : BH A N k) (h : BI V A N k r c) (h1 : k < r) (h2 : r < N) (h3 : k < c) (h4 : c < N)
    (hV : ∀ i j, i < N → j < N → V' i j = if i = r ∧ j = c then (lI (dM A k r c) * lI (dM A k k k) - lI (dM A k r k) * lI (dM A k k c)) / lI (dd A k) else V i j) : BI V' A N k r (c + 1) := by
  obtain ⟨b1, b2, b3, b4⟩ := hB
  intro i j a1 a2 a3 a4
  rw [hV i j a2 a4]
  by_cases q : i = r ∧ j = c
  · rw [if_pos q, if_pos (by omega), q.1, q.2]
    exact bStep b4 (fun i j hi => dM_le b3 (by omega) hi) (by have := dd_le b3 (k := k) (by omega); omega) (by omega)
  · rw [if_neg q, h i j a1 a2 a3 a4]
    by_cases w : k < i ∧ k < j ∧ (i < r ∨ (i = r ∧ j < c))
    · rw [if_pos w, if_pos (by omega)]
    · rw [if_neg w, if_neg (by omega)]
def vC (s : fm_S) : Nat → Nat → Int64 := fun i j => s.2 (32 + i) j
theorem k_inC {A : Nat → Nat → Int} {N k r : Nat} {s : fm_S} (hB : BH A N k) (h : BI (vC s) A N k r (k + 1)) (h1 : k < r) (h2 : r < N) : ∃ s', mX3_determinant_L50 fF (nI N) (lI (dd A k)) (nI k) (lI (dM A k k k)) (nI r) (nI (k + 1)) s = some s' ∧ s'.1 = s.1 ∧ BI (vC s') A N k r N := by
  obtain ⟨b1, b2, b3, b4⟩ := id hB
  have ndd : ¬ lI (dd A k) = 0 := fun q => b4 k (by omega) ((lI_z (by have := dd_le b3 (k := k) (by omega); omega)).mp q)
  refine lpU (fun n x8 u => mX3_determinant_L50 n (nI N) (lI (dd A k)) (nI k) (lI (dM A k k k)) (nI r) x8 u) N (fun c u => k < c ∧ u.1 = s.1 ∧ BI (vC u) A N k r c) (fun u => u.1 = s.1 ∧ BI (vC u) A N k r N)
    (fun n u hu => ⟨u, by simp only [mX3_determinant_L50]; rw [if_pos (nI_le (Nat.le_refl _) (by omega))], hu.2⟩)
    (fun n c u hc ⟨hk, hu1, hu2⟩ => by
      obtain ⟨v1, v2, v3, v4⟩ := BI_at hu2 b2 h1 h2 hk hc
      have er : 31 + 1 + (nI r).toNatClampNeg = 32 + r := by rw [nI_clamp (by omega)]
      have ek : 31 + 1 + (nI k).toNatClampNeg = 32 + k := by rw [nI_clamp (by omega)]
      refine ⟨fm_wl u (32 + r) c ((lI (dM A k r c) * lI (dM A k k k) - lI (dM A k r k) * lI (dM A k k c)) / lI (dd A k)), ?_, by omega, hu1, BI_step hB hu2 h1 h2 hk hc (fun i j hi hj => ?_)⟩
      · simp only [mX3_determinant_L50]
        rw [if_neg (nI_ge hc (by omega))]
        simp only [chk8 (show r < 8 by omega) (by decide), chk8 (show k < 8 by omega) (by decide), chk8 (show c < 8 by omega) (by decide), if_false, er, ek]
        rw [if_neg ndd, rLn _ _ (by omega), rLn _ _ (by omega), rLn _ _ (by omega), sLn _ _ _ (by omega), nI_1]
        rw [show u.2 (32 + r) c = _ from v1, show u.2 (32 + r) k = _ from v3, show u.2 (32 + k) c = _ from v4]
      · show (fm_wl _ _ _ _).2 _ _ = _
        by_cases q : i = r ∧ j = c
        · rw [if_pos q, q.1, q.2, wlS]
        · rw [if_neg q, wlN _ _ (by omega)] <;> rfl)
    fF (k + 1) s (by omega) (by unfold fF; omega) ⟨by omega, rfl, h⟩
theorem k_rowC {A : Nat → Nat → Int} {N k : Nat} {s : fm_S} (hB : BH A N k) (h : BL (vC s) A N k) : ∃ s', mX3_determinant_L38 fF (nI N) (lI (dd A k)) (nI k) (lI (dM A k k k)) (nI (k + 1)) s = some s' ∧ s'.1 = s.1 ∧ BL (vC s') A N (k + 1) := by
  obtain ⟨b1, b2, b3, b4⟩ := id hB
  refine lpU (fun n x7 u => mX3_determinant_L38 n (nI N) (lI (dd A k)) (nI k) (lI (dM A k k k)) x7 u) N (fun r u => k < r ∧ u.1 = s.1 ∧ BI (vC u) A N k r (k + 1)) (fun u => u.1 = s.1 ∧ BL (vC u) A N (k + 1))
    (fun n u hu => ⟨u, by simp only [mX3_determinant_L38]; rw [if_pos (nI_le (Nat.le_refl _) (by omega))], hu.2.1, BI_end hu.2.2⟩)
    (fun n r u hr ⟨hk, hu1, hu2⟩ => by
      obtain ⟨s', e1, e2, e3⟩ := k_inC hB hu2 hk hr
      refine ⟨s', ?_, by omega, e2.trans hu1, BI_row e3⟩
      simp only [mX3_determinant_L38]
      rw [if_neg (nI_ge hr (by omega)), nI_1, e1, b1s, nI_1])
    fF (k + 1) s (by omega) (by unfold fF; omega) ⟨by omega, rfl, BI_0 h⟩
/-- the class's determinant -/
theorem k_detC {A : Nat → Nat → Int} {N : Nat} {s : fm_S} (hN : N ≤ 7) (hA : ∀ i j, (A i j).natAbs ≤ if i = j then 7 else 1) (h : BL (vC s) A N 0) : ∃ v s', mX3_determinant (nI N) s = some (v, s') ∧ s'.1 = s.1 ∧ ((v = 0 ∧ ∃ k, k < N ∧ dM A k k k = 0) ∨ (v = lI (dd A N) ∧ ∀ k, k < N → dM A k k k ≠ 0)) := by
  obtain ⟨t, e1, v, s', t1, t2, t3⟩ := lpE (fun n x4 (u : Int64 × fm_S) => mX3_determinant_L5 n (nI N) u.1 x4 u.2) N
    (fun k u => u.1 = lI (dd A k) ∧ (∀ i, i < k → dM A i i i ≠ 0) ∧ u.2.1 = s.1 ∧ BL (vC u.2) A N k)
    (fun t => ∃ v s', (t = .ok (v, s') ∨ t = .error (v, s')) ∧ s'.1 = s.1 ∧ ((v = 0 ∧ ∃ k, k < N ∧ dM A k k k = 0) ∨ (v = lI (dd A N) ∧ ∀ k, k < N → dM A k k k ≠ 0)))
    (fun n u ⟨h1, h2, h3, h4⟩ => ⟨.ok (u.1, u.2), by simp only [mX3_determinant_L5]; rw [if_pos (nI_le (Nat.le_refl _) (by omega))], u.1, u.2, Or.inl rfl, h3, Or.inr ⟨h1, h2⟩⟩)
    (fun n k u hk ⟨h1, h2, h3, h4⟩ => by
      have ek : 31 + 1 + (nI k).toNatClampNeg = 32 + k := by rw [nI_clamp (by omega)]
      have ep : rL u.2 (32 + k) (nI k) = lI (dM A k k k) := by rw [rLn _ _ (by omega)]; exact h4 k k (Nat.le_refl _) hk (Nat.le_refl _) hk
      have eb : (dM A k k k).natAbs < 4611686018427387904 := by have := dM_le hA (k := k) (i := k) (j := k) (by omega) (Nat.le_refl _); omega
      by_cases q : dM A k k k = 0
      · right
        refine ⟨.error (0, u.2), ?_, 0, u.2, Or.inr rfl, h3, Or.inl ⟨rfl, k, hk, q⟩⟩
        simp only [mX3_determinant_L5]
        rw [if_neg (nI_ge hk (by omega))]
        simp only [chk8 (show k < 8 by omega) (by decide), if_false, ek]
        rw [ep, if_pos ((lg_cmp_eq _ _).mpr ((lI_z eb).mpr q))]
      · left
        have hB : BH A N k := ⟨hN, hk, hA, fun i hi => by
          cases i with
          | zero => rw [dd_0]; decide
          | succ i =>
            rw [dd_succ]
            by_cases e : i = k
            · rw [e]; exact q
            · exact h2 i (by omega)⟩
        obtain ⟨s', f1, f2, f3⟩ := k_rowC hB h4
        refine ⟨(lI (dd A (k + 1)), s'), ?_, rfl, fun i hi => ?_, f2.trans h3, f3⟩
        · simp only [mX3_determinant_L5]
          rw [if_neg (nI_ge hk (by omega))]
          simp only [chk8 (show k < 8 by omega) (by decide), if_false, ek]
          rw [ep, if_neg (fun w => q ((lI_z eb).mp ((lg_cmp_eq _ _).mp w))), h1, nI_1, f1, b1s, dd_succ]
        · by_cases e : i = k
          · rw [e]; exact q
          · exact h2 i (by omega))
    fF 0 (1, s) (Nat.zero_le _) (by unfold fF; omega) ⟨by rw [dd_0, lI_1], fun i hi => absurd hi (by omega), rfl, h⟩
  have e1 : mX3_determinant_L5 fF (nI N) 1 0 s = some t := e1
  refine ⟨v, s', ?_, t2, t3⟩
  rw [mX3_determinant, e1]
  rcases t1 with rfl | rfl <;> rfl
end LVBI
