section LVBJ
def mfE (σ σ' : fm_S) : Prop := σ'.1 = σ.1 ∧ ∀ b, σ'.2 55 b = σ.2 55 b
theorem mfE.rfl {σ : fm_S} : mfE σ σ := ⟨Eq.refl _, fun _ => Eq.refl _⟩
theorem mfE.trans {a b c : fm_S} (h : mfE a b) (h' : mfE b c) : mfE a c := ⟨h'.1.trans h.1, fun x => (h'.2 x).trans (h.2 x)⟩
theorem mfE.wl {σ s : fm_S} (h : mfE σ s) (i : Nat) (v : Int64) : mfE σ (fm_wl s 54 i v) := ⟨h.1, fun b => by rw [wlN _ _ (by omega)]; exact h.2 b⟩
theorem mfE.mv {σ σ' τ : fm_S} {c : Nat} (h : mfE σ σ') (hv : MV σ τ c) : MV σ' τ c := hv.of (fun a b _ => by rw [h.1]) (fun _ _ _ => Eq.refl _)
def vM (N : Nat) (s : fm_S) : Nat → Nat → Int64 := fun i j => s.2 54 (N * i + j)
theorem ixN (N i j : Nat) : nI N * nI i + nI j = nI (N * i + j) := by rw [pk_mul, nI_add]
theorem ixlt {N i j : Nat} (hN : N ≤ 7) (hi : i < N) (hj : j < N) : N * i + j < 64 := by
  have h1 : N * i ≤ 7 * 6 := Nat.mul_le_mul hN (by omega)
  omega
theorem ixeq {N i j r c : Nat} (hj : j < N) (hc : c < N) (h : N * i + j = N * r + c) : i = r ∧ j = c := by
  have h0 : 0 < N := by omega
  have e1 : (N * i + j) / N = i := by rw [Nat.mul_add_div h0, Nat.div_eq_of_lt hj] <;> rfl
  have e2 : (N * r + c) / N = r := by rw [Nat.mul_add_div h0, Nat.div_eq_of_lt hc] <;> rfl
  have e3 : i = r := by rw [← e1, ← e2, h]
  subst e3
  exact ⟨Eq.refl _, by omega⟩
theorem k_inM {A : Nat → Nat → Int} {N k r : Nat} {s : fm_S} (hB : BH A N k) (h : BI (vM N s) A N k r (k + 1)) (h1 : k < r) (h2 : r < N) : ∃ s', mX5_minor_L103 fF (nI N) (lI (dd A k)) (nI k) (nI r) (nI (k + 1)) s = some s' ∧ mfE s s' ∧ BI (vM N s') A N k r N := by
  obtain ⟨b1, b2, b3, b4⟩ := id hB
  have ndd : ¬ lI (dd A k) = 0 := fun q => b4 k (by omega) ((lI_z (by have := dd_le b3 (k := k) (by omega); omega)).mp q)
  refine lpU (fun n x6 u => mX5_minor_L103 n (nI N) (lI (dd A k)) (nI k) (nI r) x6 u) N (fun c u => k < c ∧ mfE s u ∧ BI (vM N u) A N k r c) (fun u => mfE s u ∧ BI (vM N u) A N k r N)
    (fun n u hu => ⟨u, by simp only [mX5_minor_L103]; rw [if_pos (nI_le (Nat.le_refl _) (by omega))], hu.2⟩)
    (fun n c u hc ⟨hk, hu1, hu2⟩ => by
      obtain ⟨v1, v2, v3, v4⟩ := BI_at hu2 b2 h1 h2 hk hc
      have i1 := ixlt b1 h2 hc
      have i2 := ixlt b1 b2 b2
      have i3 := ixlt b1 h2 b2
      have i4 := ixlt b1 b2 hc
      refine ⟨fm_wl u 54 (N * r + c) ((lI (dM A k r c) * lI (dM A k k k) - lI (dM A k r k) * lI (dM A k k c)) / lI (dd A k)), ?_, by omega, hu1.wl _ _, BI_step hB hu2 h1 h2 hk hc (fun i j hi hj => ?_)⟩
      · simp only [mX5_minor_L103]
        rw [if_neg (nI_ge hc (by omega))]
        simp only [ixN, chk8 i1 (by decide), chk8 i2 (by decide), chk8 i3 (by decide), chk8 i4 (by decide), if_false]
        rw [if_neg ndd, rLn _ _ (by omega), rLn _ _ (by omega), rLn _ _ (by omega), rLn _ _ (by omega), sLn _ _ _ (by omega), nI_1]
        rw [show u.2 54 (N * r + c) = _ from v1, show u.2 54 (N * k + k) = _ from v2, show u.2 54 (N * r + k) = _ from v3, show u.2 54 (N * k + c) = _ from v4]
      · show (fm_wl _ _ _ _).2 _ _ = _
        by_cases q : i = r ∧ j = c
        · rw [if_pos q, q.1, q.2, wlS]
        · rw [if_neg q, wlN _ _ (Or.inr (fun w => q (ixeq hj hc w)))] <;> rfl)
    fF (k + 1) s (by omega) (by unfold fF; omega) ⟨by omega, mfE.rfl, h⟩
theorem k_rowM {A : Nat → Nat → Int} {N k : Nat} {s : fm_S} (hB : BH A N k) (h : BL (vM N s) A N k) : ∃ s', mX5_minor_L91 fF (nI N) (lI (dd A k)) (nI k) (nI (k + 1)) s = some s' ∧ mfE s s' ∧ BI (vM N s') A N k N (k + 1) := by
  obtain ⟨b1, b2, b3, b4⟩ := id hB
  refine lpU (fun n x5 u => mX5_minor_L91 n (nI N) (lI (dd A k)) (nI k) x5 u) N (fun r u => k < r ∧ mfE s u ∧ BI (vM N u) A N k r (k + 1)) (fun u => mfE s u ∧ BI (vM N u) A N k N (k + 1))
    (fun n u hu => ⟨u, by simp only [mX5_minor_L91]; rw [if_pos (nI_le (Nat.le_refl _) (by omega))], hu.2⟩)
    (fun n r u hr ⟨hk, hu1, hu2⟩ => by
      obtain ⟨s', e1, e2, e3⟩ := k_inM hB hu2 hk hr
      refine ⟨s', ?_, by omega, hu1.trans e2, BI_row e3⟩
      simp only [mX5_minor_L91]
      rw [if_neg (nI_ge hr (by omega)), nI_1, e1, b1s, nI_1])
    fF (k + 1) s (by omega) (by unfold fF; omega) ⟨by omega, mfE.rfl, BI_0 h⟩
/-- the model's elimination, all pivots being other than 0 -/
theorem k_elimM {A : Nat → Nat → Int} {N : Nat} {s : fm_S} (h0 : 0 < N) (hN : N ≤ 7) (hA : ∀ i j, (A i j).natAbs ≤ if i = j then 7 else 1) (hd : ∀ i, i ≤ N → dd A i ≠ 0) (h : BL (vM N s) A N 0) : ∃ s', mX5_minor_L77 fF (nI N) 1 0 s = some s' ∧ mfE s s' ∧ BL (vM N s') A N (N - 1) := by
  obtain ⟨⟨v, t⟩, e1, t1⟩ := lpU (fun n x4 (u : Int64 × fm_S) => (mX5_minor_L77 n (nI N) u.1 x4 u.2).map (fun z => ((0 : Int64), z))) (N - 1)
    (fun k u => u.1 = lI (dd A k) ∧ mfE s u.2 ∧ BL (vM N u.2) A N k) (fun u => mfE s u.2 ∧ BL (vM N u.2) A N (N - 1))
    (fun n u hu => ⟨(0, u.2), by simp only [mX5_minor_L77]; rw [nI_1, if_pos (nI_le (by omega) (by omega))] <;> rfl, hu.2⟩)
    (fun n k u hk ⟨h1, h2, h3⟩ => by
      have hB : BH A N k := ⟨hN, by omega, hA, fun i hi => hd i (by omega)⟩
      obtain ⟨s', f1, f2, f3⟩ := k_rowM hB h3
      have i2 := ixlt hN (show k < N by omega) (show k < N by omega)
      have ev : rL s' 54 (nI (N * k + k)) = lI (dd A (k + 1)) := by
        rw [rLn _ _ (by omega), dd_succ]
        have := f3 k k (Nat.le_refl _) (by omega) (Nat.le_refl _) (by omega)
        rw [if_neg (by omega)] at this
        exact this
      refine ⟨(lI (dd A (k + 1)), s'), ?_, rfl, h2.trans f2, BI_end f3⟩
      simp only [mX5_minor_L77]
      rw [nI_1, if_neg (nI_ge (by omega) (by omega)), h1, f1, b1s]
      simp only [ixN, chk8 i2 (by decide), if_false]
      rw [ev])
    fF 0 (1, s) (Nat.zero_le _) (by unfold fF; omega) ⟨by rw [dd_0, lI_1], mfE.rfl, h⟩
  have e1 : (mX5_minor_L77 fF (nI N) 1 0 s).map (fun z => ((0 : Int64), z)) = some (v, t) := e1
  have e2 : mX5_minor_L77 fF (nI N) 1 0 s = some t := by
    cases w : mX5_minor_L77 fF (nI N) 1 0 s
    · rw [w] at e1; cases e1
    · rw [w] at e1; cases e1; rfl
  exact ⟨t, e2, t1⟩
theorem k_fillM {σ τ : fm_S} {c N : Nat} {h : Nat → Nat} (hw : WF τ c) (hv : MV σ τ c) (hn : NU τ N h) (hN : N ≤ 7) (hr : ∀ i, i < N → σ.1 52 i = nI (h i)) : ∃ s', mX5_minor_L2 fF (nI N) 0 σ = some s' ∧ mfE σ s' ∧ BL (vM N s') (lA τ N h) N 0 := by
  have hc := hw.1
  have hup : ∀ i, i ≤ N → h i < c := fun i hi => by
    obtain ⟨a, b⟩ := hn.1 i hi
    refine Classical.byContradiction fun q => ?_
    rw [up_hi hw (by omega) a] at b; cases b
  obtain ⟨t, e1, t1, t2⟩ := lpU (fun n x2 (u : fm_S) => mX5_minor_L2 n (nI N) x2 u) (N * N)
    (fun k u => mfE σ u ∧ ∀ m, m < k → u.2 54 m = lI (lA τ N h (m / N) (m % N))) (fun u => mfE σ u ∧ ∀ m, m < N * N → u.2 54 m = lI (lA τ N h (m / N) (m % N)))
    (fun n u hu => ⟨u, by simp only [mX5_minor_L2]; rw [pk_mul, if_pos (nI_le (Nat.le_refl _) (by have := Nat.mul_le_mul hN hN; omega))], hu⟩)
    (fun n k u hk ⟨h1, h2⟩ => by
      have h0 : 0 < N := by
        refine Nat.pos_of_ne_zero fun q => ?_
        subst q; simp at hk
      have n49 : N * N ≤ 7 * 7 := Nat.mul_le_mul hN hN
      have i1 : k / N < N := Nat.div_lt_of_lt_mul hk
      have i2 : k % N < N := Nat.mod_lt _ h0
      have d1 : nI k / nI N = nI (k / N) := pk_div (by omega) h0 (by omega)
      have d2 : nI k - nI (k / N) * nI N = nI (k % N) := by rw [← d1]; exact pk_rem (by omega) h0 (by omega)
      have hvu := h1.mv hv
      have r1 : rI u 52 (nI (k / N)) = nI (h (k / N)) := by rw [rIn _ _ (by omega), h1.1]; exact hr _ i1
      have r2 : rI u 52 (nI (k % N)) = nI (h (k % N)) := by rw [rIn _ _ (by omega), h1.1]; exact hr _ i2
      have c1 := hup (k / N) (by omega)
      have c2 := hup (k % N) (by omega)
      refine ⟨fm_wl u 54 k (lI (lA τ N h (k / N) (k % N))), ?_, h1.wl _ _, fun m hm => ?_⟩
      · simp only [mX5_minor_L2]
        rw [pk_mul, if_neg (nI_ge hk (by omega)), if_neg (nI_ne0 h0 (by omega))]
        simp only [d1, d2, chk8 (show k / N < 8 by omega) (by decide), chk8 (show k % N < 8 by omega) (by decide), chk8 (show k < 64 by omega) (by decide), if_false, r1, r2]
        by_cases e : h (k / N) = h (k % N)
        · rw [if_pos (by rw [e]), k_degM hw hvu c1, b1s, sLn _ _ _ (by omega), lI_nat (by have := deg7 τ (show h (k / N) < 8 by omega); omega), nI_1]
          rw [lA_in (by omega) (by omega)]; unfold eL; rw [if_pos e]
        · rw [if_neg (fun w => e ((nI_eq (by omega) (by omega)).mp w)), k_linked hw hvu c1 c2, b1s, lA_in (by omega) (by omega)]
          unfold eL
          rw [if_neg e]
          cases z : lk τ (h (k / N)) (h (k % N))
          · rw [if_pos (by decide), sLn _ _ _ (by omega), nI_1, if_neg (by decide), lI_0]
          · rw [if_neg (by decide), sLn _ _ _ (by omega), nI_1, if_pos rfl, lI_m]
      · by_cases e : m = k
        · subst e; rw [wlS]
        · rw [wlN _ _ (Or.inr e)]; exact h2 m (by omega))
    fF 0 σ (Nat.zero_le _) (by have := Nat.mul_le_mul hN hN; unfold fF; omega) ⟨mfE.rfl, fun m hm => absurd hm (by omega)⟩
  have e1 : mX5_minor_L2 fF (nI N) 0 σ = some t := e1
  refine ⟨t, e1, t1, fun i j _ hi _ hj => ?_⟩
  have h0 : 0 < N := by omega
  have hk : N * i + j < N * N := by
    have : N * (i + 1) ≤ N * N := Nat.mul_le_mul (Nat.le_refl _) hi
    rw [Nat.mul_add] at this
    omega
  have := t2 (N * i + j) hk
  rw [Nat.mul_add_div h0, Nat.div_eq_of_lt hj, Nat.mul_add_mod, Nat.mod_eq_of_lt hj, Nat.add_zero] at this
  rw [dM_0]; exact this
/-- the model's minor -/
theorem k_minorM {σ τ : fm_S} {c N : Nat} {h : Nat → Nat} (hw : WF τ c) (hv : MV σ τ c) (hn : NU τ N h) (hN : N ≤ 7) (hr : ∀ i, i < N → σ.1 52 i = nI (h i)) (hd : ∀ i, i ≤ N → dd (lA τ N h) i ≠ 0) : ∃ s', mX5_minor (nI N) σ = some (lI (dd (lA τ N h) N), s') ∧ mfE σ s' := by
  obtain ⟨s1, e1, f1, g1⟩ := k_fillM hw hv hn hN hr
  by_cases z : N = 0
  · subst z
    refine ⟨s1, ?_, f1⟩
    have e0 : ∀ n s, mX5_minor_L77 (n + 1) (nI 0) 1 0 s = some s := fun n s => by
      simp only [mX5_minor_L77]
      rw [if_pos (by decide +kernel)]
    have e2 : mX5_minor_L77 fF (nI 0) 1 0 s1 = some s1 := e0 999 s1
    rw [mX5_minor, e1, b1s, e2, b1s, if_pos (by decide +kernel), dd_0, lI_1]
  · have h0 : 0 < N := by omega
    obtain ⟨s2, e2, f2, g2⟩ := k_elimM h0 hN (lA_le hn) hd g1
    have n49 : N * N ≤ 7 * 7 := Nat.mul_le_mul hN hN
    have n1 : N ≤ N * N := Nat.le_mul_of_pos_left N h0
    have i1 : nI N * nI N - 1 = nI (N * N - 1) := by rw [pk_mul, show (1 : Int32) = nI 1 from rfl, pk_sub (by omega)]
    refine ⟨s2, ?_, f1.trans f2⟩
    rw [mX5_minor, e1, b1s, e2, b1s, if_neg (nI_ne0 h0 (by omega)), i1]
    simp only [chk8 (show N * N - 1 < 64 by omega) (by decide), if_false]
    rw [rLn _ _ (by omega)]
    have := g2 (N - 1) (N - 1) (Nat.le_refl _) (by omega) (Nat.le_refl _) (by omega)
    have e3 : N * (N - 1) + (N - 1) = N * N - 1 := by
      obtain ⟨M, rfl⟩ : ∃ M, N = M + 1 := ⟨N - 1, by omega⟩
      simp only [Nat.add_sub_cancel]
      rw [Nat.mul_add (M + 1) M 1, Nat.mul_one]
      omega
    have this : s2.2 54 (N * (N - 1) + (N - 1)) = _ := this
    rw [e3] at this
    rw [this, ← dd_succ, show N - 1 + 1 = N by omega]
end LVBJ
section LVBK
theorem k_listM {σ τ : fm_S} {c : Nat} (hw : WF τ c) (hv : MV σ τ c) : ∃ s', mX5_trees_L19 fF 0 0 σ = some (nI (cnt (up τ) 8), s') ∧ rowE 52 σ s' ∧ ∀ a, a < cnt (up τ) 8 → s'.1 52 a = nI (nth (up τ) a) := by
  have hc := hw.1
  have e8 : cnt (up τ) 8 = cnt (up τ) c := cnt_hi (fun j h1 h2 => up_hi hw h1 h2) 8 hc (Nat.le_refl _)
  obtain ⟨⟨y, t⟩, e1, t1, t2, t3⟩ := lpU (fun n x2 (u : Int32 × fm_S) => mX5_trees_L19 n u.1 x2 u.2) c
    (fun j u => u.1 = nI (cnt (up τ) j) ∧ rowE 52 σ u.2 ∧ ∀ a, a < cnt (up τ) j → u.2.1 52 a = nI (nth (up τ) a)) (fun u => u.1 = nI (cnt (up τ) c) ∧ rowE 52 σ u.2 ∧ ∀ a, a < cnt (up τ) c → u.2.1 52 a = nI (nth (up τ) a))
    (fun n u hu => ⟨u, by simp only [mX5_trees_L19]; rw [hu.2.1.1 61 0 (by omega), hv.1, if_pos (nI_le (Nat.le_refl _) (by omega))], hu⟩)
    (fun n j u hj ⟨h1, h2, h3⟩ => by
      have hj8 : j < 8 := by omega
      have hcj : cnt (up τ) j < 8 := by have := cnt_le (up τ) j; omega
      have e43 : (fm_wr u.2 52 (cnt (up τ) j) (nI j)).1 43 j = if τ.1 3 j = 0 then 1 else 0 := by
        rw [wrN _ _ (by omega), h2.1 43 j (by omega), hv.2.2.2.1 j hj8]
        by_cases q : τ.1 3 j = 0
        · rw [if_pos ⟨hj, q⟩, if_pos q]
        · rw [if_neg (fun w => q w.2), if_neg q]
      have ev : (if rI (fm_wr u.2 52 (cnt (up τ) j) (nI j)) 43 (nI j) = 0 then some ((1 : Int32)) else some ((0 : Int32))) = some (nI (up τ j).toNat) := by
        rw [rIn _ _ (by omega), e43]
        unfold up
        by_cases q : τ.1 3 j = 0
        · simp [q] <;> rfl
        · simp [q] <;> rfl
      refine ⟨(nI (cnt (up τ) (j + 1)), fm_wr u.2 52 (cnt (up τ) j) (nI j)), ?_, rfl, h2.wr _ _, fun a ha => ?_⟩
      · simp only [mX5_trees_L19]
        rw [h2.1 61 0 (by omega), hv.1, if_neg (nI_ge hj (by omega)), h1]
        simp only [chk8 hcj (by decide), chk8 hj8 (by decide), if_false]
        rw [sIn _ _ _ (by omega), ev, b1s, nI_add, nI_1] <;> rfl
      · show (fm_wr _ _ _ _).1 52 a = _
        by_cases e : a = cnt (up τ) j
        · subst e
          have : up τ j = true := by
            cases z : up τ j
            · rw [cnt, z] at ha; simp at ha
            · rfl
          rw [wrS, nth_c hj8 this]
        · have : a < cnt (up τ) j := by
            rw [cnt] at ha
            cases z : up τ j <;> rw [z] at ha <;> simp at ha <;> omega
          rw [wrN _ _ (Or.inr e)]; exact h3 a this)
    fF 0 (0, σ) (Nat.zero_le _) (by unfold fF; omega) ⟨rfl, rowE.rfl, fun a ha => absurd ha (Nat.not_lt_zero _)⟩
  have e1 : mX5_trees_L19 fF 0 0 σ = some (y, t) := e1
  have t1 : y = _ := t1
  rw [e8]
  exact ⟨t, by rw [e1, t1], t2, t3⟩
-- one group
theorem gc_n (τ : fm_S) : ∃ F : Nat → Bool, (∀ i, F i = true ↔ fst τ i) ∧ ∀ n, gc τ n = nI (cnt F n) := by
  have hd : ∃ F : Nat → Bool, ∀ i, F i = true ↔ fst τ i := ⟨fun i => @decide _ (Classical.propDecidable (fst τ i)), fun i => @decide_eq_true_iff _ (Classical.propDecidable _)⟩
  obtain ⟨F, hF⟩ := hd
  refine ⟨F, hF, fun n => ?_⟩
  induction n with
  | zero => rfl
  | succ n ih =>
    by_cases q : fst τ n
    · rw [(gc_s τ n).1 q, ih, nI_1, cnt, (hF n).mpr q] <;> rfl
    · rw [(gc_s τ n).2 q, ih, cnt, Bool.eq_false_iff.mpr (fun h => q ((hF n).mp h))] <;> rfl
theorem fst_ex {τ : fm_S} {x : Nat} (hx : x < 8) (ux : up τ x = true) : ∃ f, f < 8 ∧ fst τ f ∧ Gr τ x f := by
  obtain ⟨f, f1, f2⟩ := pk_least (fun b => Gr τ x b) ⟨x, Gr_self τ x⟩
  have hf : f ≤ x := by
    refine Classical.byContradiction fun q => f2 x (by omega) (Gr_self τ x)
  refine ⟨f, by omega, ⟨?_, fun b hb z => f2 b hb (Gr_trans f1 z)⟩, f1⟩
  rcases Gr_up f1 with q | q
  · rw [q]; unfold up at ux; simpa using ux
  · exact q
theorem gc_one {τ : fm_S} {c : Nat} (hw : WF τ c) {z : Nat} (hz : z < 8) (uz : up τ z = true) : gc τ c = 1 ↔ ∀ x y, x < 8 → y < 8 → up τ x = true → up τ y = true → Gr τ x y := by
  obtain ⟨F, hF, hg⟩ := gc_n τ
  have hc := hw.1
  have fc : ∀ f, f < 8 → fst τ f → f < c := fun f hf h => by
    refine Classical.byContradiction fun q => ?_
    have : up τ f = false := up_hi hw (by omega) hf
    unfold up at this
    simp at this
    exact h.1 this
  have hle := cnt_le F c
  have h1 : gc τ c = 1 ↔ cnt F c = 1 := by
    rw [hg c, show (1 : Int32) = nI 1 from rfl]
    exact nI_eq (by omega) (by omega)
  rw [h1]
  constructor
  · intro h x y hx hy ux uy
    obtain ⟨f, f1, f2, f3⟩ := fst_ex hx ux
    obtain ⟨g, g1, g2, g3⟩ := fst_ex hy uy
    have e : f = g := by
      have k1 := cnt_st (P := F) (fc f f1 f2) ((hF f).mpr f2)
      have k2 := cnt_st (P := F) (fc g g1 g2) ((hF g).mpr g2)
      exact cnt_inj (P := F) ((hF f).mpr f2) ((hF g).mpr g2) (by omega)
    subst e
    exact Gr_trans f3 (Gr_symm hw g3)
  · intro h
    obtain ⟨f, f1, f2, f3⟩ := fst_ex hz uz
    have k1 := cnt_st (P := F) (fc f f1 f2) ((hF f).mpr f2)
    refine Classical.byContradiction fun q => ?_
    obtain ⟨i, i1, i2, i3⟩ := nth_ex F c 0 (by omega)
    obtain ⟨j, j1, j2, j3⟩ := nth_ex F c 1 (by omega)
    have hij : i < j := by
      refine Classical.byContradiction fun w => ?_
      have := cnt_mn (P := F) (show j ≤ i by omega)
      omega
    have fi := (hF i).mp i2
    have fj := (hF j).mp j2
    have ui : ∀ k, fst τ k → up τ k = true := fun k hk => by unfold up; simpa using hk.1
    exact fj.2 i hij (h j i (by omega) (by omega) (ui j fj) (ui i fi))
end LVBK
