section LVK
theorem lk_of5 {τ τ' : fm_S} (e : ∀ a b, a = 1 ∨ a = 2 ∨ a = 3 ∨ a = 19 ∨ a = 60 → τ'.1 a b = τ.1 a b) (i j : Nat) : lk τ' i j = lk τ i j := by
  unfold lk sq
  rw [e 3 i (by omega), e 3 j (by omega), e 19 i (by omega), e 60 1 (by omega), e 1 i (by omega), e 1 j (by omega), e 2 i (by omega), e 2 j (by omega)]
theorem mv_exch {σ σ' τ τ' : fm_S} {c : Nat} (hv : MV σ τ c) (a1 : ∀ a b, a ≠ 22 → a ≠ 5 → τ'.1 a b = τ.1 a b) (a2 : ∀ i, τ'.1 5 i = if i < c then τ.1 5 i + D τ c (τ.1 5) 64 i else τ.1 5 i)
    (b1 : ∀ a b, a ≠ 51 → a ≠ 45 → σ'.1 a b = σ.1 a b) (b2 : ∀ i, i < 8 → σ'.1 45 i = if i < c then τ.1 5 i + D τ c (τ.1 5) 64 i else τ.1 5 i) : MV σ' τ' c := by
  obtain ⟨h1, h2, h3, h4, h5, h6⟩ := hv
  refine ⟨by rw [b1 _ _ (by omega) (by omega)]; exact h1, by rw [b1 _ _ (by omega) (by omega), a1 _ _ (by omega) (by omega)]; exact h2, fun i hi => ?_, fun i hi => by rw [b1 _ _ (by omega) (by omega), a1 _ _ (by omega) (by omega)]; exact h4 i hi, fun i hi j hj => by rw [b1 _ _ (by omega) (by omega), a1 _ _ (by omega) (by omega)]; exact h5 i hi j hj, fun i hi j hj => by rw [b1 _ _ (by omega) (by omega), a1 _ _ (by omega) (by omega)]; exact h6 i hi j hj⟩
  obtain ⟨g1, g2, g3, -, g5, g6, g7⟩ := h3 i hi
  refine ⟨?_, ?_, ?_, (b2 i hi).trans (a2 i).symm, ?_, ?_, ?_⟩
  · rw [b1 _ _ (by omega) (by omega), a1 _ _ (by omega) (by omega)]; exact g1
  · rw [b1 _ _ (by omega) (by omega), a1 _ _ (by omega) (by omega)]; exact g2
  · rw [b1 _ _ (by omega) (by omega), a1 _ _ (by omega) (by omega)]; exact g3
  · rw [b1 _ _ (by omega) (by omega), a1 _ _ (by omega) (by omega)]; exact g5
  · rw [b1 _ _ (by omega) (by omega), a1 _ _ (by omega) (by omega)]; exact g6
  · rw [b1 _ _ (by omega) (by omega), a1 _ _ (by omega) (by omega)]; exact g7
theorem Te_wf {τ : fm_S} {c : Nat} (hw : WF τ c) (hn : NV τ (lk τ)) : ∀ k, (WF (Tc mX4_exchangeEstimates τ k) c ∧ NV (Tc mX4_exchangeEstimates τ k) (lk (Tc mX4_exchangeEstimates τ k))) ∧ mX4_exchangeEstimates (Tc mX4_exchangeEstimates τ k) = some (Tc mX4_exchangeEstimates τ (k + 1)) ∧ (∀ a b, a ≠ 22 → a ≠ 5 → (Tc mX4_exchangeEstimates τ k).1 a b = τ.1 a b) := by
  intro k
  induction k with
  | zero =>
    obtain ⟨t, e, -⟩ := cl_exch hw hn
    refine ⟨⟨hw, hn⟩, ?_, fun _ _ _ _ => rfl⟩
    show mX4_exchangeEstimates τ = some ((mX4_exchangeEstimates τ).getD τ)
    rw [e]; rfl
  | succ k ih =>
    obtain ⟨⟨w, n⟩, e, f⟩ := ih
    obtain ⟨t, e1, e2, -⟩ := cl_exch w n
    have et : Tc mX4_exchangeEstimates τ (k + 1) = t := Option.some.inj (e.symm.trans e1)
    have w2 : WF (Tc mX4_exchangeEstimates τ (k + 1)) c := by
      rw [et]; exact w.of (fun a b hab => e2 a b (by omega) (by omega))
    have n2 : NV (Tc mX4_exchangeEstimates τ (k + 1)) (lk (Tc mX4_exchangeEstimates τ (k + 1))) := by
      rw [et]
      intro a ha
      rw [e2 21 a (by omega) (by omega)]
      exact ⟨(n a ha).1, fun b hb => by rw [(n a ha).2 b hb]; exact (lk_of5 (fun a b hab => e2 a b (by omega) (by omega)) a b).symm⟩
    refine ⟨⟨w2, n2⟩, ?_, fun a b h1 h2 => by rw [et, e2 a b h1 h2]; exact f a b h1 h2⟩
    obtain ⟨u, g, -⟩ := cl_exch w2 n2
    show mX4_exchangeEstimates (Tc mX4_exchangeEstimates τ (k + 1)) = some ((mX4_exchangeEstimates (Tc mX4_exchangeEstimates τ (k + 1))).getD _)
    rw [g]; rfl
/-- least and greatest of the first members -/
def MM (E : Nat → Int32) : Nat → Int32 × Int32
  | 0 => (E 0, E 0)
  | i + 1 => if i = 0 then (E 0, E 0) else (if E i < (MM E i).1 then E i else (MM E i).1, if (MM E i).2 < E i then E i else (MM E i).2)
theorem MM_s {E : Nat → Int32} {i : Nat} (h : 1 ≤ i) : MM E (i + 1) = (if E i < (MM E i).1 then E i else (MM E i).1, if (MM E i).2 < E i then E i else (MM E i).2) := by
  rw [MM, if_neg (by omega)]
def sp (E : Nat → Int32) (c : Nat) : Int32 := if c = 0 then 0 else (MM E c).2 - (MM E c).1
theorem k_spanC {τ : fm_S} {c : Nat} (hw : WF τ c) : mX4_spanOfEstimates τ = some (sp (τ.1 5) c) := by
  have hc := hw.1
  rw [mX4_spanOfEstimates, hw.2.1]
  by_cases h0 : c = 0
  · subst h0; rw [if_pos (by decide)]; rfl
  · rw [if_neg (nI_ne0 (by omega) (by omega))]
    have c0 := chk8 (j := 0) (N := 8) (by omega) (by decide)
    have c0' : ((0 : Int32) < 0 ∨ 8 ≤ (0 : Int32).toNatClampNeg) = False := c0
    simp only [c0', if_false]
    have z0 : rI τ 5 0 = τ.1 5 0 := rIn τ 5 (j := 0) (by omega)
    obtain ⟨t, e1, e2⟩ := lpU (fun n x (a : Int32 × Int32) => mX4_spanOfEstimates_L25 n a.1 a.2 x τ) c (fun i a => 1 ≤ i ∧ a = MM (τ.1 5) i) (fun t => t = MM (τ.1 5) c)
      (fun n a ha => ⟨a, by simp only [mX4_spanOfEstimates_L25]; rw [hw.2.1, if_pos (nI_le (Nat.le_refl _) (by omega))], ha.2⟩)
      (fun n i a hi ha => ⟨MM (τ.1 5) (i + 1), by
        simp only [mX4_spanOfEstimates_L25]
        rw [hw.2.1, if_neg (nI_ge hi (by omega))]
        simp only [chk8 (show i < 8 by omega) (by decide), if_false]
        rw [rIn _ _ (by omega), nI_1, ha.2, MM_s ha.1], by omega, rfl⟩)
      fF 1 (τ.1 5 0, τ.1 5 0) (by omega) (by unfold fF; omega) ⟨by omega, rfl⟩
    have e1 : mX4_spanOfEstimates_L25 fF (τ.1 5 0) (τ.1 5 0) 1 τ = some t := e1
    rw [z0, e1, e2]
    show some _ = _
    rw [sp, if_neg h0]
theorem k_spanM {σ τ : fm_S} {c : Nat} (hw : WF τ c) (hv : MV σ τ c) : ∃ p : Int32 × Int32, mX5_agree_L51 fF (rI σ 45 0) (rI σ 45 0) 1 σ = some p ∧ p.2 - p.1 = sp (τ.1 5) c := by
  have hc := hw.1
  have h45 : ∀ a, a < 8 → σ.1 45 a = τ.1 5 a := fun a ha => (hv.2.2.1 a ha).2.2.2.1
  have z0 : rI σ 45 0 = τ.1 5 0 := (rIn σ 45 (j := 0) (by omega)).trans (h45 0 (by omega))
  rw [z0]
  by_cases h0 : c = 0
  · subst h0
    refine ⟨(τ.1 5 0, τ.1 5 0), ?_, by show _ - _ = _; rw [Int32.sub_self]; rfl⟩
    have : ∀ n, mX5_agree_L51 (n + 1) (τ.1 5 0) (τ.1 5 0) 1 σ = some (τ.1 5 0, τ.1 5 0) := by
      intro n
      simp only [mX5_agree_L51]
      rw [hv.1, if_pos (by decide)]
    exact this 999
  · obtain ⟨t, e1, e2⟩ := lpU (fun n x (a : Int32 × Int32) => mX5_agree_L51 n a.1 a.2 x σ) c (fun i a => 1 ≤ i ∧ a = MM (τ.1 5) i) (fun t => t = MM (τ.1 5) c)
      (fun n a ha => ⟨a, by simp only [mX5_agree_L51]; rw [hv.1, if_pos (nI_le (Nat.le_refl _) (by omega))], ha.2⟩)
      (fun n i a hi ha => ⟨MM (τ.1 5) (i + 1), by
        simp only [mX5_agree_L51]
        rw [hv.1, if_neg (nI_ge hi (by omega))]
        simp only [chk8 (show i < 8 by omega) (by decide), if_false]
        rw [rIn _ _ (by omega), nI_1, h45 i (by omega), ha.2, MM_s ha.1]
        generalize (MM (τ.1 5) i).1 = x
        generalize (MM (τ.1 5) i).2 = y
        generalize τ.1 5 i = z
        have e3 : (if x ≤ z then some x else some z) = some (if z < x then z else x) := by
          by_cases q : z < x
          · rw [if_pos q, if_neg (Int32.not_le.mpr q)]
          · rw [if_neg q, if_pos (Int32.not_lt.mp q)]
        rw [e3, b1s]
        by_cases q : y < z
        · rw [if_pos q, if_neg (Int32.not_le.mpr q)]
        · rw [if_neg q, if_pos (Int32.not_lt.mp q)], by omega, rfl⟩)
      fF 1 (τ.1 5 0, τ.1 5 0) (by omega) (by unfold fF; omega) ⟨by omega, rfl⟩
    exact ⟨t, e1, by rw [e2, sp, if_neg h0]⟩
theorem c_agree {τ : fm_S} (h : RR τ) (x1 : Int32) : OI (mL_agree x1 τ) (mX5_agree x1) := by
  obtain ⟨c, hw, hv⟩ := h
  have hc := hw.1
  rcases k_rounds x1 τ with ⟨hr, e1⟩ | ⟨hr, e1⟩
  · obtain ⟨r, r1, r2, rfl⟩ := win_n hr
    obtain ⟨τd, d1, d2, d3⟩ := k_draw hw
    have sd : scr τ τd := scr.row d2 (by decide)
    have wd := sd.wf hw
    have nd : NV τd (lk τd) := fun a ha => ⟨(d3 a ha).1, fun b hb => by rw [(d3 a ha).2 b hb]; exact (sd.lk a b).symm⟩
    obtain ⟨t, c1, c2⟩ := lpU (fun n x2 s => mX4_agree_L10 n (nI r) x2 s) r (fun i s => s = Tc mX4_exchangeEstimates τd i) (fun s => s = Tc mX4_exchangeEstimates τd r)
      (fun n s hs => ⟨s, by simp only [mX4_agree_L10]; rw [if_pos (nI_le (Nat.le_refl _) (by omega))], hs⟩)
      (fun n i s hi hs => ⟨_, by
        simp only [mX4_agree_L10]
        rw [if_neg (nI_ge hi (by omega)), hs, (Te_wf wd nd i).2.1, b1s, nI_1], rfl⟩)
      fF 0 τd (Nat.zero_le _) (by unfold fF; omega) rfl
    have c1 : mX4_agree_L10 fF (nI r) 0 τd = some t := c1
    subst c2
    obtain ⟨⟨wr, -⟩, -, fr⟩ := Te_wf wd nd r
    obtain ⟨v, hvv⟩ : ∃ v, v = sp ((Tc mX4_exchangeEstimates τd r).1 5) c := ⟨_, rfl⟩
    obtain ⟨σ1, d4⟩ : ∃ z, z = fm_wr (sL (Tc mX4_exchangeEstimates τd r) 55 (0 : Int32) v.toInt64) 61 2 0 := ⟨_, rfl⟩
    have b0 : ∀ a b, ¬ (20 ≤ a ∧ a < 40) → a ≠ 5 → (a = 61 → b ≠ 2) → σ1.1 a b = τd.1 a b := fun a b h0 h1 h3 => by
      rw [d4, wrN _ _ (by omega), st55a]; exact fr a b (by omega) h1
    have hvd : MV τ τd c := hv.tau (fun a b hab => sd a b (by omega))
    have hv1 : MV σ1 τd c := hvd.of (fun a b hab => by rw [b0 a b (by omega) (by omega) (by omega)]; exact sd a b (by omega)) (fun _ _ _ => rfl)
    obtain ⟨S, m1, m2, m3, m4⟩ := lpU (fun n x3 s => mX5_agree_L19 n (nI r) x3 s) r (fun i s => MV s (Tc mX4_exchangeEstimates τd i) c ∧ (∀ a b, a ≠ 51 → a ≠ 45 → s.1 a b = σ1.1 a b) ∧ s.2 = σ1.2) (fun s => MV s (Tc mX4_exchangeEstimates τd r) c ∧ (∀ a b, a ≠ 51 → a ≠ 45 → s.1 a b = σ1.1 a b) ∧ s.2 = σ1.2)
      (fun n s hs => ⟨s, by simp only [mX5_agree_L19]; rw [if_pos (nI_le (Nat.le_refl _) (by omega))], hs⟩)
      (fun n i s hi hs => by
        obtain ⟨⟨wi, ni⟩, ei, -⟩ := Te_wf wd nd i
        obtain ⟨t', g1, g2, g3⟩ := cl_exch wi ni
        have et : t' = Tc mX4_exchangeEstimates τd (i + 1) := Option.some.inj (g1.symm.trans ei)
        subst et
        obtain ⟨s', k1, k2, k3, k4⟩ := md_exch wi hs.1
        refine ⟨s', ?_, mv_exch hs.1 g2 g3 k2 k4, fun a b h1 h2 => by rw [k2 a b h1 h2]; exact hs.2.1 a b h1 h2, by rw [k3]; exact hs.2.2⟩
        simp only [mX5_agree_L19]
        rw [if_neg (nI_ge hi (by omega)), k1, b1s, nI_1])
      fF 0 σ1 (Nat.zero_le _) (by unfold fF; omega) ⟨hv1, fun _ _ _ _ => rfl, rfl⟩
    have m1 : mX5_agree_L19 fF (nI r) 0 σ1 = some S := m1
    obtain ⟨p, s1, s2⟩ := k_spanM wr m2
    refine ⟨0, sL (Tc mX4_exchangeEstimates τd r) 55 (0 : Int32) v.toInt64, v, S, ?_, ?_, ?_, ?_, ?_⟩
    · rw [mL_agree, h2o (r := v) (σ := Tc mX4_exchangeEstimates τd r)]
      · simp only [chk1, if_false]
      · rw [mX4_agree, e1, xo, d1, b1s, c1, b1s, k_spanC wr, b1s, hvv]
    · rw [mX5_agree, k_in, hr, b1s, show mX5_goes (bI true) (1 : Int32) _ = _ from k_goes true true _, b2s, if_neg (by decide)]
      simp only [if_true]
      rw [← d4, m1, b1s]
      have c0' : ((0 : Int32) < 0 ∨ 8 ≤ (0 : Int32).toNatClampNeg) = False := chk8 (j := 0) (N := 8) (by omega) (by decide)
      simp only [c0', if_false]
      rw [s1]
      show some (p.2 - p.1, S) = _
      rw [s2, hvv]
    · rw [k_thrown, m3 61 2 (by omega) (by omega), d4, wrS]
    · intro _
      show S.2 55 _ = _
      rw [m4, d4]
      exact st55 (Tc mX4_exchangeEstimates τd r) v.toInt64
    · refine fin wr m2 (fun a b hab => ?_)
      rw [m3 a b (by omega) (by omega), d4, wrN _ _ (by omega), st55a]
  · refine ⟨1, τ, 0, fm_wr τ 61 2 1, ?_, ?_, (bad hw hv 1).1, fun q => absurd q (by decide), (bad hw hv 1).2⟩
    · rw [mL_agree, h2e (σ := τ) (E := "java/lang/IllegalArgumentException")]
      · rfl
      · rw [mX4_agree, e1, xe]
    · rw [mX5_agree, k_in, hr, b1s, show mX5_goes (bI false) (1 : Int32) _ = _ from k_goes false true _, b2s]; rfl
end LVK
