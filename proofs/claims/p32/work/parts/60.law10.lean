section PVM
theorem scr_one {τ τ1 : fm_S} (h : scr τ τ1) : one τ1 ↔ one τ := by
  unfold one Gr
  rw [scr_lk h, scr_up h]
theorem k_RK {G : Nat} (hG : G &&& FU5 = G) : ∃ r, r ≤ 25 ∧ mL_rank (nI G) = some (nI r) ∧ RK G r := by
  obtain ⟨r, h1, h2, h3, h4⟩ := k_rankL hG
  exact ⟨r, h1, h2, h3, h4⟩
theorem Gx_FU {G p : Nat} (h25 : G < 2 ^ 25) (hG : G &&& FU5 = G) : Gx G p &&& FU5 = Gx G p := sb_of fun k hk => by
  rw [Gx_tb h25] at hk
  simp only [Bool.and_eq_true] at hk
  exact sb_tb hG hk.1
theorem k_whole {τ : fm_S} {c : Nat} (hw : WF τ c) (hc : c ≤ 5) : ∃ b : Bool, (if nI (UK τ c) = 0 then some (0 : Int32) else mb1 (mL_group (nI (LK τ c)) (nI (loU (UK τ c)))) fun r54 => if r54 = nI (UK τ c) then some (1 : Int32) else some (0 : Int32)) = some (bI b) ∧ (b = true ↔ UK τ c ≠ 0 ∧ one τ) := by
  have hU := UK_lt (τ := τ) hc
  by_cases h0 : UK τ c = 0
  · refine ⟨false, by rw [h0, if_pos nI_0]; rfl, ?_⟩
    simp [h0]
  · obtain ⟨-, -, l3⟩ := q_lo5 _ hU
    obtain ⟨l4, l5⟩ := l3 h0
    have hg := gN_lt (LK τ c) l4
    have hwo := whole_one hw hc h0
    have := LK_lt τ c
    by_cases e : gN (LK τ c) (loU (UK τ c)) = UK τ c
    · refine ⟨true, ?_, by simp only [true_iff]; exact ⟨h0, hwo.mp e⟩⟩
      rw [if_neg (nI_ne0 (by omega) (by omega)), k_groupL (by omega) l4, b1s, e, if_pos rfl]; rfl
    · refine ⟨false, ?_, ?_⟩
      · rw [if_neg (nI_ne0 (by omega) (by omega)), k_groupL (by omega) l4, b1s, if_neg (fun q => e ((nI_eq (by omega) (by omega)).mp q))]; rfl
      · constructor
        · intro q; cases q
        · intro q; exact absurd (hwo.mpr q.2) e
theorem k_figTrees {τ : fm_S} {c : Nat} (hw : WF τ c) (hc : c ≤ 5) {b : Bool} (hb : b = true ↔ UK τ c ≠ 0 ∧ one τ) : ∃ v s3, mX4_trees τ = some (v, s3) ∧ scr τ s3 ∧ (if bI b = 0 then some (0 : Int64) else mb1 (mL_trees (nI (LK τ c)) (nI (UK τ c))) fun r82 => some r82) = some v := by
  obtain ⟨v, s3, t1, t2, t3, t4⟩ := k_treesC hw
  refine ⟨v, s3, t1, t2, ?_⟩
  have hU := UK_lt (τ := τ) hc
  cases b
  · rw [if_pos (show bI false = 0 from rfl)]
    by_cases h0 : UK τ c = 0
    · rw [t3 ((UK_0 hw).mp h0)]
    · have hno : ¬ one τ := fun q => by
        have := hb.mpr ⟨h0, q⟩
        cases this
      have hex : ∃ z, z < 8 ∧ up τ z = true := by
        apply Classical.byContradiction; intro hn
        exact h0 ((UK_0 hw).mpr (fun z hz => by
          cases e : up τ z
          · rfl
          · exact absurd ⟨z, hz, e⟩ hn))
      rw [(t4 hex).2 hno]
  · obtain ⟨h0, ho⟩ := hb.mp rfl
    have hex : ∃ z, z < 8 ∧ up τ z = true := by
      apply Classical.byContradiction; intro hn
      exact h0 ((UK_0 hw).mpr (fun z hz => by
        cases e : up τ z
        · rfl
        · exact absurd ⟨z, hz, e⟩ hn))
    have hv := (t4 hex).1 ho
    rw [lA_AUG hw hc h0, up_cnt hw hc, c2_at hU h0 (LK_PU hw) ((whole_one hw hc h0).mpr ho)] at hv
    rw [if_neg (show ¬ bI true = 0 by decide), k_treesL hU h0 (LK_PU hw), b1s, hv]
theorem k_figRigid {τ : fm_S} {c r : Nat} (hc : c ≤ 5) {b b' : Bool} (hcu : cnt (up τ) 8 = cnt (UK τ c).testBit 5) (hr : r ≤ 25) (hb : b = true ↔ UK τ c ≠ 0 ∧ one τ) (hb' : b' = true ↔ 2 ≤ cnt (up τ) 8 ∧ one τ ∧ r + 3 = 2 * cnt (up τ) 8) :
    (if bI b = 0 then some (0 : Int32) else mb1 (mL_ones (nI (UK τ c))) fun r122 => if r122 ≤ (1 : Int32) then some (0 : Int32) else mb1 (mL_ones (nI (UK τ c))) fun r134 => if nI r = (((2 : Int32) * r134) - (3 : Int32)) then some (1 : Int32) else some (0 : Int32)) = some (bI b') := by
  have hU := UK_lt (τ := τ) hc
  rw [hcu] at hb'
  have hc5 := cnt_le (UK τ c).testBit 5
  cases b
  · rw [if_pos (show bI false = 0 from rfl)]
    have : b' = false := Bool.eq_false_iff.mpr (fun q => by
      have h := hb'.mp q
      have h0 : UK τ c ≠ 0 := fun z => by
        rw [z, pc_0] at h; omega
      have := hb.mpr ⟨h0, h.2.1⟩
      cases this)
    rw [this]; rfl
  · rw [if_neg (show ¬ bI true = 0 by decide), k_ones (n := 5) (by omega) (by decide), b1s]
    have ho := (hb.mp rfl).2
    by_cases h1 : cnt (UK τ c).testBit 5 ≤ 1
    · rw [if_pos (show nI (cnt (UK τ c).testBit 5) ≤ (1 : Int32) from nI_le (b := 1) h1 (by decide))]
      have : b' = false := Bool.eq_false_iff.mpr (fun q => by have h := hb'.mp q; omega)
      rw [this]; rfl
    · rw [if_neg (show ¬ nI (cnt (UK τ c).testBit 5) ≤ (1 : Int32) from nI_ge (a := 1) (by omega) (by omega)), b1s]
      have e6 : (2 : Int32) * nI (cnt (UK τ c).testBit 5) - (3 : Int32) = nI (2 * cnt (UK τ c).testBit 5 - 3) := by
        rw [show (2 : Int32) = nI 2 from rfl, pk_mul, show (3 : Int32) = nI 3 from rfl, pk_sub (by omega)]
      rw [e6]
      by_cases q3 : r + 3 = 2 * cnt (UK τ c).testBit 5
      · have : b' = true := hb'.mpr ⟨by omega, ho, q3⟩
        rw [this, if_pos (show nI r = nI (2 * cnt (UK τ c).testBit 5 - 3) by rw [← q3]; rfl)]; rfl
      · have : b' = false := Bool.eq_false_iff.mpr (fun q => q3 (hb'.mp q).2.2)
        rw [this, if_neg (fun w => q3 (by have := (nI_eq (by omega) (by omega)).mp w; omega))]; rfl
theorem k_linkBit {τ : fm_S} {c : Nat} (hw : WF τ c) (hc : c ≤ 5) {i j : Nat} (hi : i < c) (hj : j < c) : (if nI i = nI j then some (0 : Int32) else mb1 (mL_pair (nI i) (nI j)) fun r189 => if ((nI (LK τ c) >>> (r189 &&& 31)) &&& (1 : Int32)) = (1 : Int32) then some (1 : Int32) else some (0 : Int32)) = some (bI (lk τ i j)) := by
  by_cases e : i = j
  · subst e; rw [if_pos rfl, lk_self]; rfl
  · have hp := pr_lt i (by omega) j (by omega)
    have := LK_lt τ c
    rw [if_neg (fun q => e ((nI_eq (by omega) (by omega)).mp q)), k_pair i (by omega) j (by omega), b1s, b_bit (by omega) (by omega), LK_pr hw hc (by omega) (by omega) e]
    cases lk τ i j <;> rfl
theorem k_figure {τ : fm_S} {c z : Nat} (hw : WF τ c) (hg : GE τ τ c) (h0 : 0 < c) (hz : z < 1000000) : ∃ τ', mL_isFigure (nI z) τ = some (1, τ') ∧ scr τ τ' := by
  have hc := hg.1
  obtain ⟨r, h25, er, hr⟩ := k_RK (LK_FU τ c)
  have hi : z % c < c := Nat.mod_lt _ h0
  have hj : z / 5 % c < c := Nat.mod_lt _ h0
  obtain ⟨r', h25', er', hr'⟩ := k_RK (Gx_FU (p := pr (z % c) (z / 5 % c)) (LK_lt τ c) (LK_FU τ c))
  obtain ⟨b, eb, hb⟩ := k_whole hw hc
  obtain ⟨v, s3, t1, t2, t3⟩ := k_figTrees hw hc hb
  have hw3 := t2.wf hw
  obtain ⟨s4, a1, a2⟩ := k_rankC hw3 hc (by rw [scr_LK t2]; exact hr)
  have t4 := t2.trans a2
  obtain ⟨s5, a3, a4⟩ := k_countingC (t4.wf hw) hc (by rw [scr_LK t4]; exact hr)
  have t5 := t4.trans a4
  obtain ⟨b', s6, a5, a6, hb'⟩ := k_rigidC (t5.wf hw) hc (by rw [scr_LK t5]; exact hr) h25
  rw [scr_up t5, scr_one t5] at hb'
  have t6 := t5.trans a6
  obtain ⟨s7, a7, a8⟩ := k_spareC (t6.wf hw) hc hi hj (by rw [scr_LK t6]; exact hr) (by rw [scr_LK t6]; exact hr') h25 h25'
  have t7 := t6.trans a8
  have hU := UK_lt (τ := τ) hc
  have hm : s6.1 40 40 = nI c := (t6 40 40 (by omega)).trans hg.2.1
  have hp := pr_lt (z % c) (by omega) (z / 5 % c) (by omega)
  have hLK := LK_lt τ c
  refine ⟨s7, ?_, t7⟩
  have eu : mL_up τ = some (nI (UK τ c)) := k_up hg
  rw [mL_isFigure, k_links hw hg, b1s, er, b1s, eu, b1s, (q_lo5 _ hU).2.1, b1s, eb, b1s, t1, b2s, t3, b1s, if_pos ((lg_cmp_eq v v).mpr rfl), a1, b2s, if_pos rfl, a3, b2s, if_pos rfl, a5, b2s, k_figRigid hc (up_cnt hw hc) h25 hb hb', b1s, if_pos rfl, b2s]
  simp only [c40, if_false, r40, hm]
  rw [if_neg (nI_ne0 h0 (by omega)), show nI z / (5 : Int32) = nI (z / 5) from pk_div (d := 5) (by omega) (by decide) (by decide), pk_rem (by omega) h0 (by omega), pk_rem (by omega) h0 (by omega), b1s, b1s, k_linkBit hw hc hi hj, b1s, if_neg (by decide), a7, b2s, scr_lk t6]
  cases hl : lk τ (z % c) (z / 5 % c)
  · rw [if_pos (show bI false = 0 from rfl), b1s, if_neg (show ¬ (false = true) by decide), if_pos rfl]
  · have p31 : 2 ^ pr (z % c) (z / 5 % c) < 2 ^ 31 := Nat.pow_lt_pow_right (by decide) (by omega)
    rw [if_neg (show ¬ bI true = 0 by decide), k_pair _ (by omega) _ (by omega), b1s, b_shl1 _ (by omega), b_andn (by omega) p31]
    have er'' : mL_rank (nI (msk (fun j => (LK τ c).testBit j && !(2 ^ pr (z % c) (z / 5 % c)).testBit j) 31)) = some (nI r') := er'
    rw [er'', b1s, if_pos rfl]
    by_cases q : r' = r
    · rw [if_pos (show nI r' = nI r by rw [q]), b1s, if_pos q, if_pos rfl]
    · rw [if_neg (fun w => q ((nI_eq (by omega) (by omega)).mp w)), b1s, if_neg q, if_pos rfl]
end PVM
