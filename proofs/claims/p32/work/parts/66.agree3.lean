section PVS
/-- the estimates after rounds of agreement -/
def EV (τ : fm_S) (c : Nat) : Nat → Nat → Int32
  | 0 => τ.1 5
  | r + 1 => nE τ c (EV τ c r)
theorem gE_of {τ τ' : fm_S} (h : lk τ' = lk τ) (E : Nat → Int32) (i j : Nat) : gE τ' E i j = gE τ E i j := by
  unfold gE mxd deg
  rw [h]
theorem gE_congr {τ : fm_S} {E E' : Nat → Int32} {i j : Nat} (hi : E i = E' i) (hj : E j = E' j) : gE τ E i j = gE τ E' i j := by
  unfold gE; rw [hi, hj]
theorem nE_congr {τ τ' : fm_S} (h : lk τ' = lk τ) {c : Nat} {E E' : Nat → Int32} (he : ∀ j, j < c → E j = E' j) {i : Nat} (hi : i < c) : nE τ' c E i = nE τ c E' i := by
  unfold nE
  rw [he i hi, rs_congr c (fun j hj => by rw [gE_of h, gE_congr (he i hi) (he j hj)])]
theorem EV_small {τ : fm_S} {c : Nat} (hw : WF τ c) (hE : ∀ i, i < c → small (τ.1 5 i)) : ∀ r i, i < c → small (EV τ c r i)
  | 0, i, hi => hE i hi
  | r + 1, i, hi => nE_small hw (EV_small hw hE r) hi
theorem MM_congr {E E' : Nat → Int32} {c : Nat} (h : ∀ i, i < c → E i = E' i) (h0 : 0 < c) : ∀ i, i ≤ c → MM E i = MM E' i
  | 0, _ => by rw [MM, MM, h 0 h0]
  | i + 1, hi => by
    rw [MM, MM, MM_congr h h0 i (by omega), h i (by omega), h 0 h0]
theorem sp_congr {E E' : Nat → Int32} {c : Nat} (h : ∀ i, i < c → E i = E' i) : sp E c = sp E' c := by
  unfold sp
  by_cases h0 : c = 0
  · rw [if_pos h0, if_pos h0]
  · rw [if_neg h0, if_neg h0, MM_congr h (by omega) c (Nat.le_refl _)]
theorem k_win1 {r : Nat} (h1 : 1 ≤ r) (h2 : r ≤ 50) (τ : fm_S) : mX4_requireRounds (nI r) τ = some τ := by
  rw [mX4_requireRounds, mX4_requireWithin, if_neg (show ¬ nI r < (1 : Int32) from nI_nlt (b := 1) h1 (by omega)), if_pos (show nI r ≤ (50 : Int32) from nI_le (b := 50) h2 (by decide)), b1s]
theorem k_agreeC {τ : fm_S} {c r : Nat} (hw : WF τ c) (hc : c ≤ 5) (hE : ∀ i, i < c → small (τ.1 5 i)) (h1 : 1 ≤ r) (h2 : r ≤ 50) : ∃ τ', mX4_agree (nI r) τ = some (sp (EV τ c r) c, τ') ∧ (∀ a b, ¬ (20 ≤ a ∧ a < 40) → a ≠ 5 → τ'.1 a b = τ.1 a b) ∧ ∀ i, τ'.1 5 i = if i < c then EV τ c r i else τ.1 5 i := by
  obtain ⟨τ1, e1, r1, n1⟩ := k_draw hw
  have s1 : scr τ τ1 := scr.row r1 (by decide)
  have hw1 := s1.wf hw
  have n1' : NV τ1 (lk τ1) := by rw [scr_lk s1]; exact n1
  have hT := Te_wf hw1 n1'
  have hlk : ∀ k, lk (Tc mX4_exchangeEstimates τ1 k) = lk τ := fun k => by
    funext i j
    rw [lk_of5 (fun a b hab => (hT k).2.2 a b (by omega) (by omega)) i j, scr_lk s1]
  have hrow : ∀ k i, (Tc mX4_exchangeEstimates τ1 k).1 5 i = if i < c then EV τ c k i else τ.1 5 i := by
    intro k
    induction k with
    | zero =>
      intro i
      show τ1.1 5 i = _
      rw [s1 5 i (by omega)]; split <;> rfl
    | succ k ih =>
      intro i
      obtain ⟨⟨w, n⟩, e, f⟩ := hT k
      obtain ⟨t, g1, g2, g3⟩ := cl_exch w n
      have et : Tc mX4_exchangeEstimates τ1 (k + 1) = t := Option.some.inj (e.symm.trans g1)
      rw [et, g3 i]
      by_cases hi : i < c
      · rw [if_pos hi, if_pos hi]
        have hsm : ∀ j, j < c → small ((Tc mX4_exchangeEstimates τ1 k).1 5 j) := fun j hj => by
          rw [ih j, if_pos hj]; exact EV_small hw hE k j hj
        rw [D_gE w hc hsm hi]
        exact nE_congr (hlk k) (fun j hj => by rw [ih j, if_pos hj]) hi
      · rw [if_neg hi, if_neg hi, ih i, if_neg hi]
  obtain ⟨t, f1, f2⟩ := lpU (fun n x2 (s : fm_S) => mX4_agree_L10 n (nI r) x2 s) r (fun k s => s = Tc mX4_exchangeEstimates τ1 k) (fun s => s = Tc mX4_exchangeEstimates τ1 r)
    (fun n s hs => ⟨s, by simp only [mX4_agree_L10]; rw [if_pos (nI_le (Nat.le_refl _) (by omega))], hs⟩)
    (fun n k s hk hs => ⟨Tc mX4_exchangeEstimates τ1 (k + 1), by
      simp only [mX4_agree_L10]
      rw [if_neg (nI_ge hk (by omega)), hs, (hT k).2.1, b1s, nI_1], rfl⟩)
    fF 0 τ1 (Nat.zero_le _) (by unfold fF; omega) rfl
  subst f2
  have f1 : mX4_agree_L10 fF (nI r) 0 τ1 = some (Tc mX4_exchangeEstimates τ1 r) := f1
  refine ⟨Tc mX4_exchangeEstimates τ1 r, ?_, fun a b h h' => ?_, hrow r⟩
  · rw [mX4_agree, k_win1 h1 h2, b1s, e1, b1s, f1, b1s, k_spanC (hT r).1.1, b1s, sp_congr (fun i hi => by rw [hrow r i, if_pos hi])]
  · by_cases q : a = 22
    · omega
    · rw [(hT r).2.2 a b q h', s1 a b h]
end PVS
