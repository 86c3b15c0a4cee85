section PWG
theorem GS_kept {σ σ' : fm_S} {c : Nat} (h : GS σ c) (e : scr σ σ') : GS σ' c := GS.scr h e
/-- one event's way on -/
def evT (xs : Nat → Int32) (L n : Nat) (x6 r105 w23 : Int32) (σ23 : fm_S) : Option (Int32 × fm_S) :=
  if w23 = 0 then
    mL_holds_L72 xs L n (0 : Int32) (x6 + 1) σ23
  else
    mb2 (mL_isLinked σ23) fun r240 σ240 =>
    if r240 = 0 then
      mL_holds_L72 xs L n (0 : Int32) (x6 + 1) σ240
    else
      mb2 (mX4_error σ240) fun r247 σ247 =>
      mb1 (mL_error σ247) fun r254 =>
      if r247 = r254 then
        if (x6 - x6 / (9 : Int32) * (9 : Int32)) < (8 : Int32) then
          mL_holds_L72 xs L n (1 : Int32) (x6 + 1) σ247
        else
          mb2 (mL_isFigure r105 σ247) fun r275 σ275 =>
          if r275 = 0 then
            mL_holds_L72 xs L n (0 : Int32) (x6 + 1) σ275
          else
            mL_holds_L72 xs L n (1 : Int32) (x6 + 1) σ275
      else
        mL_holds_L72 xs L n (0 : Int32) (x6 + 1) σ247
theorem k_evT (xs : Nat → Int32) (L n : Nat) {e z c : Nat} {σ : fm_S} (h : GS σ c) (h0 : 0 < c) (he : e < 90) (hz : z < 1000000) : ∃ σ', evT xs L n (nI e) (nI z) 1 σ = mL_holds_L72 xs L n 1 (nI (e + 1)) σ' ∧ GS σ' c := by
  have ne : ¬ (1 : Int32) = 0 := by decide
  obtain ⟨s1, a1, b1⟩ := k_isLinked h.1 h.2.1 h.2.2.1
  have g1 := h.scr b1
  obtain ⟨s2, a2, b2⟩ := k_errorC g1.1
  have g2 := g1.scr b2
  have e2 := k_errorL g2.1 g2.2.1 g2.2.2.2.1 g2.2.2.2.2.1
  have e3 : er s2 = er s1 := er_al (fun a b hab => b2 a b (by omega))
  have r9 : nI e - nI e / (9 : Int32) * (9 : Int32) = nI (e % 9) := pk_rem (d := 9) (by omega) (by decide) (by decide)
  by_cases q : e % 9 < 8
  · refine ⟨s2, ?_, g2⟩
    unfold evT
    rw [if_neg ne, a1, b2s, if_neg ne, a2, b2s, e2, b1s, e3, if_pos rfl, r9, if_pos (show nI (e % 9) < (8 : Int32) from nI_lt (b := 8) q (by decide)), nI_1]
  · obtain ⟨s3, a3, b3⟩ := k_figure g2.1 g2.2.1 h0 hz
    refine ⟨s3, ?_, g2.scr b3⟩
    unfold evT
    rw [if_neg ne, a1, b2s, if_neg ne, a2, b2s, e2, b1s, e3, if_pos rfl, r9, if_neg (show ¬ nI (e % 9) < (8 : Int32) from nI_nlt (b := 8) (by omega) (by omega)), a3, b2s, if_neg ne, nI_1]
theorem k_event (xs : Nat → Int32) {L : Nat} (hL : L ≤ 260) (n : Nat) {e c : Nat} {σ : fm_S} (h : GS σ c) (h1 : e < 3 → c = e) (h3 : 3 ≤ e → 3 ≤ c) (he : e < 90) : ∃ c' σ', mL_holds_L72 xs L (n + 1) 1 (nI e) σ = mL_holds_L72 xs L n 1 (nI (e + 1)) σ' ∧ GS σ' c' ∧ (e + 1 < 3 → c' = e + 1) ∧ (3 ≤ e + 1 → 3 ≤ c') := by
  have ne : ¬ (1 : Int32) = 0 := by decide
  have m40 : σ.1 40 40 = nI c := h.2.1.2.1
  have hc : c ≤ 5 := h.2.1.1
  have e2 : (2 : Int32) * nI e = nI (2 * e) := pk_mul 2 e
  obtain ⟨w, w15, hw⟩ := k_from xs hL (e := 2 * e) (m := 15) (by omega) (by decide) (by decide)
  obtain ⟨z, zM, hz⟩ := k_from xs hL (e := 2 * e + 1) (m := 1000000) (by omega) (by decide) (by decide)
  have n90 : ¬ (90 : Int32) ≤ nI e := nI_ge (b := 90) he (by decide)
  have hw : mL_from xs L (nI (2 * e)) (15 : Int32) = some (nI w) := hw
  have hz : mL_from xs L (nI (2 * e + 1)) (1000000 : Int32) = some (nI z) := hz
  have body : ∀ (v : Option (Int32 × fm_S)), (if (5 : Int32) ≤ nI c then (mb2 (mL_acts (nI w) (nI z) σ) fun r227 σ227 => some (r227, σ227)) else if nI e < (3 : Int32) then adB (nI z) σ else if nI w = (14 : Int32) then adB (nI z) σ else (mb2 (mL_acts (nI w) (nI z) σ) fun r227 σ227 => some (r227, σ227))) = v → mL_holds_L72 xs L (n + 1) 1 (nI e) σ = mb2 v fun w23 s23 => evT xs L n (nI e) (nI z) w23 s23 := by
    intro v hv
    rw [← hv]
    simp only [mL_holds_L72, c40, if_false, r40, m40]
    rw [if_neg n90, if_neg ne, e2, o8_1, hw, b1s, hz, b1s]
    simp only [adB, r40, m40]
    rfl
  have acts : 0 < c → ∃ s, (mb2 (mL_acts (nI w) (nI z) σ) fun r227 σ227 => some (r227, σ227)) = some (1, s) ∧ GS s c := fun h0 => by
    obtain ⟨s, s1, s2⟩ := k_acts h h0 w15 zM
    exact ⟨s, by rw [s1, b2s], s2⟩
  have done : ∀ c' s, 0 < c' → GS s c' → ((if (5 : Int32) ≤ nI c then (mb2 (mL_acts (nI w) (nI z) σ) fun r227 σ227 => some (r227, σ227)) else if nI e < (3 : Int32) then adB (nI z) σ else if nI w = (14 : Int32) then adB (nI z) σ else (mb2 (mL_acts (nI w) (nI z) σ) fun r227 σ227 => some (r227, σ227))) = some (1, s)) → (e + 1 < 3 → c' = e + 1) → (3 ≤ e + 1 → 3 ≤ c') → ∃ c' σ', mL_holds_L72 xs L (n + 1) 1 (nI e) σ = mL_holds_L72 xs L n 1 (nI (e + 1)) σ' ∧ GS σ' c' ∧ (e + 1 < 3 → c' = e + 1) ∧ (3 ≤ e + 1 → 3 ≤ c') := fun c' s p0 gs hv q1 q3 => by
    obtain ⟨s', y1, y2⟩ := k_evT xs L n gs p0 he zM
    exact ⟨c', s', by rw [body _ hv, b2s, y1], y2, q1, q3⟩
  by_cases c5 : c = 5
  · obtain ⟨s, s1, s2⟩ := acts (by omega)
    exact done c s (by omega) s2 (by rw [if_pos (show (5 : Int32) ≤ nI c from nI_le (a := 5) (by omega) (by omega)), s1]) (by omega) (by omega)
  · have n5 : ¬ (5 : Int32) ≤ nI c := nI_ge (b := 5) (by omega) (by decide)
    obtain ⟨sa, sa1, sa2⟩ := k_adB h (show c < 5 by omega) zM
    by_cases e3 : e < 3
    · exact done (c + 1) sa (by omega) sa2 (by rw [if_neg n5, if_pos (show nI e < (3 : Int32) from nI_lt (b := 3) e3 (by decide)), sa1]) (by omega) (by omega)
    · have n3 : ¬ nI e < (3 : Int32) := nI_nlt (b := 3) (by omega) (by omega)
      by_cases w14 : w = 14
      · exact done (c + 1) sa (by omega) sa2 (by rw [if_neg n5, if_neg n3, if_pos (show nI w = 14 by rw [w14]; rfl), sa1]) (by omega) (by omega)
      · obtain ⟨s, s1, s2⟩ := acts (by omega)
        exact done c s (by omega) s2 (by rw [if_neg n5, if_neg n3, if_neg (show ¬ nI w = 14 from fun q => w14 ((nI_eq (by omega) (by omega)).mp (q : nI w = nI 14))), s1]) (by omega) (by omega)
theorem k_loop (xs : Nat → Int32) {L : Nat} (hL : L ≤ 260) {σ : fm_S} (h : GS σ 0) : ∃ σ', mL_holds_L72 xs L 91 1 0 σ = some (1, σ') := by
  obtain ⟨⟨y, s⟩, e1, e2⟩ := lpU (fun n x6 (a : Int32 × fm_S) => mL_holds_L72 xs L n a.1 x6 a.2) 90
    (fun e a => a.1 = 1 ∧ ∃ c, GS a.2 c ∧ (e < 3 → c = e) ∧ (3 ≤ e → 3 ≤ c))
    (fun a => a.1 = 1)
    (fun n a ha => ⟨a, by simp only [mL_holds_L72]; rw [if_pos (show (90 : Int32) ≤ nI 90 by decide)], ha.1⟩)
    (fun n e a he ha => by
      obtain ⟨a1, s⟩ := a
      obtain ⟨x0, c, x1, x2, x3⟩ := ha
      dsimp only at x0 x1
      subst x0
      obtain ⟨c', s', y1, y2, y3, y4⟩ := k_event xs hL n x1 x2 x3 he
      exact ⟨(1, s'), y1, rfl, c', y2, y3, y4⟩)
    91 0 (1, σ) (Nat.zero_le _) (by omega) ⟨rfl, 0, h, fun _ => rfl, fun q => absurd q (by decide)⟩
  dsimp only at e2
  subst e2
  exact ⟨s, e1⟩
end PWG
