section PVV
theorem fz1 (σ : fm_S) (k : Nat) {a b : Nat} (h : a ≠ k) : (fm_z σ k).1 a b = σ.1 a b := by simp [fm_z, h]
theorem fz0 (σ : fm_S) (k b : Nat) : (fm_z σ k).1 k b = 0 := by simp [fm_z]
theorem k_spreadL {σ τ : fm_S} {c : Nat} (hw : WF τ c) (hg : GE σ τ c) (hl : LSP σ τ c) (hn : NW τ c) : ∃ σ', mL_spread σ = some (SC τ c, σ') ∧ spE c σ σ' ∧ ∀ i, i < c → σ'.1 40 (8 * i + 5) = τ.1 6 i + SD τ 6 c i ∧ σ'.1 40 (8 * i + 6) = τ.1 7 i + SD τ 7 c i ∧ σ'.1 40 (8 * i + 7) = SL τ c i + 1 := by
  have hc := hg.1
  obtain ⟨⟨n1, s1⟩, e1, g0, g1, g2, g3⟩ := lpU (fun n x5 (a : Int32 × fm_S) => mL_spread_L16 n a.1 x5 a.2) c
    (fun i a => a.1 = SC τ i ∧ (∀ x b, x ≠ 43 → x ≠ 44 → ¬ (x = 40 ∧ b % 8 = 7 ∧ b < 8 * c) → a.2.1 x b = σ.1 x b) ∧ (∀ x, x < 8 → a.2.1 43 x = SD τ 6 i x ∧ a.2.1 44 x = SD τ 7 i x) ∧ ∀ x, x < c → a.2.1 40 (8 * x + 7) = SL τ i x + 1)
    (fun a => a.1 = SC τ c ∧ (∀ x b, x ≠ 43 → x ≠ 44 → ¬ (x = 40 ∧ b % 8 = 7 ∧ b < 8 * c) → a.2.1 x b = σ.1 x b) ∧ (∀ x, x < 8 → a.2.1 43 x = SD τ 6 c x ∧ a.2.1 44 x = SD τ 7 c x) ∧ ∀ x, x < c → a.2.1 40 (8 * x + 7) = SL τ c x + 1)
    (fun n a ha => ⟨a, by
      have m40 : a.2.1 40 40 = nI c := (ha.2.1 40 40 (by omega) (by omega) (by omega)).trans hg.2.1
      simp only [mL_spread_L16, c40, if_false, r40, m40]
      rw [if_pos (nI_le (Nat.le_refl _) (by omega))], ha⟩)
    (fun n i a hi ha => by
      obtain ⟨a1, s⟩ := a
      obtain ⟨x0, x1, x2, x3⟩ := ha
      dsimp only at x0 x1 x2 x3
      subst x0
      obtain ⟨s', y1, y2, y3, y4⟩ := k_handStep hw hg hl hn hi x1 x2 x3 n
      exact ⟨(SC τ (i + 1), s'), y1, rfl, y2, y3, y4⟩)
    fG 0 (0, fm_z (fm_z σ 43) 44) (Nat.zero_le _) (by unfold fG; omega) ⟨rfl, fun x b h1 h2 h3 => by
      show (fm_z (fm_z σ 43) 44).1 x b = _
      rw [fz1 _ _ h2, fz1 _ _ h1], fun x hx => by
      show (fm_z (fm_z σ 43) 44).1 43 x = 0 ∧ (fm_z (fm_z σ 43) 44).1 44 x = 0
      exact ⟨by rw [fz1 _ _ (by omega), fz0], fz0 _ _ _⟩, fun x hx => by
      show (fm_z (fm_z σ 43) 44).1 40 (8 * x + 7) = _
      rw [fz1 _ _ (by omega), fz1 _ _ (by omega), (hl x hx).2.2, SL, if_neg (by omega)]⟩
  dsimp only at g0 g1 g2 g3
  have e1 : mL_spread_L16 fG 0 0 (fm_z (fm_z σ 43) 44) = some (n1, s1) := e1
  have sp1 : spE c σ s1 := fun a b h1 h2 h3 => g1 a b h1 h2 (by omega)
  have b5 : ∀ i, i < c → s1.1 40 (8 * i + 5) = τ.1 6 i := fun i hi => (g1 _ _ (by omega) (by omega) (by omega)).trans (hl i hi).1
  have b6 : ∀ i, i < c → s1.1 40 (8 * i + 6) = τ.1 7 i := fun i hi => (g1 _ _ (by omega) (by omega) (by omega)).trans (hl i hi).2.1
  obtain ⟨s2, e2, q1, q2, q3⟩ := lpU (fun n x5 (s : fm_S) => mL_spread_L189 n x5 s) c
    (fun i s => (∀ x b, ¬ (x = 40 ∧ b < 8 * c ∧ (b % 8 = 5 ∨ b % 8 = 6)) → s.1 x b = s1.1 x b) ∧ (∀ x, x < i → s.1 40 (8 * x + 5) = τ.1 6 x + SD τ 6 c x ∧ s.1 40 (8 * x + 6) = τ.1 7 x + SD τ 7 c x) ∧ ∀ x, i ≤ x → x < c → s.1 40 (8 * x + 5) = τ.1 6 x ∧ s.1 40 (8 * x + 6) = τ.1 7 x)
    (fun s => (∀ x b, ¬ (x = 40 ∧ b < 8 * c ∧ (b % 8 = 5 ∨ b % 8 = 6)) → s.1 x b = s1.1 x b) ∧ (∀ x, x < c → s.1 40 (8 * x + 5) = τ.1 6 x + SD τ 6 c x ∧ s.1 40 (8 * x + 6) = τ.1 7 x + SD τ 7 c x) ∧ ∀ x, c ≤ x → x < c → s.1 40 (8 * x + 5) = τ.1 6 x ∧ s.1 40 (8 * x + 6) = τ.1 7 x)
    (fun n s hs => ⟨s, by
      have m40 : s.1 40 40 = nI c := (hs.1 40 40 (by omega)).trans ((g1 40 40 (by omega) (by omega) (by omega)).trans hg.2.1)
      simp only [mL_spread_L189, c40, if_false, r40, m40]
      rw [if_pos (nI_le (Nat.le_refl _) (by omega))], hs⟩)
    (fun n i s hi hs => by
      obtain ⟨h1, h2, h3⟩ := hs
      have m40 : s.1 40 40 = nI c := (h1 40 40 (by omega)).trans ((g1 40 40 (by omega) (by omega) (by omega)).trans hg.2.1)
      obtain ⟨h5, h6⟩ := h3 i (Nat.le_refl _) hi
      have h43 : s.1 43 i = SD τ 6 c i := (h1 43 i (by omega)).trans (g2 i (by omega)).1
      have h44 : s.1 44 i = SD τ 7 c i := (h1 44 i (by omega)).trans (g2 i (by omega)).2
      refine ⟨fm_wr (fm_wr s 40 (8 * i + 5) (τ.1 6 i + SD τ 6 c i)) 40 (8 * i + 6) (τ.1 7 i + SD τ 7 c i), ?_, fun x b h => ?_, fun x hx => ?_, fun x hx1 hx2 => ?_⟩
      · simp only [mL_spread_L189, c40, if_false, r40, m40]
        rw [if_neg (nI_ge hi (by omega))]
        simp only [ix8', o8_5, o8_6, chk8 (show 8 * i + 5 < 48 by omega) (by decide), chk8 (show 8 * i + 6 < 48 by omega) (by decide), chk8 (show i < 8 by omega) (by decide), if_false]
        rw [b1s, b1s, sIn _ _ _ (by omega), sIn _ _ _ (by omega)]
        simp only [rIn _ _ (show i < 2 ^ 31 by omega), rIn _ _ (show 8 * i + 6 < 2 ^ 31 by omega), rIn _ _ (show 8 * i + 5 < 2 ^ 31 by omega)]
        rw [wrN _ _ (show (40 : Nat) ≠ 40 ∨ 8 * i + 6 ≠ 8 * i + 5 by omega), wrN _ _ (show (44 : Nat) ≠ 40 ∨ i ≠ 8 * i + 5 by omega), h5, h6, h43, h44, nI_1]
      · rw [wrN _ _ (by omega), wrN _ _ (by omega)]; exact h1 x b h
      · by_cases e : x = i
        · subst e
          exact ⟨by rw [wrN _ _ (by omega), wrS], wrS _ _ _ _⟩
        · rw [wrN _ _ (by omega), wrN _ _ (by omega), wrN _ _ (by omega), wrN _ _ (by omega)]; exact h2 x (by omega)
      · rw [wrN _ _ (by omega), wrN _ _ (by omega), wrN _ _ (by omega), wrN _ _ (by omega)]; exact h3 x (by omega) hx2)
    fG 0 s1 (Nat.zero_le _) (by unfold fG; omega) ⟨fun _ _ _ => rfl, fun x hx => absurd hx (by omega), fun x _ hx => ⟨b5 x hx, b6 x hx⟩⟩
  have e2 : mL_spread_L189 fG 0 s1 = some s2 := e2
  refine ⟨s2, by rw [mL_spread, e1, b2s, e2, b1s, g0], fun a b h1 h2 h3 => ?_, fun i hi => ⟨(q2 i hi).1, (q2 i hi).2, ?_⟩⟩
  · rw [q1 a b (by omega)]; exact sp1 a b h1 h2 h3
  · rw [q1 _ _ (by omega)]; exact g3 i hi
/-- class states alike but for scratch -/
def alike (τ τ' : fm_S) : Prop := ∀ a b, a < 20 ∨ a = 60 → τ'.1 a b = τ.1 a b
theorem rh_al {τ τ' : fm_S} (h : alike τ τ') (i : Nat) : rh τ' i = rh τ i := by
  unfold rh
  rw [h 8 i (by omega), show lk τ' i = lk τ i from funext fun j => lk_of h i j]
theorem SC_al {τ τ' : fm_S} (h : alike τ τ') : ∀ n, SC τ' n = SC τ n
  | 0 => rfl
  | n + 1 => by rw [SC, SC, rh_al h, SC_al h n]
theorem SD_al {τ τ' : fm_S} (h : alike τ τ') {q : Nat} (hq : q < 20) : ∀ n, SD τ' q n = SD τ q n
  | 0 => rfl
  | n + 1 => by rw [SD, SD, rh_al h, SD_al h hq n, h q n (by omega)]
theorem SL_al {τ τ' : fm_S} (h : alike τ τ') (c i : Nat) : SL τ' c i = SL τ c i := by
  unfold SL; rw [rh_al h, h 8 i (by omega)]
theorem hand_al {τ τ' : fm_S} {c : Nat} (h : alike τ τ') (hw : WF τ c) (hn : NV τ (lk τ)) (hw' : WF τ' c) (hn' : NV τ' (lk τ')) : ∀ k, alike (Tc hS τ k) (Tc hS τ' k) := by
  intro k
  induction k with
  | zero => exact h
  | succ k ih =>
    obtain ⟨⟨w, n⟩, e, -⟩ := Th_wf hw hn k
    obtain ⟨⟨w', n'⟩, e', -⟩ := Th_wf hw' hn' k
    obtain ⟨t, a1, a2, a3, a4, a5⟩ := cl_hand w n
    obtain ⟨t', b1, b2, b3, b4, b5⟩ := cl_hand w' n'
    have et : Tc hS τ (k + 1) = t := (Prod.mk.inj (Option.some.inj (e.symm.trans a1))).2
    have et' : Tc hS τ' (k + 1) = t' := (Prod.mk.inj (Option.some.inj (e'.symm.trans b1))).2
    rw [et, et']
    intro a b hab
    by_cases h6 : a = 6
    · subst h6; rw [a3, b3, SD_al ih (by omega), ih 6 b (by omega)]
    · by_cases h7 : a = 7
      · subst h7; rw [a4, b4, SD_al ih (by omega), ih 7 b (by omega)]
      · by_cases h8 : a = 8
        · subst h8; rw [a5, b5, SL_al ih]
        · rw [a2 a b (by omega) (by omega) h6 h7 h8, b2 a b (by omega) (by omega) h6 h7 h8]; exact ih a b hab
theorem AC_al {τ τ' : fm_S} {c : Nat} (h : alike τ τ') (hw : WF τ c) (hn : NV τ (lk τ)) (hw' : WF τ' c) (hn' : NV τ' (lk τ')) : ∀ k, AC τ' c k = AC τ c k
  | 0 => rfl
  | k + 1 => by rw [AC, AC, AC_al h hw hn hw' hn' k, SC_al (hand_al h hw hn hw' hn' k)]
theorem NV_lk {τ τ' : fm_S} (h : scr τ τ') (hn : NV τ' (lk τ)) : NV τ' (lk τ') := by rw [scr_lk h]; exact hn
theorem k_spreadC {τ τd : fm_S} {c r : Nat} (hw : WF τ c) (hal : alike τ τd) (wd : WF τd c) (nd : NV τd (lk τd)) (h1 : 1 ≤ r) (h2 : r ≤ 50) : ∃ τ', mX4_spread (nI r) τ = some (AC τd c r, τ') ∧ (∀ a b, ¬ (20 ≤ a ∧ a < 40) → a ≠ 6 → a ≠ 7 → a ≠ 8 → τ'.1 a b = τ.1 a b) ∧ alike (Tc hS τd r) τ' := by
  obtain ⟨τ1, e1, r1, n1⟩ := k_draw hw
  have s1 : scr τ τ1 := scr.row r1 (by decide)
  have hw1 := s1.wf hw
  have n1' := NV_lk s1 n1
  have al1 : alike τd τ1 := fun a b hab => by rw [s1 a b (by omega), hal a b hab]
  obtain ⟨t, c1, c2⟩ := lpU (fun n x3 (a : Int32 × fm_S) => mX4_spread_L12 n (nI r) a.1 x3 a.2) r (fun i a => a = (AC τ1 c i, Tc hS τ1 i)) (fun a => a = (AC τ1 c r, Tc hS τ1 r))
    (fun n a ha => ⟨a, by simp only [mX4_spread_L12]; rw [if_pos (nI_le (Nat.le_refl _) (by omega))], ha⟩)
    (fun n i a hi ha => ⟨(AC τ1 c (i + 1), Tc hS τ1 (i + 1)), by
      simp only [mX4_spread_L12]
      rw [if_neg (nI_ge hi (by omega)), ha]
      show mb2 (mX4_handHalves (Tc hS τ1 i)) _ = _
      rw [(Th_wf hw1 n1' i).2.1, b2s, nI_1]; rfl, rfl⟩)
    fF 0 (0, τ1) (Nat.zero_le _) (by unfold fF; omega) rfl
  have c1 : mX4_spread_L12 fF (nI r) 0 0 τ1 = some t := c1
  subst c2
  obtain ⟨-, -, fr⟩ := Th_wf hw1 n1' r
  refine ⟨Tc hS τ1 r, ?_, fun a b h3 h4 h5 h6 => ?_, hand_al al1 wd nd hw1 n1' r⟩
  · rw [mX4_spread, k_win1 h1 h2, b1s, e1, b1s, c1, b2s, AC_al al1 wd nd hw1 n1' r]
  · rw [fr a b (by omega) (by omega) h4 h5 h6, s1 a b h3]
end PVV
