section PVQ
theorem hm_deg {τ : fm_S} {c : Nat} (hw : WF τ c) (hc : c ≤ 5) {k : Nat} (hk : k < 8) : cnt (hm τ c k).testBit 5 = deg τ k := by
  unfold deg
  rw [← cnt8, cnt_hi (c := 5) (fun j h1 h2 => by rw [lk_symm hw (by omega) h2]; exact lk_hi hw h2 (by omega)) 8 (by omega) (by omega)]
  refine cnt_congr 5 (fun j hj => ?_)
  rw [hm_tb]
  by_cases q : j < c
  · simp [q]
  · rw [lk_symm hw (by omega) (by omega), lk_hi hw (by omega) (by omega)]; simp
def mxd (τ : fm_S) (i j : Nat) : Nat := if deg τ i < deg τ j then deg τ j else deg τ i
/-- what comes to a member from another in a round of agreement -/
def gE (τ : fm_S) (E : Nat → Int32) (i j : Nat) : Int32 := if lk τ i j then (E j - E i) / nI (mxd τ i j + 1) else 0
def nE (τ : fm_S) (c : Nat) (E : Nat → Int32) (i : Nat) : Int32 := E i + rs (gE τ E i) c
def agE (c : Nat) (σ σ' : fm_S) : Prop := ∀ a b, a ≠ 43 → ¬ (a = 40 ∧ b % 8 = 4 ∧ b < 8 * c) → σ'.1 a b = σ.1 a b
theorem agE.ge {σ σ' τ : fm_S} {c : Nat} (h : agE c σ σ') (hg : GE σ τ c) : GE σ' τ c := hg.of (fun b hb => h 40 b (by omega) (by omega)) (fun b => h 41 b (by omega) (by omega)) (fun _ _ _ => Eq.refl _)
theorem k_agIn {τ s : fm_S} {c : Nat} (hw : WF τ c) (hg : GE s τ c) {E : Nat → Int32} (hE : ∀ j, j < c → s.1 43 j = E j) {k : Nat} (hk : k < c) : mL_agreed_L75 fG (nI k) (nI (hm τ c k)) (E k) 0 s = some (nE τ c E k) := by
  have hc := hg.1
  obtain ⟨t, e1, e2⟩ := lpU (fun n x8 (a : Int32) => mL_agreed_L75 n (nI k) (nI (hm τ c k)) a x8 s) c (fun j a => a = E k + rs (gE τ E k) j) (fun t => t = nE τ c E k)
    (fun n a ha => ⟨a, by
      simp only [mL_agreed_L75, c40, if_false, r40, hg.2.1]
      rw [if_pos (nI_le (Nat.le_refl _) (by omega))], ha⟩)
    (fun n j a hj ha => by
      refine ⟨E k + rs (gE τ E k) (j + 1), ?_, rfl⟩
      have d1 := deg_le τ k
      have d2 := deg_le τ j
      simp only [mL_agreed_L75, c40, if_false, r40, hg.2.1]
      rw [if_neg (nI_ge hj (by omega)), k_ones (n := 5) (hm_lt hc k) (by decide), b1s, k_heard hw hg hj, b1s, k_ones (n := 5) (hm_lt hc j) (by decide), b1s, hm_deg hw hc (by omega), hm_deg hw hc (by omega), b1s, b1s, k_ones (n := 5) (hm_lt hc j) (by decide), b1s, hm_deg hw hc (by omega)]
      have hmx : (if nI (deg τ k) ≤ nI (deg τ j) then some (nI (deg τ j)) else some (nI (deg τ k))) = some (nI (mxd τ k j)) := by
        unfold mxd
        by_cases q : deg τ k ≤ deg τ j
        · rw [if_pos (nI_le q (by omega))]
          by_cases q2 : deg τ k < deg τ j
          · rw [if_pos q2]
          · rw [if_neg q2, show deg τ k = deg τ j by omega]
        · rw [if_neg (nI_ge (by omega) (by omega)), if_neg (by omega)]
      have hml : mxd τ k j ≤ 8 := by unfold mxd; split <;> omega
      rw [hmx, b1s, b_bit (Nat.lt_trans (hm_lt hc k) (by decide)) (by omega), hm_tb, nI_1, nI_1]
      have hjc : decide (j < c) = true := by simp [hj]
      rw [hjc, Bool.true_and, rs]
      unfold gE
      cases hb : lk τ k j
      · rw [if_neg (show ¬ (if false = true then (1 : Int32) else 0) = 1 by decide), b1s, b1s, ha, if_neg (show ¬ (false = true) by decide), Int32.add_zero, Int32.add_zero]; rfl
      · rw [if_pos (show (if true = true then (1 : Int32) else 0) = 1 by decide), if_pos rfl]
        simp only [chk8 (show j < 8 by omega) (by decide), chk8 (show k < 8 by omega) (by decide), if_false]
        rw [if_neg (nI_ne0 (by omega) (by omega)), b1s, b1s, rIn _ _ (by omega), rIn _ _ (by omega), hE j hj, hE k hk, ha, Int32.add_assoc]; rfl)
    fG 0 (E k) (Nat.zero_le _) (by unfold fG; omega) (by rw [show rs (gE τ E k) 0 = 0 from rfl, Int32.add_zero])
  have e1 : mL_agreed_L75 fG (nI k) (nI (hm τ c k)) (E k) 0 s = some t := e1
  rw [e1, e2]
theorem k_agreedL {σ τ : fm_S} {c : Nat} (hw : WF τ c) (hg : GE σ τ c) (h0 : 0 < c) {E : Nat → Int32} (hE : ∀ i, i < c → σ.1 40 (8 * i + 4) = E i) : ∃ σ', mL_agreed σ = some (sp (nE τ c E) c, σ') ∧ agE c σ σ' ∧ ∀ i, i < c → σ'.1 40 (8 * i + 4) = nE τ c E i := by
  have hc := hg.1
  have z0 : ∀ a b, a ≠ 43 → (fm_z σ 43).1 a b = σ.1 a b := fun a b h => by simp [fm_z, h]
  obtain ⟨s1, f1, g1, g2⟩ := lpU (fun n x5 (s : fm_S) => mL_agreed_L17 n x5 s) c (fun i s => (∀ a b, a ≠ 43 → s.1 a b = σ.1 a b) ∧ ∀ j, j < i → s.1 43 j = E j) (fun s => (∀ a b, a ≠ 43 → s.1 a b = σ.1 a b) ∧ ∀ j, j < c → s.1 43 j = E j)
    (fun n s hs => ⟨s, by
      have m40 : s.1 40 40 = nI c := (hs.1 40 40 (by omega)).trans hg.2.1
      simp only [mL_agreed_L17, c40, if_false, r40, m40]
      rw [if_pos (nI_le (Nat.le_refl _) (by omega))], hs⟩)
    (fun n i s hi hs => by
      have m40 : s.1 40 40 = nI c := (hs.1 40 40 (by omega)).trans hg.2.1
      refine ⟨fm_wr s 43 i (E i), ?_, fun a b h => by rw [wrN _ _ (by omega)]; exact hs.1 a b h, fun j hj => ?_⟩
      · simp only [mL_agreed_L17, c40, if_false, r40, m40]
        rw [if_neg (nI_ge hi (by omega))]
        simp only [ix8', o8_4, chk8 (show 8 * i + 4 < 48 by omega) (by decide), chk8 (show i < 8 by omega) (by decide), if_false]
        rw [b1s, sIn _ _ _ (by omega), rIn _ _ (by omega), hs.1 40 _ (by omega), hE i hi, nI_1]
      · by_cases e : j = i
        · subst e; exact wrS _ _ _ _
        · rw [wrN _ _ (by omega)]; exact hs.2 j (by omega))
    fG 0 (fm_z σ 43) (Nat.zero_le _) (by unfold fG; omega) ⟨z0, fun j hj => absurd hj (by omega)⟩
  have f1 : mL_agreed_L17 fG 0 (fm_z σ 43) = some s1 := f1
  have ag1 : agE c σ s1 := fun a b h _ => g1 a b h
  obtain ⟨t, f2, s2, g3, g4, g5⟩ := lpU (fun n x5 (st : Int32 × Int32 × fm_S) => mL_agreed_L48 n st.1 st.2.1 x5 st.2.2) c
    (fun i st => (agE c σ st.2.2 ∧ (∀ j, j < c → st.2.2.1 43 j = E j)) ∧ (∀ j, j < i → st.2.2.1 40 (8 * j + 4) = nE τ c E j) ∧ (1 ≤ i → (st.1, st.2.1) = MM (nE τ c E) i))
    (fun t => ∃ s, t = ((MM (nE τ c E) c).1, (MM (nE τ c E) c).2, s) ∧ agE c σ s ∧ ∀ j, j < c → s.1 40 (8 * j + 4) = nE τ c E j)
    (fun n st hP => ⟨st, by
      obtain ⟨⟨p1, p2⟩, p3, p4⟩ := hP
      have m40 : st.2.2.1 40 40 = nI c := (p1 40 40 (by omega) (by omega)).trans hg.2.1
      simp only [mL_agreed_L48, c40, if_false, r40, m40]
      rw [if_pos (nI_le (Nat.le_refl _) (by omega))], st.2.2, by rw [← hP.2.2 h0], hP.1.1, hP.2.1⟩)
    (fun n i st hi hP => by
      obtain ⟨a, b, s⟩ := st
      obtain ⟨⟨p1, p2⟩, p3, p4⟩ := hP
      have hgs := p1.ge hg
      have m40 : s.1 40 40 = nI c := hgs.2.1
      have p2' : ∀ j, j < c → s.1 43 j = E j := p2
      have hin := k_agIn hw hgs p2' hi
      refine ⟨((MM (nE τ c E) (i + 1)).1, (MM (nE τ c E) (i + 1)).2, fm_wr s 40 (8 * i + 4) (nE τ c E i)), ?_, ⟨fun x y h1 h2 => by rw [wrN _ _ (by omega)]; exact p1 x y h1 h2, fun j hj => by rw [wrN _ _ (by omega)]; exact p2 j hj⟩, fun j hj => ?_, fun _ => rfl⟩
      · simp only [mL_agreed_L48, c40, if_false, r40, m40]
        rw [if_neg (nI_ge hi (by omega)), k_heard hw hgs hi, b1s]
        simp only [ix8', o8_4, chk8 (show 8 * i + 4 < 48 by omega) (by decide), chk8 (show i < 8 by omega) (by decide), if_false]
        rw [b1s, rIn _ _ (by omega), p2' i hi, hin, b1s, b1s, sIn _ _ _ (by omega)]
        by_cases e : i = 0
        · subst e
          rw [if_pos nI_0, b1s, if_pos nI_0, nI_1]; rfl
        · have hne : ¬ nI i = 0 := nI_ne0 (by omega) (by omega)
          have hab := p4 (by omega)
          obtain ⟨ha, hb⟩ := Prod.mk.inj hab
          rw [if_neg hne, MM_s (by omega), nI_1]
          have ha : a = (MM (nE τ c E) i).1 := ha
          have hb : b = (MM (nE τ c E) i).2 := hb
          have q1 : (if a ≤ nE τ c E i then some a else some (nE τ c E i)) = some (if nE τ c E i < (MM (nE τ c E) i).1 then nE τ c E i else (MM (nE τ c E) i).1) := by
            rw [ha]
            by_cases q : (MM (nE τ c E) i).1 ≤ nE τ c E i
            · rw [if_pos q, if_neg (Int32.not_lt.mpr q)]
            · rw [if_neg q, if_pos (Int32.not_le.mp q)]
          rw [q1, b1s, if_neg hne, hb]
          by_cases q : nE τ c E i ≤ (MM (nE τ c E) i).2
          · rw [if_pos q, if_neg (Int32.not_lt.mpr q)]
          · rw [if_neg q, if_pos (Int32.not_le.mp q)]
      · by_cases e : j = i
        · subst e; exact wrS _ _ _ _
        · show (fm_wr s 40 (8 * i + 4) (nE τ c E i)).1 40 (8 * j + 4) = _
          rw [wrN _ _ (by omega)]; exact p3 j (by omega))
    fG 0 (rI (fm_z σ 43) 40 (4 : Int32), rI (fm_z σ 43) 40 (4 : Int32), s1) (Nat.zero_le _) (by unfold fG; omega) ⟨⟨ag1, g2⟩, fun j hj => absurd hj (by omega), fun h => absurd h (by omega)⟩
  subst g3
  have f2 : mL_agreed_L48 fG (rI (fm_z σ 43) 40 (4 : Int32)) (rI (fm_z σ 43) 40 (4 : Int32)) 0 s1 = some ((MM (nE τ c E) c).1, (MM (nE τ c E) c).2, s2) := f2
  refine ⟨s2, ?_, g4, g5⟩
  rw [mL_agreed]
  simp only [c4, if_false]
  rw [b1s, b1s, f1, b1s, f2, b3s, sp, if_neg (by omega)]
end PVQ
