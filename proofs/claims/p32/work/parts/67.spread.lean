section PVT
/-- weights: none below nought, 1024 for each in all -/
def NW (τ : fm_S) (c : Nat) : Prop := ∃ w : Nat → Int, (∀ i, i < c → τ.1 7 i = iI (w i) ∧ 0 ≤ w i) ∧ iS w c = 1024 * c
theorem iS_ge {w : Nat → Int} : ∀ n, (∀ i, i < n → 0 ≤ w i) → 0 ≤ iS w n ∧ ∀ i, i < n → w i ≤ iS w n
  | 0, _ => ⟨Int.le_refl _, fun i hi => absurd hi (by omega)⟩
  | n + 1, h => by
    obtain ⟨a, b⟩ := iS_ge n (fun i hi => h i (by omega))
    have hn := h n (by omega)
    rw [iS]
    refine ⟨by omega, fun i hi => ?_⟩
    by_cases e : i = n
    · subst e; omega
    · have := b i (by omega); omega
theorem NW.le {τ : fm_S} {c : Nat} (h : NW τ c) (hc : c ≤ 8) {i : Nat} (hi : i < c) : ∃ n : Nat, n ≤ 8192 ∧ τ.1 7 i = nI n := by
  obtain ⟨w, h1, h2⟩ := h
  have := (iS_ge c (fun i hi => (h1 i hi).2)).2 i hi
  have h3 := (h1 i hi).2
  refine ⟨(w i).toNat, by omega, ?_⟩
  rw [(h1 i hi).1, ← iI_nat, Int.toNat_of_nonneg h3]
/-- the hand over of the weights, in whole numbers -/
noncomputable def sdz (τ : fm_S) (w : Nat → Int) : Nat → Nat → Int
  | 0 => fun _ => 0
  | n + 1 => if rh τ n = -1 then sdz τ w n else
      fun a => if a = (rh τ n).toNatClampNeg then sdz τ w n a + w n / 2 else if a = n then sdz τ w n n - w n / 2 else sdz τ w n a
theorem half_iI {z : Int} (h : 0 ≤ z) (h2 : z < 1000000) : iI z / (2 : Int32) = iI (z / 2) := by
  have e : (2 : Int32) = nI 2 := rfl
  rw [e, iI_div (by omega) (by decide) (by decide), Int.tdiv_eq_ediv_of_nonneg h]; rfl
theorem SD_sdz {τ : fm_S} {c : Nat} {w : Nat → Int} (hw : ∀ i, i < c → τ.1 7 i = iI (w i) ∧ 0 ≤ w i ∧ w i < 1000000) : ∀ n, n ≤ c → ∀ a, SD τ 7 n a = iI (sdz τ w n a) := by
  intro n
  induction n with
  | zero => intro _ a; rfl
  | succ n ih =>
    intro hn a
    have ih := ih (by omega)
    obtain ⟨x1, x2, x3⟩ := hw n (by omega)
    rw [SD, sdz]
    by_cases h : rh τ n = -1
    · rw [if_pos h, if_pos h]; exact ih a
    · rw [if_neg h, if_neg h]
      by_cases e : a = (rh τ n).toNatClampNeg
      · rw [if_pos e, if_pos e, ih, x1, half_iI x2 x3, iI_add]
      · rw [if_neg e, if_neg e]
        by_cases e2 : a = n
        · rw [if_pos e2, if_pos e2, ih, x1, half_iI x2 x3, iI_sub]
        · rw [if_neg e2, if_neg e2, ih]
theorem iS_two {v v' : Nat → Int} {p q : Nat} {x : Int} (hpq : p ≠ q) (h : ∀ a, v' a = if a = p then v a + x else if a = q then v a - x else v a) : ∀ n, iS v' n = iS v n + (if p < n then x else 0) - (if q < n then x else 0) := by
  intro n
  induction n with
  | zero => simp [iS]
  | succ n ih =>
    rw [iS, iS, ih, h n]
    by_cases e1 : n = p
    · subst e1
      rw [if_pos rfl, if_neg (show ¬ n < n by omega), if_pos (show n < n + 1 by omega)]
      by_cases e2 : q < n
      · rw [if_pos e2, if_pos (by omega)]; omega
      · rw [if_neg e2, if_neg (by omega)]; omega
    · rw [if_neg e1]
      by_cases e2 : n = q
      · subst e2
        rw [if_pos rfl, if_neg (show ¬ n < n by omega), if_pos (show n < n + 1 by omega)]
        by_cases e3 : p < n
        · rw [if_pos e3, if_pos (by omega)]; omega
        · rw [if_neg e3, if_neg (by omega)]; omega
      · rw [if_neg e2]
        have h1 : (p < n + 1) ↔ p < n := by omega
        have h2 : (q < n + 1) ↔ q < n := by omega
        simp only [h1, h2]; omega
theorem sdz_ok {τ : fm_S} {c : Nat} (hw : WF τ c) {w : Nat → Int} (h0 : ∀ i, i < c → 0 ≤ w i) : ∀ n, n ≤ c → iS (sdz τ w n) c = 0 ∧ ∀ a, a < c → (if a < n then -(w a / 2) else 0) ≤ sdz τ w n a := by
  intro n
  induction n with
  | zero =>
    intro _
    refine ⟨?_, fun a _ => by simp [sdz]⟩
    have : ∀ m, iS (sdz τ w 0) m = 0 := by
      intro m
      induction m with
      | zero => rfl
      | succ m ih => rw [iS, ih]; rfl
    exact this c
  | succ n ih =>
    intro hn
    obtain ⟨a1, a2⟩ := ih (by omega)
    have hwn := h0 n (by omega)
    have hc := hw.1
    rcases rh_cases hw (show n < c by omega) with h | ⟨j, j1, j2, h⟩
    · have e : sdz τ w (n + 1) = sdz τ w n := by rw [sdz, if_pos h]
      rw [e]
      refine ⟨a1, fun a ha => ?_⟩
      have := a2 a ha
      by_cases q : a = n
      · subst q
        rw [if_neg (by omega)] at this
        rw [if_pos (by omega)]; omega
      · have : (a < n + 1) ↔ a < n := by omega
        simp only [this]; exact a2 a ha
    · have hne : ¬ rh τ n = -1 := by
        rw [h]
        have : ∀ f, f < 9 → ¬ nI f = -1 := by decide +kernel
        exact this j (by omega)
      have hj : (rh τ n).toNatClampNeg = j := by rw [h]; exact nI_clamp (by omega)
      have e : ∀ a, sdz τ w (n + 1) a = if a = j then sdz τ w n a + w n / 2 else if a = n then sdz τ w n a - w n / 2 else sdz τ w n a := fun a => by
        rw [sdz, if_neg hne, hj]
        by_cases e1 : a = j
        · rw [if_pos e1, if_pos e1]
        · rw [if_neg e1, if_neg e1]
          by_cases e2 : a = n
          · rw [if_pos e2, if_pos e2, e2]
          · rw [if_neg e2, if_neg e2]
      refine ⟨?_, fun a ha => ?_⟩
      · rw [iS_two (p := j) (q := n) j2 e c, a1, if_pos j1, if_pos (by omega)]; omega
      · have := a2 a ha
        have hwa := h0 a ha
        rw [e a]
        by_cases e1 : a = j
        · rw [if_pos e1]
          by_cases q : a < n
          · rw [if_pos q] at this; rw [if_pos (by omega)]; omega
          · rw [if_neg q] at this; rw [if_neg (by omega)]; omega
        · rw [if_neg e1]
          by_cases e2 : a = n
          · rw [if_pos e2]
            rw [if_neg (by omega)] at this
            rw [if_pos (by omega)]
            subst e2; omega
          · rw [if_neg e2]
            have h9 : (a < n + 1) ↔ a < n := by omega
            simp only [h9]; exact this
theorem NW_hand {τ τ' : fm_S} {c : Nat} (hw : WF τ c) (h : NW τ c) (h7 : ∀ i, τ'.1 7 i = if i < c then τ.1 7 i + SD τ 7 c i else τ.1 7 i) : NW τ' c := by
  obtain ⟨w, h1, h2⟩ := h
  have hc := hw.1
  have hb : ∀ i, i < c → w i < 1000000 := fun i hi => by
    have := (iS_ge c (fun i hi => (h1 i hi).2)).2 i hi
    omega
  obtain ⟨a1, a2⟩ := sdz_ok hw (fun i hi => (h1 i hi).2) c (Nat.le_refl _)
  refine ⟨fun i => w i + sdz τ w c i, fun i hi => ⟨?_, ?_⟩, ?_⟩
  · rw [h7 i, if_pos hi, (h1 i hi).1, SD_sdz (fun i hi => ⟨(h1 i hi).1, (h1 i hi).2, hb i hi⟩) c (Nat.le_refl _), iI_add]
  · have := a2 i hi
    have h3 := (h1 i hi).2
    rw [if_pos hi] at this
    show 0 ≤ w i + sdz τ w c i
    omega
  · have : ∀ n, iS (fun i => w i + sdz τ w c i) n = iS w n + iS (sdz τ w c) n := by
      intro n
      induction n with
      | zero => rfl
      | succ n ih => rw [iS, iS, iS, ih]; omega
    rw [this, h2, a1]; omega
end PVT
