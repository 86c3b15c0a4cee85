section LVB
def sq (τ : fm_S) (i j : Nat) : Int32 := ((τ.1 1 i - τ.1 1 j) * (τ.1 1 i - τ.1 1 j)) + ((τ.1 2 i - τ.1 2 j) * (τ.1 2 i - τ.1 2 j))
def lk (τ : fm_S) (i j : Nat) : Bool := decide (i ≠ j) && decide (τ.1 3 i ≠ 0) && decide (τ.1 3 j ≠ 0) && !(mk (τ.1 19 i) j) && !(decide (τ.1 60 1 * τ.1 60 1 < sq τ i j))
theorem sq_symm (τ : fm_S) (i j : Nat) : sq τ i j = sq τ j i := by
  unfold sq; grind
theorem lk_symm {τ : fm_S} {c : Nat} (h : WF τ c) {i j : Nat} (hi : i < 8) (hj : j < 8) : lk τ i j = lk τ j i := by
  have e1 := h.2.2.2.2.2.1 i hi j hj
  unfold lk
  rw [e1, sq_symm τ i j]
  by_cases e : i = j
  · subst e; rfl
  · have e' : ¬ j = i := fun q => e q.symm
    simp only [ne_eq, e, e', not_false_eq_true, decide_true, Bool.true_and]
    cases decide (¬ τ.1 3 i = 0) <;> cases decide (¬ τ.1 3 j = 0) <;> rfl
theorem lk_of {τ τ' : fm_S} (e : ∀ a b, a < 20 ∨ a = 60 → τ'.1 a b = τ.1 a b) (i j : Nat) : lk τ' i j = lk τ i j := by
  unfold lk sq
  rw [e 3 i (by omega), e 3 j (by omega), e 19 i (by omega), e 60 1 (by omega), e 1 i (by omega), e 1 j (by omega), e 2 i (by omega), e 2 j (by omega)]
theorem lk_self (τ : fm_S) (i : Nat) : lk τ i i = false := by simp [lk]
theorem lk_hi {τ : fm_S} {c : Nat} (h : WF τ c) {i j : Nat} (hi : i < 8) (hc : c ≤ i) : lk τ i j = false := by
  have := h.2.2.2.1 i hc hi
  simp [lk, this]
theorem lk_lt {τ : fm_S} {c : Nat} (h : WF τ c) {i j : Nat} (hi : i < 8) (hj : j < 8) (hl : lk τ i j = true) : i < c ∧ j < c ∧ i ≠ j := by
  refine ⟨?_, ?_, ?_⟩
  · apply Classical.byContradiction; intro q
    rw [lk_hi h hi (by omega)] at hl; cases hl
  · apply Classical.byContradiction; intro q
    rw [lk_symm h hi hj, lk_hi h hj (by omega)] at hl; cases hl
  · intro q; subst q; rw [lk_self] at hl; cases hl
theorem k_joins18 {τ : fm_S} {i j : Nat} (h : m8 (τ.1 19 i)) (hi : i < 8) (hj : j < 8) : mX1_joins18 (nI i) (nI j) τ = some (if mk (τ.1 19 i) j then 1 else 0) := by
  rw [mX1_joins18]
  simp only [chk8 hi (by decide), if_false]
  rw [rIn _ _ (by omega), q_holds h hj, b1s, nar01]
  simp
theorem k_joins20 {τ : fm_S} {i j : Nat} (h : m8 (τ.1 21 i)) (hi : i < 8) (hj : j < 8) : mX1_joins20 (nI i) (nI j) τ = some (if mk (τ.1 21 i) j then 1 else 0) := by
  rw [mX1_joins20]
  simp only [chk8 hi (by decide), if_false]
  rw [rIn _ _ (by omega), q_holds h hj, b1s, nar01]
  simp
theorem k_square {τ : fm_S} {i j : Nat} (hi : i < 8) (hj : j < 8) : mX4_squareBetween (nI i) (nI j) τ = some (sq τ i j) := by
  rw [mX4_squareBetween]
  simp only [chk8 hi (by decide), chk8 hj (by decide), if_false]
  simp only [rIn _ _ (show i < 2 ^ 31 by omega), rIn _ _ (show j < 2 ^ 31 by omega)]
  rfl
theorem k_hears {τ : fm_S} {c : Nat} (h : WF τ c) {i j : Nat} (hi : i < 8) (hj : j < 8) : mX4_hears (nI i) (nI j) τ = some (if lk τ i j then 1 else 0) := by
  rw [mX4_hears]
  by_cases e : i = j
  · subst e
    rw [if_pos rfl, lk_self]; rfl
  · have ne : ¬ nI i = nI j := fun q => e ((nI_eq (by omega) (by omega)).mp q)
    rw [if_neg ne]
    simp only [chk8 hi (by decide), chk8 hj (by decide), if_false, rIn _ _ (show i < 2 ^ 31 by omega), rIn _ _ (show j < 2 ^ 31 by omega)]
    by_cases e1 : τ.1 3 i = 0
    · rw [if_pos e1]; simp [lk, e1]
    · rw [if_neg e1]
      by_cases e2 : τ.1 3 j = 0
      · rw [if_pos e2]; simp [lk, e2]
      · rw [if_neg e2, k_joins18 (h.2.2.2.2.1 i hi) hi hj, b1s]
        by_cases e3 : mk (τ.1 19 i) j = true
        · rw [if_pos e3, if_neg (by decide)]; simp [lk, e3]
        · rw [if_neg e3, if_pos rfl, k_square hi hj, b1s]
          by_cases e4 : τ.1 60 1 * τ.1 60 1 < sq τ i j
          · rw [if_pos e4]; simp [lk, e4]
          · rw [if_neg e4]; simp [lk, e, e1, e2, e3, e4]
theorem ix8 (i j : Nat) : (8 : Int32) * nI i + nI j = nI (8 * i + j) := by
  rw [show (8 : Int32) = nI 8 from rfl, pk_mul, nI_add]
/-- nothing but a row of ints -/
def rowE (q : Nat) (σ σ' : fm_S) : Prop := (∀ a b, a ≠ q → σ'.1 a b = σ.1 a b) ∧ σ'.2 = σ.2
theorem rowE.rfl {q : Nat} {σ : fm_S} : rowE q σ σ := ⟨fun _ _ _ => Eq.refl _, Eq.refl _⟩
theorem rowE.wr {q : Nat} {σ s : fm_S} (h : rowE q σ s) (i : Nat) (v : Int32) : rowE q σ (fm_wr s q i v) := ⟨fun a b hab => by rw [wrN _ _ (Or.inl hab)]; exact h.1 a b hab, h.2⟩
theorem rowE.trans {q : Nat} {a b c : fm_S} (h : rowE q a b) (h' : rowE q b c) : rowE q a c := ⟨fun x y z => (h'.1 x y z).trans (h.1 x y z), h'.2.trans h.2⟩
theorem k_fill (q : Nat) (x : Int32) (σ : fm_S) (hl : fm_len q < 900) : ∃ σ', mJ7_fill_53178 q x σ = some σ' ∧ rowE q σ σ' ∧ ∀ i, i < fm_len q → σ'.1 q i = x := by
  have hl2 : fm_len q < 2 ^ 31 := by omega
  have L := lpU (fun n x2 s => mJ7_fill_53178_L5 q n x x2 (nI (fm_len q)) s) (fm_len q) (fun i s => rowE q σ s ∧ ∀ j, j < i → s.1 q j = x) (fun t => rowE q σ t ∧ ∀ j, j < fm_len q → t.1 q j = x)
    (fun n s hP => ⟨s, by simp only [mJ7_fill_53178_L5]; rw [if_pos (nI_le (Nat.le_refl _) hl2)], hP⟩)
    (fun n i s hi hP => ⟨fm_wr s q i x, by
      simp only [mJ7_fill_53178_L5]
      rw [if_neg (nI_ge hi hl2)]
      simp only [chk8 hi hl2, if_false]
      rw [sIn _ _ _ (by omega), nI_1], hP.1.wr i x, fun j hj => by
        by_cases e : j = i
        · subst e; exact wrS _ _ _ _
        · rw [wrN _ _ (Or.inr e)]; exact hP.2 j (by omega)⟩)
    1000 0 σ (Nat.zero_le _) (by omega) ⟨rowE.rfl, fun j hj => absurd hj (by omega)⟩
  obtain ⟨t, e, h1, h2⟩ := L
  refine ⟨t, ?_, h1, h2⟩
  rw [mJ7_fill_53178]
  show mb1 (mJ7_fill_53178_L5 q 1000 x (nI 0) (nI (fm_len q)) σ) _ = _
  rw [e]; rfl
/-- the net's row: the links -/
def NV (σ : fm_S) (L : Nat → Nat → Bool) : Prop := ∀ a, a < 8 → m8 (σ.1 21 a) ∧ ∀ b, b < 8 → mk (σ.1 21 a) b = L a b
theorem k_join20 {s : fm_S} {i j : Nat} (hi : i < 8) (hj : j < 8) (hij : i ≠ j) (hm : ∀ a, a < 8 → m8 (s.1 21 a)) : ∃ s', mX1_join20 (nI i) (nI j) s = some s' ∧ rowE 21 s s' ∧ ∀ a, a < 8 → m8 (s'.1 21 a) ∧ ∀ b, b < 8 → (mk (s'.1 21 a) b = true ↔ mk (s.1 21 a) b = true ∨ (a = i ∧ b = j) ∨ (a = j ∧ b = i)) := by
  obtain ⟨y, e1, y1, y2⟩ := q_with (hm i hi) hj
  obtain ⟨z, e2, z1, z2⟩ := q_with (hm j hj) hi
  have hz : (fm_wr s 21 i y).1 21 j = s.1 21 j := wrN _ _ (Or.inr (fun q => hij q.symm))
  refine ⟨fm_wr (fm_wr s 21 i y) 21 j z, ?_, (rowE.rfl.wr i y).wr j z, fun a ha => ?_⟩
  · rw [mX1_join20]
    simp only [chk8 hi (by decide), chk8 hj (by decide), if_false, rIn _ _ (show i < 2 ^ 31 by omega), rIn _ _ (show j < 2 ^ 31 by omega), sIn _ _ _ (show i < 2 ^ 31 by omega), sIn _ _ _ (show j < 2 ^ 31 by omega)]
    rw [e1, b1s, hz, e2, b1s]
  · by_cases h1 : a = j
    · subst h1
      rw [wrS]
      refine ⟨z1, fun b hb => ?_⟩
      rw [z2 b hb]
      simp only [Bool.or_eq_true, beq_iff_eq]
      grind
    · rw [wrN _ _ (Or.inr h1)]
      by_cases h2 : a = i
      · subst h2
        rw [wrS]
        refine ⟨y1, fun b hb => ?_⟩
        rw [y2 b hb]
        simp only [Bool.or_eq_true, beq_iff_eq]
        grind
      · rw [wrN _ _ (Or.inr h2)]
        exact ⟨hm a ha, fun b _ => by grind⟩
def dn (i j a b : Nat) : Prop := (a < i ∧ b < i) ∨ (a = i ∧ b < j) ∨ (b = i ∧ a < j)
def dP (τ s : fm_S) (i j : Nat) : Prop := rowE 21 τ s ∧ ∀ a, a < 8 → m8 (s.1 21 a) ∧ ∀ b, b < 8 → (mk (s.1 21 a) b = true ↔ lk τ a b = true ∧ dn i j a b)
theorem k_draw {τ : fm_S} {c : Nat} (hw : WF τ c) : ∃ τ', mX4_drawNet τ = some τ' ∧ rowE 21 τ τ' ∧ NV τ' (lk τ) := by
  have hc := hw.1
  obtain ⟨s0, e0, r0, z0⟩ := k_fill 21 0 τ (by decide)
  have e0' : mX1_clear20 τ = some s0 := by rw [mX1_clear20]; rw [e0]; rfl
  have inner : ∀ i, i < c → ∀ s, dP τ s i 0 → ∃ t, mX4_drawNet_L19 fF (nI i) (nI 0) s = some t ∧ dP τ t (i + 1) 0 := by
    intro i hi s hs
    refine lpU (fun n x s => mX4_drawNet_L19 n (nI i) x s) i (fun j s => dP τ s i j) (fun t => dP τ t (i + 1) 0) ?_ ?_ fF 0 s (by omega) (by unfold fF; omega) hs
    · intro n s h
      refine ⟨s, by simp only [mX4_drawNet_L19]; rw [if_pos (nI_le (Nat.le_refl _) (by omega))], h.1, fun a ha => ⟨(h.2 a ha).1, fun b hb => ((h.2 a ha).2 b hb).trans ?_⟩⟩
      constructor
      · rintro ⟨h1, h2⟩; exact ⟨h1, by unfold dn at *; omega⟩
      · rintro ⟨h1, h2⟩
        have := (lk_lt hw ha hb h1).2.2
        exact ⟨h1, by unfold dn at *; omega⟩
    · intro n j s hj h
      have e : ∀ a b, a < 20 ∨ a = 60 → s.1 a b = τ.1 a b := fun a b hab => h.1.1 a b (by omega)
      have hws : WF s c := hw.of (fun a b hab => e a b (by omega))
      have hh := k_hears hws (show i < 8 by omega) (show j < 8 by omega)
      rw [lk_of e] at hh
      by_cases hl : lk τ i j = true
      · rw [if_pos hl] at hh
        obtain ⟨s', e1, e2, e3⟩ := k_join20 (s := s) (show i < 8 by omega) (show j < 8 by omega) (by omega) (fun a ha => (h.2 a ha).1)
        refine ⟨s', ?_, h.1.trans e2, fun a ha => ⟨(e3 a ha).1, fun b hb => ((e3 a ha).2 b hb).trans ?_⟩⟩
        · simp only [mX4_drawNet_L19]
          rw [if_neg (nI_ge hj (by omega)), hh, b1s, if_neg (by decide), e1, b1s, nI_1]
        · rw [(h.2 a ha).2 b hb]
          have hl' : lk τ j i = true := by rw [lk_symm hw (by omega) (by omega)]; exact hl
          constructor
          · rintro (⟨h1, h2⟩ | ⟨rfl, rfl⟩ | ⟨rfl, rfl⟩)
            · exact ⟨h1, by unfold dn at *; omega⟩
            · exact ⟨hl, by unfold dn; omega⟩
            · exact ⟨hl', by unfold dn; omega⟩
          · rintro ⟨h1, h2⟩
            by_cases q : dn i j a b
            · exact Or.inl ⟨h1, q⟩
            · right; unfold dn at *; omega
      · rw [if_neg hl] at hh
        refine ⟨s, ?_, h.1, fun a ha => ⟨(h.2 a ha).1, fun b hb => ((h.2 a ha).2 b hb).trans ?_⟩⟩
        · simp only [mX4_drawNet_L19]
          rw [if_neg (nI_ge hj (by omega)), hh, b1s, if_pos rfl, nI_1]
        · constructor
          · rintro ⟨h1, h2⟩; exact ⟨h1, by unfold dn at *; omega⟩
          · rintro ⟨h1, h2⟩
            refine ⟨h1, ?_⟩
            apply Classical.byContradiction
            intro q
            have : (a = i ∧ b = j) ∨ (b = i ∧ a = j) := by unfold dn at *; omega
            rcases this with ⟨rfl, rfl⟩ | ⟨rfl, rfl⟩
            · exact hl h1
            · rw [lk_symm hw (by omega) (by omega)] at h1; exact hl h1
  have hs0 : dP τ s0 0 0 := ⟨r0, fun a ha => by
    have : s0.1 21 a = nI 0 := z0 a ha
    refine ⟨⟨0, by omega, this⟩, fun b hb => ?_⟩
    rw [this, mkn (by omega), Nat.zero_testBit]
    constructor
    · intro q; cases q
    · rintro ⟨_, q⟩; unfold dn at q; omega⟩
  obtain ⟨t, e1, e2⟩ := lpU (fun n x s => mX4_drawNet_L9 n x s) c (fun i s => dP τ s i 0) (fun t => dP τ t c 0)
    (fun n s h => ⟨s, by
      have e60 : s.1 60 0 = nI c := (h.1.1 60 0 (by omega)).trans hw.2.1
      simp only [mX4_drawNet_L9]; rw [e60, if_pos (nI_le (Nat.le_refl _) (by omega))], h⟩)
    (fun n i s hi h => by
      have e60 : s.1 60 0 = nI c := (h.1.1 60 0 (by omega)).trans hw.2.1
      obtain ⟨t, e1, e2⟩ := inner i hi s h
      refine ⟨t, ?_, e2⟩
      have e1 : mX4_drawNet_L19 fF (nI i) 0 s = some t := e1
      simp only [mX4_drawNet_L9]
      rw [e60, if_neg (nI_ge hi (by omega)), e1, b1s, nI_1])
    fF 0 s0 (by omega) (by unfold fF; omega) hs0
  refine ⟨t, ?_, e2.1, fun a ha => ⟨(e2.2 a ha).1, fun b hb => ?_⟩⟩
  · rw [mX4_drawNet, e0', b1s]
    have e1 : mX4_drawNet_L9 fF 0 s0 = some t := e1
    rw [e1]; rfl
  · have h1 := (e2.2 a ha).2 b hb
    by_cases hl : lk τ a b = true
    · have h2 := lk_lt hw ha hb hl
      rw [hl]
      exact h1.mpr ⟨hl, by unfold dn; omega⟩
    · have h3 : ¬ mk (t.1 21 a) b = true := fun q => hl (h1.mp q).1
      rw [Bool.eq_false_iff.mpr hl, Bool.eq_false_iff.mpr h3]
end LVB
