section LVP
/-- in every set that holds i and is closed under links -/
def Gr (τ : fm_S) (i j : Nat) : Prop := ∀ S : Nat → Prop, S i → (∀ a b, a < 8 → b < 8 → S a → lk τ a b = true → S b) → S j
theorem Gr_self (τ : fm_S) (i : Nat) : Gr τ i i := fun _ h _ => h
theorem Gr_step {τ : fm_S} {i a b : Nat} (h : Gr τ i a) (ha : a < 8) (hb : b < 8) (hl : lk τ a b = true) : Gr τ i b := fun S h1 h2 => h2 a b ha hb (h S h1 h2) hl
theorem Gr_trans {τ : fm_S} {i j k : Nat} (h : Gr τ i j) (h' : Gr τ j k) : Gr τ i k := fun S h1 h2 => h' S (h S h1 h2) h2
theorem Gr_symm {τ : fm_S} {c : Nat} (hw : WF τ c) {i j : Nat} (h : Gr τ i j) : Gr τ j i :=
  h (fun x => Gr τ x i) (Gr_self τ i) (fun a b ha hb hs hl => Gr_trans (Gr_step (Gr_self τ b) hb ha (by rw [lk_symm hw hb ha]; exact hl)) hs)
theorem Gr_up {τ : fm_S} {i j : Nat} (h : Gr τ i j) : j = i ∨ τ.1 3 j ≠ 0 :=
  h (fun x => x = i ∨ τ.1 3 x ≠ 0) (Or.inl rfl) (fun a b ha hb _ hl => Or.inr (by
    unfold lk at hl
    simp only [Bool.and_eq_true, decide_eq_true_eq] at hl
    exact hl.1.1.2))
theorem cnt_mono {P Q : Nat → Bool} (h : ∀ j, j < 8 → P j = true → Q j = true) : ∀ n, n ≤ 8 → cnt P n ≤ cnt Q n := by
  intro n
  induction n with
  | zero => intro _; exact Nat.le_refl _
  | succ n ih =>
    intro hn
    have h1 := ih (by omega)
    have h2 := h n (by omega)
    rw [cnt, cnt]
    cases hp : P n <;> cases hq : Q n <;> simp_all <;> omega
theorem cnt_lt {P Q : Nat → Bool} (h : ∀ j, j < 8 → P j = true → Q j = true) {k : Nat} (hk : P k = false) (hk' : Q k = true) : ∀ n, n ≤ 8 → k < n → cnt P n < cnt Q n := by
  intro n
  induction n with
  | zero => intro _ h; omega
  | succ n ih =>
    intro hn hkn
    rw [cnt, cnt]
    by_cases e : k = n
    · subst e
      have := cnt_mono h k (by omega)
      rw [hk, hk']; simp; omega
    · have h1 := ih (by omega) (by omega)
      have h2 := h n (by omega)
      cases hp : P n <;> cases hq : Q n <;> simp_all <;> omega
theorem cnt_full {P : Nat → Bool} (h : 8 ≤ cnt P 8) : ∀ j, j < 8 → P j = true := by
  intro j hj
  apply Classical.byContradiction
  intro q
  have := cnt_lt (P := P) (Q := fun _ => true) (fun _ _ _ => rfl) (k := j) (Bool.eq_false_iff.mpr q) rfl 8 (Nat.le_refl _) hj
  have := cnt_le (fun _ => true) 8
  omega
def cl (τ : fm_S) (P : Nat → Bool) : Prop := ∀ a b, a < 8 → b < 8 → P a = true → lk τ a b = true → P b = true
theorem cl_Gr {τ : fm_S} {P : Nat → Bool} {i : Nat} (hc : cl τ P) (hi : P i = true) {j : Nat} (h : Gr τ i j) : P j = true :=
  h (fun x => P x = true) hi hc
/-- one round of the class's: the links of all that are in -/
theorem k_round {τ s : fm_S} (hn : NV s (lk τ)) {x : Int32} (hx : m8 x) : ∃ y, mX1_groupOf20_L20 fF x x 0 s = some y ∧ m8 y ∧ ∀ j, j < 8 → (mk y j = true ↔ mk x j = true ∨ ∃ a, a < 8 ∧ mk x a = true ∧ lk τ a j = true) := by
  obtain ⟨t, e1, e2, e3⟩ := lpU (fun n x5 (x4 : Int32) => mX1_groupOf20_L20 n x x4 x5 s) 8 (fun i y => m8 y ∧ ∀ j, j < 8 → (mk y j = true ↔ mk x j = true ∨ ∃ a, a < i ∧ mk x a = true ∧ lk τ a j = true)) (fun y => m8 y ∧ ∀ j, j < 8 → (mk y j = true ↔ mk x j = true ∨ ∃ a, a < 8 ∧ mk x a = true ∧ lk τ a j = true))
    (fun n y hy => ⟨y, by simp only [mX1_groupOf20_L20]; rw [show (8 : Int32) = nI 8 from rfl, if_pos (nI_le (Nat.le_refl _) (by decide))], hy⟩)
    (fun n i y hi hy => by
      have hh := q_holds hx hi
      by_cases q : mk x i = true
      · rw [if_pos q] at hh
        have ho := q_or2 hy.1 (hn i hi).1
        refine ⟨y ||| s.1 21 i, ?_, ho.1, fun j hj => ?_⟩
        · simp only [mX1_groupOf20_L20]
          rw [show (8 : Int32) = nI 8 from rfl, if_neg (nI_ge hi (by decide)), hh, b1s, if_neg (by decide)]
          simp only [chk8 hi (by decide), if_false]
          rw [rIn _ _ (by omega), nI_1]
        · rw [ho.2 j, Bool.or_eq_true, hy.2 j hj, (hn i hi).2 j hj]
          constructor
          · rintro ((h | ⟨a, h1, h2, h3⟩) | h)
            · exact Or.inl h
            · exact Or.inr ⟨a, by omega, h2, h3⟩
            · exact Or.inr ⟨i, by omega, q, h⟩
          · rintro (h | ⟨a, h1, h2, h3⟩)
            · exact Or.inl (Or.inl h)
            · by_cases z : a = i
              · subst z; exact Or.inr h3
              · exact Or.inl (Or.inr ⟨a, by omega, h2, h3⟩)
      · rw [if_neg q] at hh
        refine ⟨y, ?_, hy.1, fun j hj => ?_⟩
        · simp only [mX1_groupOf20_L20]
          rw [show (8 : Int32) = nI 8 from rfl, if_neg (nI_ge hi (by decide)), hh, b1s, if_pos rfl, nI_1]
        · rw [hy.2 j hj]
          constructor
          · rintro (h | ⟨a, h1, h2, h3⟩)
            · exact Or.inl h
            · exact Or.inr ⟨a, by omega, h2, h3⟩
          · rintro (h | ⟨a, h1, h2, h3⟩)
            · exact Or.inl h
            · by_cases z : a = i
              · subst z; exact absurd h2 q
              · exact Or.inr ⟨a, by omega, h2, h3⟩)
    fF 0 x (Nat.zero_le _) (by unfold fF; omega) ⟨hx, fun j hj => ⟨fun h => Or.inl h, fun h => h.elim (fun h => h) (fun ⟨a, h, _⟩ => absurd h (by omega))⟩⟩
  exact ⟨t, e1, e2, e3⟩
theorem k_groupC {τ s : fm_S} (hn : NV s (lk τ)) {i : Nat} (hi : i < 8) : ∃ y, mX1_groupOf20 (nI i) s = some y ∧ m8 y ∧ ∀ j, j < 8 → (mk y j = true ↔ Gr τ i j) := by
  obtain ⟨x, e0, x0, x1⟩ := q_with (x := 0) ⟨0, by omega, rfl⟩ hi
  have z0 : ∀ j, mk 0 j = false := fun j => by
    have : mk (nI 0) j = _ := mkn (by omega) j
    rw [Nat.zero_testBit] at this; exact this
  have xi : ∀ j, j < 8 → (mk x j = true ↔ j = i) := fun j hj => by rw [x1 j hj, z0 j]; simp
  have hS : ∀ y : Int32, (∀ j, j < 8 → mk y j = true → Gr τ i j) → ∀ y', (∀ j, j < 8 → (mk y' j = true ↔ mk y j = true ∨ ∃ a, a < 8 ∧ mk y a = true ∧ lk τ a j = true)) → ∀ j, j < 8 → mk y' j = true → Gr τ i j := fun y hy y' hy' j hj h => by
    rcases (hy' j hj).mp h with h | ⟨a, h1, h2, h3⟩
    · exact hy j hj h
    · exact Gr_step (hy a h1 h2) h1 hj h3
  obtain ⟨t, e1, t1, t2, t3, t4⟩ := lpU (fun n x3 (y : Int32) => mX1_groupOf20_L8 n y x3 s) 8 (fun k y => m8 y ∧ (∀ j, j < 8 → mk y j = true → Gr τ i j) ∧ mk y i = true ∧ (cl τ (mk y) ∨ k ≤ cnt (mk y) 8)) (fun y => m8 y ∧ (∀ j, j < 8 → mk y j = true → Gr τ i j) ∧ mk y i = true ∧ (cl τ (mk y) ∨ 8 ≤ cnt (mk y) 8))
    (fun n y hy => ⟨y, by simp only [mX1_groupOf20_L8]; rw [show (8 : Int32) = nI 8 from rfl, if_pos (nI_le (Nat.le_refl _) (by decide))], hy⟩)
    (fun n k y hk hy => by
      obtain ⟨y', f1, f2, f3⟩ := k_round hn hy.1
      refine ⟨y', ?_, f2, hS y hy.2.1 y' f3, (f3 i hi).mpr (Or.inl hy.2.2.1), ?_⟩
      · simp only [mX1_groupOf20_L8]
        rw [show (8 : Int32) = nI 8 from rfl, if_neg (nI_ge hk (by decide)), f1, b1s, nI_1]
      · by_cases q : cl τ (mk y)
        · left
          have same : ∀ j, j < 8 → (mk y' j = true ↔ mk y j = true) := fun j hj => by
            rw [f3 j hj]
            exact ⟨fun h => h.elim (fun h => h) (fun ⟨a, h1, h2, h3⟩ => q a j h1 hj h2 h3), Or.inl⟩
          exact fun a b ha hb h1 h2 => (same b hb).mpr (q a b ha hb ((same a ha).mp h1) h2)
        · right
          have : ∃ a b, a < 8 ∧ b < 8 ∧ mk y a = true ∧ lk τ a b = true ∧ mk y b = false := by
            apply Classical.byContradiction
            intro z
            apply q
            intro a b ha hb h1 h2
            apply Classical.byContradiction
            intro h3
            exact z ⟨a, b, ha, hb, h1, h2, Bool.eq_false_iff.mpr h3⟩
          obtain ⟨a, b, ha, hb, h1, h2, h3⟩ := this
          have lt := cnt_lt (P := mk y) (Q := mk y') (fun j hj h => (f3 j hj).mpr (Or.inl h)) h3 ((f3 b hb).mpr (Or.inr ⟨a, ha, h1, h2⟩)) 8 (Nat.le_refl _) hb
          rcases hy.2.2.2 with z | z
          · exact absurd z q
          · omega)
    fF 1 x (by omega) (by unfold fF; omega) ⟨x0, fun j hj h => by rw [(xi j hj).mp h]; exact Gr_self τ i, (xi i hi).mpr rfl, Or.inr (by
      have := cnt_lt (P := fun _ => false) (Q := mk x) (fun _ _ h => by cases h) (k := i) rfl ((xi i hi).mpr rfl) 8 (Nat.le_refl _) hi
      omega)⟩
  have e1 : mX1_groupOf20_L8 fF x 1 s = some t := e1
  have hcl : cl τ (mk t) := by
    rcases t4 with h | h
    · exact h
    · exact fun a b _ hb _ _ => cnt_full h b hb
  refine ⟨t, ?_, t1, fun j hj => ⟨t2 j hj, fun h => cl_Gr hcl t3 h⟩⟩
  rw [mX1_groupOf20, e0, b1s, e1, b1s]
theorem q_shr : ∀ m, m < 256 → ∀ i, i < 8 → ((nI m >>> (nI i &&& 31)) &&& 1) = if m.testBit i then 1 else 0 := by decide +kernel
theorem q_shl : ∀ j, j < 8 → (1 : Int32) <<< (nI j &&& 31) = nI (2 ^ j) := by decide +kernel
theorem k_bit {x : Int32} (hx : m8 x) {i : Nat} (hi : i < 8) : ((x >>> (nI i &&& 31)) &&& 1) = if mk x i then 1 else 0 := by
  obtain ⟨m, hm, rfl⟩ := hx
  rw [q_shr m hm i hi, mkn (by omega)]
theorem k_orb {x : Int32} (hx : m8 x) {j : Nat} (hj : j < 8) : m8 (x ||| nI (2 ^ j)) ∧ ∀ b, b < 8 → mk (x ||| nI (2 ^ j)) b = (mk x b || b == j) := by
  have h1 : ∀ j, j < 8 → 2 ^ j < 256 ∧ ∀ b, b < 8 → (2 ^ j).testBit b = (b == j) := by decide +kernel
  obtain ⟨p1, p2⟩ := h1 j hj
  have ho := q_or2 hx ⟨2 ^ j, p1, rfl⟩
  exact ⟨ho.1, fun b hb => by rw [ho.2 b, mkn (by omega), p2 b hb]⟩
end LVP
