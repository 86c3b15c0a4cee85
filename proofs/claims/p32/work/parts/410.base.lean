section LVA
-- combinators at a known value
theorem b1s {α γ : Type} {a : α} {f : α → Option γ} : mb1 (some a) f = f a := rfl
theorem b2s {α β γ : Type} {a : α} {b : β} {f : α → β → Option γ} : mb2 (some (a, b)) f = f a b := rfl
theorem l1o {α ρ γ : Type} {a : α} {f : α → Option γ} {g : ρ → Option γ} : ml1 (some (.ok a)) f g = f a := rfl
theorem l1e {α ρ γ : Type} {a : ρ} {f : α → Option γ} {g : ρ → Option γ} : ml1 (some (.error a)) f g = g a := rfl
theorem xo {ε α γ : Type} {a : α} {f : α → Option (Except ε γ)} : mx (some (.ok a)) f = f a := rfl
theorem xe {ε α γ : Type} {a : ε} {f : α → Option (Except ε γ)} : mx (some (.error a)) f = some (.error a) := rfl
theorem chk8 {j N : Nat} (h : j < N) (hN : N < 2 ^ 31) : (nI j < 0 ∨ N ≤ (nI j).toNatClampNeg) = False := by
  rw [nI_clamp (by omega)]
  have := nI_pos (n := j) (by omega)
  simp only [this, false_or, eq_iff_iff, iff_false]
  omega
theorem rIn (σ : fm_S) (q : Nat) {j : Nat} (h : j < 2 ^ 31) : rI σ q (nI j) = σ.1 q j := by
  unfold rI; rw [nI_clamp h]
theorem sIn (σ : fm_S) (q : Nat) {j : Nat} (v : Int32) (h : j < 2 ^ 31) : sI σ q (nI j) v = fm_wr σ q j v := by
  unfold sI; rw [nI_clamp h]
theorem wrS (σ : fm_S) (q i : Nat) (v : Int32) : (fm_wr σ q i v).1 q i = v := by simp [fm_wr]
theorem wrN (σ : fm_S) {q i a b : Nat} (v : Int32) (h : a ≠ q ∨ b ≠ i) : (fm_wr σ q i v).1 a b = σ.1 a b := by
  have : ¬ (a = q ∧ b = i) := by omega
  simp [fm_wr, this]
theorem wr2 (σ : fm_S) (q i : Nat) (v : Int32) : (fm_wr σ q i v).2 = σ.2 := rfl
/-- a loop counting up from i to N: an invariant, a step or an early end -/
theorem lpE {S T : Type} (F : Nat → Int32 → S → Option T) (N : Nat) (P : Nat → S → Prop) (Q : T → Prop)
    (hz : ∀ n s, P N s → ∃ t, F (n + 1) (nI N) s = some t ∧ Q t)
    (hs : ∀ n i s, i < N → P i s → (∃ s', F (n + 1) (nI i) s = F n (nI (i + 1)) s' ∧ P (i + 1) s') ∨ ∃ t, F (n + 1) (nI i) s = some t ∧ Q t) :
    ∀ (n i : Nat) (s : S), i ≤ N → N - i < n → P i s → ∃ t, F n (nI i) s = some t ∧ Q t := by
  intro n
  induction n with
  | zero => intro i s _ h; omega
  | succ n ih =>
    intro i s hi hn hP
    by_cases h : i = N
    · subst h; exact hz n s hP
    · rcases hs n i s (by omega) hP with ⟨s', e, h'⟩ | h'
      · rw [e]; exact ih (i + 1) s' (by omega) (by omega) h'
      · exact h'
theorem lpU {S T : Type} (F : Nat → Int32 → S → Option T) (N : Nat) (P : Nat → S → Prop) (Q : T → Prop)
    (hz : ∀ n s, P N s → ∃ t, F (n + 1) (nI N) s = some t ∧ Q t)
    (hs : ∀ n i s, i < N → P i s → ∃ s', F (n + 1) (nI i) s = F n (nI (i + 1)) s' ∧ P (i + 1) s') :
    ∀ (n i : Nat) (s : S), i ≤ N → N - i < n → P i s → ∃ t, F n (nI i) s = some t ∧ Q t :=
  lpE F N P Q hz (fun n i s h1 h2 => Or.inl (hs n i s h1 h2))
-- bits
def mk (x : Int32) (j : Nat) : Bool := x.toNatClampNeg.testBit j
theorem mkn {m : Nat} (h : m < 2 ^ 31) (j : Nat) : mk (nI m) j = m.testBit j := by unfold mk; rw [nI_clamp h]
def m8 (x : Int32) : Prop := ∃ m, m < 256 ∧ x = nI m
theorem q_holds0 : ∀ m, m < 256 → ∀ i, i < 8 → mX1_holds (nI m) (nI i) = some (if m.testBit i then 1 else 0) := by decide +kernel
theorem q_with0 : ∀ m, m < 256 → ∀ i, i < 8 → mX1_with (nI m) (nI i) = some (nI (m ||| 2 ^ i)) := by decide +kernel
theorem q_without0 : ∀ m, m < 256 → ∀ i, i < 8 → mX1_without (nI m) (nI i) = some (nI (m &&& (255 - 2 ^ i))) := by decide +kernel
theorem q_or0 : ∀ m, m < 256 → ∀ i, i < 8 → m ||| 2 ^ i < 256 ∧ m &&& (255 - 2 ^ i) < 256 := by decide +kernel
theorem q_or1 : ∀ m, m < 256 → ∀ i, i < 8 → ∀ j, j < 8 → (m ||| 2 ^ i).testBit j = (m.testBit j || j == i) ∧ (m &&& (255 - 2 ^ i)).testBit j = (m.testBit j && !(j == i)) := by decide +kernel
theorem q_holds {x : Int32} (h : m8 x) {i : Nat} (hi : i < 8) : mX1_holds x (nI i) = some (if mk x i then 1 else 0) := by
  obtain ⟨m, hm, rfl⟩ := h
  rw [q_holds0 m hm i hi, mkn (by omega)]
theorem q_with {x : Int32} (h : m8 x) {i : Nat} (hi : i < 8) : ∃ y, mX1_with x (nI i) = some y ∧ m8 y ∧ ∀ j, j < 8 → mk y j = (mk x j || j == i) := by
  obtain ⟨m, hm, rfl⟩ := h
  have h1 := (q_or0 m hm i hi).1
  exact ⟨_, q_with0 m hm i hi, ⟨_, h1, rfl⟩, fun j hj => by rw [mkn (by omega), mkn (by omega)]; exact (q_or1 m hm i hi j hj).1⟩
theorem q_without {x : Int32} (h : m8 x) {i : Nat} (hi : i < 8) : ∃ y, mX1_without x (nI i) = some y ∧ m8 y ∧ ∀ j, j < 8 → mk y j = (mk x j && !(j == i)) := by
  obtain ⟨m, hm, rfl⟩ := h
  have h1 := (q_or0 m hm i hi).2
  exact ⟨_, q_without0 m hm i hi, ⟨_, h1, rfl⟩, fun j hj => by rw [mkn (by omega), mkn (by omega)]; exact (q_or1 m hm i hi j hj).2⟩
/-- how many of the first eight -/
def cn8 (P : Nat → Bool) : Nat := (P 0).toNat + (P 1).toNat + (P 2).toNat + (P 3).toNat + (P 4).toNat + (P 5).toNat + (P 6).toNat + (P 7).toNat
theorem q_cnt0 : ∀ m, m < 256 → mJ6_bitCount_0f7a4 (nI m) = some (nI (cn8 m.testBit)) := by decide +kernel
theorem q_cnt {x : Int32} (h : m8 x) : mJ6_bitCount_0f7a4 x = some (nI (cn8 (mk x))) := by
  obtain ⟨m, hm, rfl⟩ := h
  rw [q_cnt0 m hm]
  unfold cn8
  simp only [mkn (show m < 2 ^ 31 by omega)]
theorem cn8_le (P : Nat → Bool) : cn8 P ≤ 8 := by
  have h : ∀ b : Bool, b.toNat ≤ 1 := by decide
  have := h (P 0); have := h (P 1); have := h (P 2); have := h (P 3); have := h (P 4); have := h (P 5); have := h (P 6); have := h (P 7)
  unfold cn8; omega
theorem cn8_congr {P Q : Nat → Bool} (h : ∀ j, j < 8 → P j = Q j) : cn8 P = cn8 Q := by
  unfold cn8; rw [h 0 (by omega), h 1 (by omega), h 2 (by omega), h 3 (by omega), h 4 (by omega), h 5 (by omega), h 6 (by omega), h 7 (by omega)]
theorem q_or2 {x y : Int32} (hx : m8 x) (hy : m8 y) : m8 (x ||| y) ∧ ∀ j, mk (x ||| y) j = (mk x j || mk y j) := by
  obtain ⟨m, hm, rfl⟩ := hx
  obtain ⟨n, hn, rfl⟩ := hy
  have h2 : m ||| n < 256 := Nat.or_lt_two_pow (n := 8) hm hn
  have h1 : nI m ||| nI n = nI (m ||| n) := by
    apply Int32.toBitVec_inj.mp
    apply BitVec.eq_of_toNat_eq
    rw [Int32.toBitVec_or, BitVec.toNat_or, pk_tn (by omega), pk_tn (by omega), pk_tn (by omega)]
  rw [h1]
  exact ⟨⟨_, h2, rfl⟩, fun j => by rw [mkn (by omega), mkn (by omega), mkn (by omega), Nat.testBit_or]⟩
theorem m8_ext0 : ∀ m, m < 256 → ∀ n, n < 256 → (∀ j, j < 8 → m.testBit j = n.testBit j) → m = n := by
  intro m hm n hn h
  apply Nat.eq_of_testBit_eq
  intro j
  by_cases hj : j < 8
  · exact h j hj
  · rw [Nat.testBit_lt_two_pow (Nat.lt_of_lt_of_le hm (Nat.pow_le_pow_right (n := 2) (by omega) (show 8 ≤ j by omega))), Nat.testBit_lt_two_pow (Nat.lt_of_lt_of_le hn (Nat.pow_le_pow_right (n := 2) (by omega) (show 8 ≤ j by omega)))]
theorem m8_ext {x y : Int32} (hx : m8 x) (hy : m8 y) (h : ∀ j, j < 8 → mk x j = mk y j) : x = y := by
  obtain ⟨m, hm, rfl⟩ := hx
  obtain ⟨n, hn, rfl⟩ := hy
  rw [m8_ext0 m hm n hn (fun j hj => by rw [← mkn (by omega), ← mkn (by omega)]; exact h j hj)]
theorem mk_hi {x : Int32} (hx : m8 x) {j : Nat} (hj : 8 ≤ j) : mk x j = false := by
  obtain ⟨m, hm, rfl⟩ := hx
  rw [mkn (by omega)]
  exact Nat.testBit_lt_two_pow (Nat.lt_of_lt_of_le hm (Nat.pow_le_pow_right (n := 2) (by omega) hj))
theorem nar01 (b : Bool) : vp_nar .boolean (if b then 1 else 0) = (if b then 1 else 0) := by cases b <;> decide
-- the two pictures
def WF (τ : fm_S) (c : Nat) : Prop := c ≤ 8 ∧ τ.1 60 0 = nI c ∧ (∀ i, i < 8 → τ.1 3 i = 0 ∨ τ.1 3 i = 1) ∧ (∀ i, c ≤ i → i < 8 → τ.1 3 i = 0) ∧ (∀ i, i < 8 → m8 (τ.1 19 i)) ∧ (∀ i, i < 8 → ∀ j, j < 8 → mk (τ.1 19 i) j = mk (τ.1 19 j) i) ∧ (∀ i, i < 8 → ∀ j, j < 8 → τ.1 (10 + i) j = τ.1 (10 + j) i) ∧ (∀ i, i < 8 → ∃ k, k ≤ 8 ∧ τ.1 8 i = nI k - 1)
/-- cells that a class's scratch work leaves alone -/
def cP (a : Nat) : Prop := a < 20 ∨ (40 ≤ a ∧ a ≠ 55)
/-- what the class's calls leave: all but their scratch rows -/
def cE (σ σ' : fm_S) : Prop := ∀ a b, cP a → σ'.1 a b = σ.1 a b
theorem cE.rfl {σ : fm_S} : cE σ σ := fun _ _ _ => Eq.refl _
theorem cE.trans {a b c : fm_S} (h : cE a b) (h' : cE b c) : cE a c := fun x y z => (h' x y z).trans (h x y z)
theorem WF.of {τ τ' : fm_S} {c : Nat} (h : WF τ c) (e : ∀ a b, a = 3 ∨ (8 ≤ a ∧ a < 20) ∨ a = 60 ∧ b = 0 → τ'.1 a b = τ.1 a b) : WF τ' c := by
  obtain ⟨h1, h2, h3, h4, h5, h6, h7, h8⟩ := h
  refine ⟨h1, by rw [e _ _ (by omega)]; exact h2, fun i hi => by rw [e _ _ (by omega)]; exact h3 i hi, fun i hi hi' => by rw [e _ _ (by omega)]; exact h4 i hi hi', fun i hi => by rw [e _ _ (by omega)]; exact h5 i hi, fun i hi j hj => by rw [e _ _ (by omega), e _ _ (by omega)]; exact h6 i hi j hj, fun i hi j hj => by rw [e _ _ (by omega), e _ _ (by omega)]; exact h7 i hi j hj, fun i hi => by rw [e _ _ (by omega)]; exact h8 i hi⟩
end LVA
