section LVF
/-- a call that only reads: scratch rows of the class, then of the model -/
def scr (τ τ1 : fm_S) : Prop := ∀ a b, ¬ (20 ≤ a ∧ a < 40) → τ1.1 a b = τ.1 a b
theorem scr.rfl {σ : fm_S} : scr σ σ := fun _ _ _ => Eq.refl _
theorem scr.trans {a b c : fm_S} (h : scr a b) (h' : scr b c) : scr a c := fun x y z => (h' x y z).trans (h x y z)
theorem scr.row {σ σ' : fm_S} {q : Nat} (h : rowE q σ σ') (hq : 20 ≤ q ∧ q < 40) : scr σ σ' := fun a b hab => h.1 a b (by omega)
theorem scr.wf {τ τ1 : fm_S} {c : Nat} (h : scr τ τ1) (hw : WF τ c) : WF τ1 c := hw.of (fun a b hab => h a b (by omega))
theorem scr.lk {τ τ1 : fm_S} (h : scr τ τ1) (i j : Nat) : lk τ1 i j = lk τ i j := lk_of (fun a b hab => h a b (by omega)) i j
/-- how many below n -/
def cnt (P : Nat → Bool) : Nat → Nat
  | 0 => 0
  | n + 1 => cnt P n + (P n).toNat
theorem cnt8 (P : Nat → Bool) : cnt P 8 = cn8 P := by simp [cnt, cn8]
theorem cnt_hi {P : Nat → Bool} {c : Nat} (h : ∀ j, c ≤ j → j < 8 → P j = false) : ∀ n, c ≤ n → n ≤ 8 → cnt P n = cnt P c := by
  intro n
  induction n with
  | zero => intro h1 _; rw [show c = 0 by omega]
  | succ n ih =>
    intro h1 h2
    by_cases e : c = n + 1
    · rw [e]
    · rw [cnt, h n (by omega) (by omega), ih (by omega) (by omega)]; rfl
theorem cnt_le (P : Nat → Bool) : ∀ n, cnt P n ≤ n := by
  intro n
  induction n with
  | zero => exact Nat.le_refl _
  | succ n ih =>
    have h : ∀ b : Bool, b.toNat ≤ 1 := by decide
    have := h (P n)
    rw [cnt]; omega
def deg (τ : fm_S) (i : Nat) : Nat := cn8 (lk τ i)
def tot (τ : fm_S) : Nat → Nat
  | 0 => 0
  | n + 1 => tot τ n + deg τ n
theorem deg_hi {τ : fm_S} {c : Nat} (hw : WF τ c) {i : Nat} (h1 : c ≤ i) (h2 : i < 8) : deg τ i = 0 := by
  have h : ∀ j, j < 8 → lk τ i j = (fun _ => false) j := fun j _ => lk_hi hw h2 h1
  unfold deg
  rw [cn8_congr h]; rfl
theorem tot_hi {τ : fm_S} {c : Nat} (hw : WF τ c) : ∀ n, c ≤ n → n ≤ 8 → tot τ n = tot τ c := by
  intro n
  induction n with
  | zero => intro h1 _; rw [show c = 0 by omega]
  | succ n ih =>
    intro h1 h2
    by_cases e : c = n + 1
    · rw [e]
    · rw [tot, deg_hi hw (by omega) (by omega), ih (by omega) (by omega)]; rfl
theorem deg_le (τ : fm_S) (i : Nat) : deg τ i ≤ 8 := cn8_le _
theorem k_degC {σ : fm_S} {L : Nat → Nat → Bool} (hn : NV σ L) {i : Nat} (hi : i < 8) : mX1_degreeOf20 (nI i) σ = some (nI (cn8 (L i))) := by
  rw [mX1_degreeOf20]
  simp only [chk8 hi (by decide), if_false]
  rw [rIn _ _ (by omega), q_cnt (hn i hi).1, b1s, cn8_congr (hn i hi).2]
end LVF
