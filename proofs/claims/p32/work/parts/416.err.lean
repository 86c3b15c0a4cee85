section LVG
def rs (f : Nat → Int32) : Nat → Int32
  | 0 => 0
  | n + 1 => rs f n + f n
theorem rs_congr {f g : Nat → Int32} : ∀ n, (∀ j, j < n → f j = g j) → rs f n = rs g n := by
  intro n
  induction n with
  | zero => intro _; rfl
  | succ n ih => intro h; rw [rs, rs, ih (fun j hj => h j (by omega)), h n (by omega)]
theorem rs_hi {f : Nat → Int32} {c : Nat} (h : ∀ j, c ≤ j → j < 8 → f j = 0) : ∀ n, c ≤ n → n ≤ 8 → rs f n = rs f c := by
  intro n
  induction n with
  | zero => intro h1 _; rw [show c = 0 by omega]
  | succ n ih =>
    intro h1 h2
    by_cases e : c = n + 1
    · rw [e]
    · rw [rs, h n (by omega) (by omega), ih (by omega) (by omega), Int32.add_zero]
def ex (τ : fm_S) (i j : Nat) : Int32 := if lk τ i j then (if τ.1 (10 + i) j = -1 then 0 else sq τ i j - τ.1 (10 + i) j) else 0
def ab (x : Int32) : Int32 := if 0 ≤ x then x else 0 - x
theorem sq_of {τ τ' : fm_S} (e : ∀ a b, a < 20 ∨ a = 60 → τ'.1 a b = τ.1 a b) (i j : Nat) : sq τ' i j = sq τ i j := by
  unfold sq
  rw [e 1 i (by omega), e 1 j (by omega), e 2 i (by omega), e 2 j (by omega)]
theorem ex_symm {τ : fm_S} {c : Nat} (hw : WF τ c) {i j : Nat} (hi : i < 8) (hj : j < 8) : ex τ i j = ex τ j i := by
  unfold ex
  rw [lk_symm hw hi hj, sq_symm τ i j, hw.2.2.2.2.2.2.1 i hi j hj]
theorem ex_hi {τ : fm_S} {c : Nat} (hw : WF τ c) {i j : Nat} (hi : i < 8) (hc : c ≤ i) : ex τ i j = 0 := by
  unfold ex; rw [lk_hi hw hi hc]; rfl
theorem k_exc {τ s : fm_S} (hn : NV s (lk τ)) (he : ∀ a b, a < 20 ∨ a = 60 → s.1 a b = τ.1 a b) {i j : Nat} (hi : i < 8) (hj : j < 8) : mX4_excessOf (nI i) (nI j) s = some (ex τ i j) := by
  rw [mX4_excessOf, k_joins20 (hn i hi).1 hi hj, b1s, (hn i hi).2 j hj]
  unfold ex
  cases lk τ i j
  · rfl
  · rw [if_pos rfl, if_neg (by decide), if_pos rfl]
    have ei : 9 + 1 + (nI i).toNatClampNeg = 10 + i := by rw [nI_clamp (by omega)]
    simp only [chk8 hi (by decide), chk8 hj (by decide), if_false, ei]
    rw [rIn _ _ (by omega), he (10 + i) j (by omega)]
    by_cases e : τ.1 (10 + i) j = -1
    · rw [if_pos e, if_pos e]
    · rw [if_neg e, if_neg e, k_square hi hj, b1s, sq_of he]
/-- the sum of all excesses -/
def er (τ : fm_S) : Int32 := rs (fun i => rs (fun j => ab (ex τ i j)) i) 8
theorem k_errC {τ s : fm_S} {c : Nat} (hw : WF τ c) (hn : NV s (lk τ)) (he : ∀ a b, a < 20 ∨ a = 60 → s.1 a b = τ.1 a b) : mX4_error_L8 fF 0 0 s = some (er τ) := by
  have hc := hw.1
  have inner : ∀ i, i < c → ∀ x, mX4_error_L18 fF x (nI i) 0 s = some (x + rs (fun j => ab (ex τ i j)) i) := by
    intro i hi x
    obtain ⟨t, e1, e2⟩ := lpU (fun n x3 (a : Int32) => mX4_error_L18 n a (nI i) x3 s) i (fun j a => a = x + rs (fun j => ab (ex τ i j)) j) (fun t => t = x + rs (fun j => ab (ex τ i j)) i)
      (fun n a ha => ⟨a, by simp only [mX4_error_L18]; rw [if_pos (nI_le (Nat.le_refl _) (by omega))], ha⟩)
      (fun n j a hj ha => ⟨x + rs (fun j => ab (ex τ i j)) (j + 1), by
        simp only [mX4_error_L18]
        rw [if_neg (nI_ge hj (by omega)), k_exc hn he (by omega) (by omega), b1s, nI_1, ha, rs, Int32.add_assoc]; rfl, rfl⟩)
      fF 0 x (Nat.zero_le _) (by unfold fF; omega) (by rw [rs, Int32.add_zero])
    have e1 : mX4_error_L18 fF x (nI i) 0 s = some t := e1
    rw [e1, e2]
  obtain ⟨t, e1, e2⟩ := lpU (fun n x2 (a : Int32) => mX4_error_L8 n a x2 s) c (fun i a => a = rs (fun i => rs (fun j => ab (ex τ i j)) i) i) (fun t => t = rs (fun i => rs (fun j => ab (ex τ i j)) i) c)
    (fun n a ha => ⟨a, by simp only [mX4_error_L8]; rw [he 60 0 (by omega), hw.2.1, if_pos (nI_le (Nat.le_refl _) (by omega))], ha⟩)
    (fun n i a hi ha => ⟨_, by
      simp only [mX4_error_L8]
      rw [he 60 0 (by omega), hw.2.1, if_neg (nI_ge hi (by omega)), inner i hi, b1s, nI_1], by rw [ha, rs]⟩)
    fF 0 0 (Nat.zero_le _) (by unfold fF; omega) rfl
  have e1 : mX4_error_L8 fF 0 0 s = some t := e1
  rw [e1, e2]
  unfold er
  rw [rs_hi (c := c) (fun i h1 h2 => ?_) 8 hc (Nat.le_refl _)]
  have : rs (fun j => ab (ex τ i j)) i = rs (fun _ => 0) i := rs_congr i (fun j hj => by show ab (ex τ i j) = 0; rw [ex_hi hw h2 h1]; rfl)
  rw [this]
  have z : ∀ n, rs (fun _ => 0) n = 0 := by
    intro n
    induction n with
    | zero => rfl
    | succ n ih => rw [rs, ih]; rfl
  exact z i
theorem rs_grid (A : Nat → Nat → Int32) (h : ∀ i, i < 8 → ∀ j, j < 8 → A i j = A j i) : rs (fun k => if k % 8 ≤ k / 8 then 0 else A (k / 8) (k % 8)) 64 = rs (fun i => rs (fun j => A i j) i) 8 := by
  simp only [rs]
  simp only [Nat.reduceMod, Nat.reduceDiv, Nat.reduceLeDiff, Nat.zero_mod, Nat.zero_div, if_true, if_false, Int32.add_zero, Int32.zero_add, Nat.le_refl]
  rw [h 1 (by omega) 0 (by omega), h 2 (by omega) 0 (by omega), h 2 (by omega) 1 (by omega), h 3 (by omega) 0 (by omega), h 3 (by omega) 1 (by omega), h 3 (by omega) 2 (by omega), h 4 (by omega) 0 (by omega), h 4 (by omega) 1 (by omega), h 4 (by omega) 2 (by omega), h 4 (by omega) 3 (by omega), h 5 (by omega) 0 (by omega), h 5 (by omega) 1 (by omega), h 5 (by omega) 2 (by omega), h 5 (by omega) 3 (by omega), h 5 (by omega) 4 (by omega), h 6 (by omega) 0 (by omega), h 6 (by omega) 1 (by omega), h 6 (by omega) 2 (by omega), h 6 (by omega) 3 (by omega), h 6 (by omega) 4 (by omega), h 6 (by omega) 5 (by omega), h 7 (by omega) 0 (by omega), h 7 (by omega) 1 (by omega), h 7 (by omega) 2 (by omega), h 7 (by omega) 3 (by omega), h 7 (by omega) 4 (by omega), h 7 (by omega) 5 (by omega), h 7 (by omega) 6 (by omega)]
  ac_rfl
theorem dm8 {k : Nat} (hk : k < 64) : nI k / 8 = nI (k / 8) ∧ nI k - nI (k / 8) * 8 = nI (k % 8) := by
  rw [show (8 : Int32) = nI 8 from rfl]
  have h1 : nI k / nI 8 = nI (k / 8) := pk_div (by omega) (by omega) (by omega)
  exact ⟨h1, by rw [← h1]; exact pk_rem (by omega) (by omega) (by omega)⟩
end LVG
