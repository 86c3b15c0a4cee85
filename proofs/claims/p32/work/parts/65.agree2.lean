section PVR
theorem mxd_symm (τ : fm_S) (i j : Nat) : mxd τ i j = mxd τ j i := by
  unfold mxd
  by_cases h : deg τ i < deg τ j
  · rw [if_pos h, if_neg (by omega)]
  · by_cases h2 : deg τ j < deg τ i
    · rw [if_neg h, if_pos h2]
    · rw [if_neg h, if_neg h2]; omega
theorem mxd_le (τ : fm_S) (i j : Nat) : mxd τ i j ≤ 8 ∧ deg τ i ≤ mxd τ i j := by
  have := deg_le τ i
  have := deg_le τ j
  unfold mxd; split <;> omega
theorem neg_div {a b : Int32} (ha : small a) (hb : small b) {p : Nat} (hp : 0 < p) (hp2 : p < 1000) : (a - b) / nI p = -((b - a) / nI p) := by
  rw [iI_of a, iI_of b]
  unfold small at ha hb
  generalize a.toInt = x at *
  generalize b.toInt = y at *
  rw [iI_sub, iI_sub, iI_div (by omega) hp (by omega), iI_div (by omega) hp (by omega), iI_neg, show x - y = -(y - x) by omega, Int.neg_tdiv]
def wE (τ : fm_S) (E : Nat → Int32) (i m : Nat) : Int32 := if m / 8 < m % 8 then (if i = m % 8 then gE τ E i (m / 8) else if i = m / 8 then gE τ E i (m % 8) else 0) else 0
theorem D_rs {τ : fm_S} {c : Nat} (hw : WF τ c) {E : Nat → Int32} (hE : ∀ i, i < c → small (E i)) (i : Nat) : ∀ k, k ≤ 64 → D τ c E k i = rs (wE τ E i) k := by
  intro k
  induction k with
  | zero => intro _; rfl
  | succ k ih =>
    intro hk
    have ih := ih (by omega)
    have hc := hw.1
    rw [rs, ← ih]
    by_cases h : k / 8 < k % 8 ∧ k % 8 < c ∧ lk τ (k / 8) (k % 8) = true
    · rw [D, if_pos h]
      have hl2 : lk τ (k % 8) (k / 8) = true := by rw [lk_symm hw (by omega) (by omega)]; exact h.2.2
      have hm := (mxd_le τ (k / 8) (k % 8)).1
      show (if i = k % 8 then _ else if i = k / 8 then _ else _) = _
      unfold wE
      rw [if_pos h.1]
      by_cases e1 : i = k % 8
      · rw [if_pos e1, if_pos e1, ← e1]
        congr 1
        unfold fl gE
        rw [e1, if_pos hl2, mxd_symm]; rfl
      · rw [if_neg e1, if_neg e1]
        by_cases e2 : i = k / 8
        · rw [if_pos e2, if_pos e2, ← e2]
          have : gE τ E i (k % 8) = - fl τ E (k / 8) (k % 8) := by
            unfold gE
            rw [e2, if_pos h.2.2, neg_div (hE _ h.2.1) (hE _ (by omega)) (by omega) (by omega)]; rfl
          rw [this, ← e2, Int32.sub_eq_add_neg]
        · rw [if_neg e2, if_neg e2, Int32.add_zero]
    · rw [D_skip h]
      have : wE τ E i k = 0 := by
        unfold wE
        by_cases h1 : k / 8 < k % 8
        · rw [if_pos h1]
          have hl : lk τ (k / 8) (k % 8) = false := by
            cases hb : lk τ (k / 8) (k % 8)
            · rfl
            · exact absurd ⟨h1, (lk_lt hw (by omega) (by omega) hb).2.1, hb⟩ h
          have hl2 : lk τ (k % 8) (k / 8) = false := by rw [lk_symm hw (by omega) (by omega)]; exact hl
          unfold gE
          by_cases e1 : i = k % 8
          · rw [if_pos e1, e1, hl2]; rfl
          · rw [if_neg e1]
            by_cases e2 : i = k / 8
            · rw [if_pos e2, e2, hl]; rfl
            · rw [if_neg e2]
        · rw [if_neg h1]
      rw [this, Int32.add_zero]
theorem wE_sum {τ : fm_S} (E : Nat → Int32) : ∀ i, i < 5 → rs (wE τ E i) 64 = rs (gE τ E i) 8 := by
  intro i hi
  have hd : ∀ i, gE τ E i i = 0 := fun i => by unfold gE; rw [lk_self]; rfl
  have hi : i = 0 ∨ i = 1 ∨ i = 2 ∨ i = 3 ∨ i = 4 := by omega
  rcases hi with rfl | rfl | rfl | rfl | rfl <;> simp only [rs, wE] <;> simp [hd]
theorem gE_hi {τ : fm_S} {c : Nat} (hw : WF τ c) {E : Nat → Int32} {i j : Nat} (hi : i < 8) (h1 : c ≤ j) (h2 : j < 8) : gE τ E i j = 0 := by
  unfold gE
  rw [lk_symm hw hi h2, lk_hi hw h2 h1]; rfl
theorem D_gE {τ : fm_S} {c : Nat} (hw : WF τ c) (hc : c ≤ 5) {E : Nat → Int32} (hE : ∀ i, i < c → small (E i)) {i : Nat} (hi : i < c) : D τ c E 64 i = rs (gE τ E i) c := by
  rw [D_rs hw hE i 64 (Nat.le_refl _), wE_sum E i (by omega), rs_hi (fun j h1 h2 => gE_hi hw (by omega) h1 h2) 8 (by omega) (Nat.le_refl _)]
theorem tdiv_le {x : Int} {p d : Nat} {B : Int} (hd : d ≤ p) (hB : 0 ≤ B) (hx : x ≤ B) : x.tdiv p * d ≤ B := by
  by_cases h : 0 ≤ x
  · obtain ⟨n, rfl⟩ := Int.eq_ofNat_of_zero_le h
    have e : ((n : Int).tdiv p) = ((n / p : Nat) : Int) := rfl
    rw [e]
    have h1 : n / p * d ≤ n / p * p := Nat.mul_le_mul_left _ hd
    have h2 : n / p * p ≤ n := Nat.div_mul_le_self n p
    have h3 : ((n / p : Nat) : Int) * (d : Int) = ((n / p * d : Nat) : Int) := by rw [Int.natCast_mul]
    rw [h3]; omega
  · obtain ⟨n, hn⟩ := Int.eq_ofNat_of_zero_le (show 0 ≤ -x by omega)
    have hx2 : x = -(n : Int) := by omega
    rw [hx2, Int.neg_tdiv]
    have e : ((n : Int).tdiv p) = ((n / p : Nat) : Int) := rfl
    rw [e, Int.neg_mul]
    have h3 : ((n / p : Nat) : Int) * (d : Int) = ((n / p * d : Nat) : Int) := by rw [Int.natCast_mul]
    rw [h3]; omega
def tE (τ : fm_S) (e : Nat → Int) (i j : Nat) : Int := if lk τ i j then (e j - e i).tdiv (mxd τ i j + 1 : Nat) else 0
theorem tE_sum {τ : fm_S} {e : Nat → Int} {i c : Nat} (he : ∀ j, j < c → -1000 ≤ e j ∧ e j ≤ 1000) (hi : i < c) : ∀ n, n ≤ c → iS (tE τ e i) n * (deg τ i + 1 : Nat) ≤ cnt (lk τ i) n * (1000 - e i) ∧ -(cnt (lk τ i) n * (1000 + e i)) ≤ iS (tE τ e i) n * (deg τ i + 1 : Nat) := by
  intro n
  induction n with
  | zero => intro _; simp [iS, cnt]
  | succ n ih =>
    intro hn
    obtain ⟨h1, h2⟩ := ih (by omega)
    have hm := (mxd_le τ i n).2
    rw [iS, cnt, Int.add_mul]
    cases hb : lk τ i n
    · have : tE τ e i n = 0 := by unfold tE; rw [hb]; rfl
      rw [this]; simpa using ⟨h1, h2⟩
    · have et : tE τ e i n = (e n - e i).tdiv (mxd τ i n + 1 : Nat) := by unfold tE; rw [hb]; rfl
      have x1 := he n (by omega)
      have x2 := he i hi
      have y1 := tdiv_le (x := e n - e i) (p := mxd τ i n + 1) (d := deg τ i + 1) (B := 1000 - e i) (by omega) (by omega) (by omega)
      have y2 := tdiv_le (x := -(e n - e i)) (p := mxd τ i n + 1) (d := deg τ i + 1) (B := 1000 + e i) (by omega) (by omega) (by omega)
      rw [Int.neg_tdiv, Int.neg_mul] at y2
      rw [et]
      have e1 : ((cnt (lk τ i) n + true.toNat : Nat) : Int) = (cnt (lk τ i) n : Int) + 1 := by simp
      rw [e1, Int.add_mul, Int.add_mul, Int.one_mul, Int.one_mul]
      omega
theorem nE_small {τ : fm_S} {c : Nat} (hw : WF τ c) {E : Nat → Int32} (hE : ∀ i, i < c → small (E i)) {i : Nat} (hi : i < c) : small (nE τ c E i) := by
  have hc := hw.1
  have hsum : ∀ n, n ≤ c → rs (gE τ E i) n = iI (iS (tE τ (fun j => (E j).toInt) i) n) := by
    intro n
    induction n with
    | zero => intro _; rfl
    | succ n ih =>
      intro hn
      have hm := (mxd_le τ i n).1
      have x1 := hE n (by omega)
      have x2 := hE i hi
      unfold small at x1 x2
      rw [rs, iS, ih (by omega), ← iI_add]
      congr 1
      unfold gE tE
      cases lk τ i n
      · rfl
      · rw [if_pos rfl, if_pos rfl]
        have h3 : E n - E i = iI ((E n).toInt - (E i).toInt) := by rw [← iI_sub, ← iI_of, ← iI_of]
        rw [h3, iI_div (by omega) (by omega) (by omega)]
  have hs := tE_sum (τ := τ) (e := fun j => (E j).toInt) (i := i) (c := c) (fun j hj => hE j hj) hi c (Nat.le_refl _)
  have hd : cnt (lk τ i) c = deg τ i := by
    unfold deg
    rw [← cnt8]
    exact (cnt_hi (fun j h1 h2 => by rw [lk_symm hw (by omega) h2]; exact lk_hi hw h2 h1) 8 hc (Nat.le_refl _)).symm
  rw [hd] at hs
  have hd8 := deg_le τ i
  have x2 := hE i hi
  unfold small at x2 ⊢
  unfold nE
  rw [hsum c (Nat.le_refl _)]
  have hei : E i = iI (E i).toInt := iI_of _
  have : nE τ c E i = nE τ c E i := rfl
  generalize hS : iS (tE τ (fun j => (E j).toInt) i) c = S at hs
  have h5 : -2147483648 ≤ (E i).toInt + S ∧ (E i).toInt + S < 2147483648 ∧ -1000 ≤ (E i).toInt + S ∧ (E i).toInt + S ≤ 1000 := by
    have hd' : deg τ i = 0 ∨ deg τ i = 1 ∨ deg τ i = 2 ∨ deg τ i = 3 ∨ deg τ i = 4 ∨ deg τ i = 5 ∨ deg τ i = 6 ∨ deg τ i = 7 ∨ deg τ i = 8 := by omega
    have hs' := hs
    rcases hd' with e | e | e | e | e | e | e | e | e <;> rw [e] at hs' <;> simp at hs' <;> omega
  have e9 : E i + iI S = iI ((E i).toInt + S) := by rw [← iI_add, ← iI_of]
  rw [e9, iI_toInt h5.1 h5.2.1]
  exact ⟨h5.2.2.1, h5.2.2.2⟩
end PVR
