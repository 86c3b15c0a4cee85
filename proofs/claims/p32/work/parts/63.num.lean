section PVP
-- whole numbers as ints
def iI (z : Int) : Int32 := Int32.ofInt z
theorem iI_add (a b : Int) : iI a + iI b = iI (a + b) := (Int32.ofInt_add a b).symm
theorem iI_sub (a b : Int) : iI a - iI b = iI (a - b) := (Int32.ofInt_sub a b).symm
theorem iI_mul (a b : Int) : iI a * iI b = iI (a * b) := (Int32.ofInt_mul a b).symm
theorem iI_neg (a : Int) : -iI a = iI (-a) := (Int32.ofInt_neg a).symm
theorem iI_nat (n : Nat) : iI (n : Int) = nI n := Int32.ofInt_eq_ofNat
theorem iI_0 : iI 0 = 0 := by decide
theorem iI_toInt {z : Int} (h1 : -2147483648 ≤ z) (h2 : z < 2147483648) : (iI z).toInt = z := Int32.toInt_ofInt_of_le (by omega) (by omega)
theorem iI_of (x : Int32) : x = iI x.toInt := (Int32.ofInt_toInt x).symm
theorem iI_div {z : Int} {p : Nat} (h : z.natAbs < 1000000000) (hp : 0 < p) (hp2 : p < 1000000) : iI z / nI p = iI (z.tdiv p) := by
  have hne : nI p ≠ -1 := fun q => by
    have := congrArg Int32.toInt q
    rw [nI_toInt (by omega)] at this
    have h2 : (-1 : Int32).toInt = -1 := by decide
    omega
  have hle := Int.natAbs_tdiv_le_natAbs z p
  apply Int32.toInt_inj.mp
  rw [Int32.toInt_div_of_ne_right _ _ hne, iI_toInt (by omega) (by omega), nI_toInt (by omega), iI_toInt (by omega) (by omega)]
theorem nI_div2 (x : Int32) : x / (2 : Int32) = x / (2 : Int32) := rfl
-- squares
def small (x : Int32) : Prop := -1000 ≤ x.toInt ∧ x.toInt ≤ 1000
theorem sqr_le {a : Int} (h1 : -2000 ≤ a) (h2 : a ≤ 2000) : 0 ≤ a * a ∧ a * a ≤ 4000000 := by
  obtain ⟨n, hn⟩ : ∃ n : Nat, a.natAbs = n := ⟨_, rfl⟩
  have e : a * a = ((n * n : Nat) : Int) := by
    rw [← hn]; exact (Int.natAbs_mul_self (a := a)).symm
  have hle : n ≤ 2000 := by omega
  have := Nat.mul_le_mul hle hle
  omega
theorem sq_nat {τ : fm_S} {i j : Nat} (h1 : small (τ.1 1 i)) (h2 : small (τ.1 1 j)) (h3 : small (τ.1 2 i)) (h4 : small (τ.1 2 j)) : ∃ q, q ≤ 8000000 ∧ sq τ i j = nI q := by
  unfold sq
  rw [iI_of (τ.1 1 i), iI_of (τ.1 1 j), iI_of (τ.1 2 i), iI_of (τ.1 2 j)]
  unfold small at h1 h2 h3 h4
  generalize (τ.1 1 i).toInt = a at *
  generalize (τ.1 1 j).toInt = b at *
  generalize (τ.1 2 i).toInt = d at *
  generalize (τ.1 2 j).toInt = e at *
  rw [iI_sub, iI_sub, iI_mul, iI_mul, iI_add]
  have x1 := sqr_le (a := a - b) (by omega) (by omega)
  have x2 := sqr_le (a := d - e) (by omega) (by omega)
  refine ⟨((a - b) * (a - b) + (d - e) * (d - e)).toNat, by omega, ?_⟩
  rw [← iI_nat, Int.toNat_of_nonneg (by omega)]
-- the errors
/-- the law's picture of the wanted squares -/
def LW (σ τ : fm_S) : Prop := ∀ i j, i < j → j < 5 → σ.1 42 (5 * i + j) = if τ.1 (10 + i) j = -1 then 0 else τ.1 (10 + i) j
/-- places and wanted squares are within their bounds -/
def NP (τ : fm_S) (c : Nat) : Prop := (∀ i, i < c → small (τ.1 1 i) ∧ small (τ.1 2 i)) ∧ ∀ i j, i < 8 → j < 8 → τ.1 (10 + i) j = -1 ∨ ∃ q, 1 ≤ q ∧ q ≤ 9000 ∧ τ.1 (10 + i) j = nI q
theorem k_errorC {τ : fm_S} {c : Nat} (hw : WF τ c) : ∃ τ', mX4_error τ = some (er τ, τ') ∧ scr τ τ' := by
  obtain ⟨τ1, e1, r1, n1⟩ := k_draw hw
  have s1 : scr τ τ1 := scr.row r1 (by decide)
  exact ⟨τ1, by rw [mX4_error, e1, b1s, k_errC hw n1 (fun a b hab => s1 a b (by omega)), b1s], s1⟩
theorem rs_grid5 (A : Nat → Nat → Int32) (h : ∀ i, i < 5 → ∀ j, j < 5 → A i j = A j i) : rs (fun k => if k % 5 ≤ k / 5 then 0 else A (k / 5) (k % 5)) 25 = rs (fun i => rs (fun j => A i j) i) 5 := by
  simp only [rs]
  simp only [Nat.reduceMod, Nat.reduceDiv, Nat.reduceLeDiff, Nat.zero_mod, Nat.zero_div, if_true, if_false, Int32.add_zero, Int32.zero_add, Nat.le_refl]
  rw [h 1 (by omega) 0 (by omega), h 2 (by omega) 0 (by omega), h 2 (by omega) 1 (by omega), h 3 (by omega) 0 (by omega), h 3 (by omega) 1 (by omega), h 3 (by omega) 2 (by omega), h 4 (by omega) 0 (by omega), h 4 (by omega) 1 (by omega), h 4 (by omega) 2 (by omega), h 4 (by omega) 3 (by omega)]
  ac_rfl
theorem k_errorL {σ τ : fm_S} {c : Nat} (hw : WF τ c) (hg : GE σ τ c) (hl : LW σ τ) (hn : NP τ c) : mL_error σ = some (er τ) := by
  have hc := hg.1
  have hsym : ∀ i, i < 8 → ∀ j, j < 8 → ab (ex τ i j) = ab (ex τ j i) := fun i hi j hj => by rw [ex_symm hw hi hj]
  have e5 : er τ = rs (fun k => if k % 5 ≤ k / 5 then 0 else ab (ex τ (k / 5) (k % 5))) 25 := by
    rw [rs_grid5 _ (fun i hi j hj => hsym i (by omega) j (by omega))]
    unfold er
    refine rs_hi (c := 5) (fun i h1 h2 => ?_) 8 (by omega) (by omega)
    have : ∀ j, j < i → ab (ex τ i j) = 0 := fun j hj => by rw [ex_hi hw h2 (by omega)]; rfl
    rw [rs_congr (g := fun _ => 0) i this]
    have hz : ∀ n, rs (fun _ => (0 : Int32)) n = 0 := by
      intro n
      induction n with
      | zero => rfl
      | succ n ih => rw [rs, ih]; rfl
    exact hz i
  obtain ⟨t, e1, e2⟩ := lpU (fun n x4 (a : Int32) => mL_error_L5 n a x4 σ) 25 (fun k a => a = rs (fun k => if k % 5 ≤ k / 5 then 0 else ab (ex τ (k / 5) (k % 5))) k) (fun t => t = rs (fun k => if k % 5 ≤ k / 5 then 0 else ab (ex τ (k / 5) (k % 5))) 25)
    (fun n a ha => ⟨a, by simp only [mL_error_L5]; rw [if_pos (by decide)], ha⟩)
    (fun n k a hk ha => by
      refine ⟨_, ?_, rfl⟩
      have hskip : ∀ b : Int32, b = 0 → a + b = a := fun b hb => by rw [hb, Int32.add_zero]
      simp only [mL_error_L5]
      rw [if_neg (show ¬ (25 : Int32) ≤ nI k from nI_ge (b := 25) hk (by decide)), (n5d k hk).2, (n5d k hk).1, b1s, b1s, rs, ← ha]
      by_cases h1 : k % 5 ≤ k / 5
      · rw [if_pos (nI_le h1 (by omega)), if_pos h1, Int32.add_zero, nI_1]
      · rw [if_neg (nI_ge (by omega) (by omega)), if_neg h1]
        simp only [c40, if_false, r40, hg.2.1]
        have hex : k % 5 < c ∨ ab (ex τ (k / 5) (k % 5)) = 0 := by
          by_cases q : k % 5 < c
          · exact Or.inl q
          · right; rw [ex_symm hw (by omega) (by omega), ex_hi hw (by omega) (by omega)]; rfl
        by_cases h2 : k % 5 < c
        · rw [if_neg (nI_ge h2 (by omega))]
          simp only [chk8 (show k < 25 by omega) (by decide), if_false]
          have hw42 := hl (k / 5) (k % 5) (by omega) (by omega)
          rw [show 5 * (k / 5) + k % 5 = k by omega] at hw42
          rw [rIn _ _ (by omega), hw42]
          rcases hn.2 (k / 5) (k % 5) (by omega) (by omega) with e | ⟨q, q1, q2, e⟩
          · rw [if_pos e, if_pos (by decide), nI_1]
            have : ab (ex τ (k / 5) (k % 5)) = 0 := by unfold ex; rw [if_pos e]; split <;> rfl
            rw [this, Int32.add_zero]
          · have ne : ¬ nI q = -1 := fun w => by
              have := congrArg Int32.toInt w
              rw [nI_toInt (by omega)] at this
              have h2 : (-1 : Int32).toInt = -1 := by decide
              omega
            have hex : ex τ (k / 5) (k % 5) = if lk τ (k / 5) (k % 5) then sq τ (k / 5) (k % 5) - nI q else 0 := by unfold ex; rw [e, if_neg ne]
            rw [e, if_neg ne, if_neg (show ¬ nI q ≤ 0 from nI_ge (a := 0) (by omega) (by omega)), k_heard hw hg (show k / 5 < c by omega), b1s, b_bit (Nat.lt_trans (hm_lt hc _) (by decide)) (by omega), hm_tb, nI_1, hex]
            have hjc : decide (k % 5 < c) = true := by simp [h2]
            rw [hjc, Bool.true_and]
            cases hb : lk τ (k / 5) (k % 5)
            · rw [if_neg (show ¬ (if false = true then (1 : Int32) else 0) = 1 by decide), if_neg (show ¬ (false = true) by decide)]
              rw [show ab 0 = 0 from rfl, Int32.add_zero]
            · rw [if_pos (show (if true = true then (1 : Int32) else 0) = 1 by decide), k_squareL hg (show k / 5 < c by omega) h2, b1s, if_pos rfl]
              obtain ⟨s, s1, s2⟩ := sq_nat (hn.1 (k / 5) (by omega)).1 (hn.1 (k % 5) h2).1 (hn.1 (k / 5) (by omega)).2 (hn.1 (k % 5) h2).2
              rw [s2, b1s, b1s]
              by_cases hle : s ≤ q
              · rw [if_pos (nI_le hle (by omega)), b1s, b1s]
                have : ab (nI s - nI q) = nI q - nI s := by
                  unfold ab
                  by_cases e0 : s = q
                  · subst e0; rw [Int32.sub_self]; decide
                  · rw [if_neg (Int32.not_le.mpr (pk_sneg (by omega) (by omega)))]
                    rw [Int32.zero_sub, Int32.neg_sub]
                rw [this]
              · rw [if_neg (nI_ge (by omega) (by omega)), b1s, b1s]
                have : ab (nI s - nI q) = nI s - nI q := by
                  unfold ab
                  rw [pk_sub (by omega), if_pos (nI_pos' (by omega))]
                rw [this]
        · rw [if_pos (nI_le (by omega) (by omega)), nI_1]
          rcases hex with q | q
          · exact absurd q h2
          · rw [q, Int32.add_zero])
    fG 0 0 (Nat.zero_le _) (by unfold fG; omega) rfl
  rw [mL_error]
  have e1 : mL_error_L5 fG 0 0 σ = some t := e1
  rw [e1, b1s, e2, e5]
end PVP
