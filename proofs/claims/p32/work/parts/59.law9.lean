section PVL
theorem scr_lk {τ τ1 : fm_S} (h : scr τ τ1) : lk τ1 = lk τ := by funext i j; exact h.lk i j
theorem scr_up {τ τ1 : fm_S} (h : scr τ τ1) : up τ1 = up τ := by funext i; unfold up; rw [h 3 i (by omega)]
theorem scr_LK {τ τ1 : fm_S} (h : scr τ τ1) (c : Nat) : LK τ1 c = LK τ c :=
  msk_congr 25 (fun b _ => by unfold lq; rw [scr_lk h])
theorem scr_UK {τ τ1 : fm_S} (h : scr τ τ1) (c : Nat) : UK τ1 c = UK τ c :=
  msk_congr c (fun b _ => by rw [scr_up h])
theorem scr_ge {σ τ τ1 : fm_S} {c : Nat} (h : scr τ τ1) (hg : GE σ τ c) : GE σ τ1 c := hg.of (fun _ _ => rfl) (fun _ => rfl) (fun a b hab => h a b (by omega))
theorem scr_ge2 {τ τ1 : fm_S} {c : Nat} (h : scr τ τ1) (hg : GE τ τ c) : GE τ1 τ1 c := hg.of (fun b _ => h 40 b (by omega)) (fun b => h 41 b (by omega)) (fun a b hab => h a b (by omega))
/-- a rank: the size of a free set of G's, none greater -/
def RK (G r : Nat) : Prop := (∃ t, t &&& G = t ∧ fr t ∧ cnt t.testBit 25 = r) ∧ ∀ t, t &&& G = t → fr t → cnt t.testBit 25 ≤ r
theorem LK_iff {τ : fm_S} {c : Nat} (hw : WF τ c) (hc : c ≤ 5) : ∀ i, i < 8 → ∀ j, j < 8 → i < j → (lk τ i j = true ↔ j < 5 ∧ (LK τ c).testBit (5 * i + j) = true) := by
  intro i hi j hj hij
  constructor
  · intro h
    have := lk_lt hw hi hj h
    exact ⟨by omega, by rw [LK_tb hw hc hij (by omega)]; exact h⟩
  · rintro ⟨h1, h2⟩
    rw [LK_tb hw hc hij h1] at h2; exact h2
theorem k_rankC {τ : fm_S} {c r : Nat} (hw : WF τ c) (hc : c ≤ 5) (hr : RK (LK τ c) r) : ∃ τ', mX4_rank τ = some (nI r, τ') ∧ scr τ τ' := by
  obtain ⟨τ1, e1, r1, n1⟩ := k_draw hw
  obtain ⟨τ2, I, e2, r2, g2⟩ := k_pebblesC (fun i hi j hj => lk_symm hw hi hj) n1
  have hl := rank_eq (LK_FU τ c) (LK_iff hw hc) hr.1 hr.2 g2
  exact ⟨τ2, by rw [mX4_rank, e1, b1s, e2, b2s, hl], (scr.row r1 (by decide)).trans r2.scr⟩
theorem k_countingC {τ : fm_S} {c r : Nat} (hw : WF τ c) (hc : c ≤ 5) (hr : RK (LK τ c) r) : ∃ τ', mX4_rankByCounting τ = some (nI r, τ') ∧ scr τ τ' := by
  obtain ⟨τ1, e1, r1, n1⟩ := k_draw hw
  obtain ⟨τ2, I, e2, r2, g2⟩ := k_countsC (hw.of (fun a b hab => r1.1 a b (by omega))) (show NV τ1 (lk τ1) from by rw [scr_lk (scr.row r1 (by decide))]; exact n1)
  have g2 : gMax (lP (lk τ) 8 0) I := by
    have := scr_lk (scr.row r1 (by decide))
    have g2 : gMax (lP (lk τ1) 8 0) I := g2
    rw [this] at g2; exact g2
  have hl := rank_eq (LK_FU τ c) (LK_iff hw hc) hr.1 hr.2 g2
  exact ⟨τ2, by rw [mX4_rankByCounting, e1, b1s, e2, b2s, hl], (scr.row r1 (by decide)).trans (scr.row r2 (by decide))⟩
theorem k_rigidC {τ : fm_S} {c r : Nat} (hw : WF τ c) (hc : c ≤ 5) (hr : RK (LK τ c) r) (h25 : r ≤ 25) : ∃ (b : Bool) (τ' : fm_S), mX4_isRigid τ = some (bI b, τ') ∧ scr τ τ' ∧ (b = true ↔ 2 ≤ cnt (up τ) 8 ∧ one τ ∧ r + 3 = 2 * cnt (up τ) 8) := by
  obtain ⟨τ1, e1, r1, n1⟩ := k_draw hw
  have s1 : scr τ τ1 := scr.row r1 (by decide)
  have he : ∀ a b, a < 20 ∨ a = 60 → τ1.1 a b = τ.1 a b := fun a b hab => s1 a b (by omega)
  obtain ⟨y, e2, y1, y2⟩ := k_upSet hw he
  have e3 := q_cnt y1
  rw [cn8_congr y2, ← cnt8] at e3
  have u8 := cnt_le (up τ) 8
  have e4 := k_countC hw n1 he
  obtain ⟨τ2, I, e5, r2, g2⟩ := k_pebblesC (fun i hi j hj => lk_symm hw hi hj) n1
  have hl := rank_eq (LK_FU τ c) (LK_iff hw hc) hr.1 hr.2 g2
  by_cases q1 : cnt (up τ) 8 < 2
  · have l1 : nI (cnt (up τ) 8) < (2 : Int32) := nI_lt (b := 2) q1 (by decide)
    refine ⟨false, τ1, by rw [mX4_isRigid, e1, b1s, e2, b1s, e3, b1s, if_pos l1]; rfl, s1, ?_⟩
    constructor
    · intro h; cases h
    · intro h; omega
  · have l1 : ¬ nI (cnt (up τ) 8) < (2 : Int32) := nI_nlt (b := 2) (by omega) (by omega)
    obtain ⟨z, z1, z2, -⟩ := nth_ex (up τ) 8 0 (by omega)
    have g1 := gc_one hw z1 z2
    by_cases q2 : gc τ c = 1
    · have e6 : (2 : Int32) * nI (cnt (up τ) 8) - (3 : Int32) = nI (2 * cnt (up τ) 8 - 3) := by
        rw [show (2 : Int32) = nI 2 from rfl, pk_mul, show (3 : Int32) = nI 3 from rfl, pk_sub (by omega)]
      refine ⟨decide (r + 3 = 2 * cnt (up τ) 8), τ2, ?_, s1.trans r2.scr, ?_⟩
      · rw [mX4_isRigid, e1, b1s, e2, b1s, e3, b1s, if_neg l1, e4, b1s, if_pos q2, e5, b2s, hl, e6]
        by_cases q3 : r + 3 = 2 * cnt (up τ) 8
        · rw [if_pos (show nI r = nI (2 * cnt (up τ) 8 - 3) by rw [← q3]; rfl)]; simp [q3, bI]
        · rw [if_neg (fun w => q3 (by have := (nI_eq (by omega) (by omega)).mp w; omega))]; simp [q3, bI]
      · rw [decide_eq_true_iff]
        exact ⟨fun h => ⟨by omega, g1.mp q2, h⟩, fun h => h.2.2⟩
    · refine ⟨false, τ1, by rw [mX4_isRigid, e1, b1s, e2, b1s, e3, b1s, if_neg l1, e4, b1s, if_neg q2]; rfl, s1, ?_⟩
      constructor
      · intro h; cases h
      · intro h; exact absurd (g1.mpr h.2.1) q2
theorem k_reqM {τ : fm_S} {c : Nat} (hw : WF τ c) {i : Nat} (hi : i < c) : mX4_requireMember (nI i) τ = some τ := by
  have hc := hw.1
  rw [mX4_requireMember, hw.2.1, if_neg (nI_pos (by omega)), if_pos (nI_lt hi (by omega))]
theorem b_andn {a b : Nat} (ha : a < 2 ^ 31) (hb : b < 2 ^ 31) : nI a &&& (nI b ^^^ (-1 : Int32)) = nI (msk (fun j => a.testBit j && !b.testBit j) 31) := by
  have hm := msk_lt (fun j => a.testBit j && !b.testBit j) 31
  apply Int32.toBitVec_inj.mp
  apply BitVec.eq_of_toNat_eq
  rw [Int32.toBitVec_and, BitVec.toNat_and, Int32.toBitVec_xor, BitVec.toNat_xor, pk_tn (by omega), pk_tn (by omega), pk_tn (by omega), show (-1 : Int32).toBitVec.toNat = 2 ^ 32 - 1 from rfl]
  apply Nat.eq_of_testBit_eq
  intro j
  rw [Nat.testBit_and, Nat.testBit_xor, Nat.testBit_two_pow_sub_one, msk_tb]
  by_cases hj : j < 31
  · have : j < 32 := by omega
    simp [hj, this]
  · rw [Nat.testBit_lt_two_pow (Nat.lt_of_lt_of_le ha (Nat.pow_le_pow_right (n := 2) (by decide) (show 31 ≤ j by omega)))]
    simp
/-- the links without one -/
def Gx (G p : Nat) : Nat := msk (fun j => G.testBit j && !((2 : Nat) ^ p).testBit j) 31
theorem Gx_tb {G p j : Nat} (hG : G < 2 ^ 25) : (Gx G p).testBit j = (G.testBit j && !(decide (j = p))) := by
  unfold Gx
  rw [msk_tb, Nat.testBit_two_pow]
  by_cases hj : j < 31
  · by_cases e : j = p
    · subst e; simp
    · have : ¬ p = j := fun q => e q.symm
      simp [hj, e, this]
  · rw [Nat.testBit_lt_two_pow (Nat.lt_of_lt_of_le hG (Nat.pow_le_pow_right (n := 2) (by decide) (show 25 ≤ j by omega)))]
    simp
theorem k_spareC {τ : fm_S} {c r r' : Nat} (hw : WF τ c) (hc : c ≤ 5) {i j : Nat} (hi : i < c) (hj : j < c) (hr : RK (LK τ c) r) (hr' : RK (Gx (LK τ c) (pr i j)) r') (h25 : r ≤ 25) (h25' : r' ≤ 25) : ∃ τ', mL_spare (nI i) (nI j) τ = some (if lk τ i j then (if r' = r then 1 else 0) else -1, τ') ∧ scr τ τ' := by
  have hi8 : i < 8 := by omega
  have hj8 : j < 8 := by omega
  have hh := k_hears hw hi8 hj8
  cases hl : lk τ i j
  · rw [hl, if_neg (by decide)] at hh
    refine ⟨τ, ?_, scr.rfl⟩
    rw [mL_spare, mX4_isSpare, k_reqM hw hi, b1s, k_reqM hw hj, b1s, hh, b1s, if_pos rfl]; rfl
  · rw [hl, if_pos rfl] at hh
    have hij : i ≠ j := (lk_lt hw hi8 hj8 hl).2.2
    have hL : ∀ i, i < 8 → ∀ j, j < 8 → lk τ i j = lk τ j i := fun i hi j hj => lk_symm hw hi hj
    obtain ⟨τ1, e1, r1, n1⟩ := k_draw hw
    obtain ⟨τ2, I, e2, r2, g2⟩ := k_pebblesC hL n1
    obtain ⟨τ3, e3, r3, n3⟩ := k_cut20 (s := τ2) (L := lk τ) (fun b hb => by rw [r2 21 b (by omega)]; exact n1 b hb) hi8 hj8 hij
    obtain ⟨τ4, I', e4, r4, g4⟩ := k_pebblesC (lkx_symm hL i j) n3
    have s1 : scr τ τ4 := (((scr.row r1 (by decide)).trans r2.scr).trans (scr.row r3 (by decide))).trans r4.scr
    have hGF : Gx (LK τ c) (pr i j) &&& FU5 = Gx (LK τ c) (pr i j) := sb_of fun k hk => by
      rw [Gx_tb (LK_lt τ c)] at hk
      simp only [Bool.and_eq_true] at hk
      exact sb_tb (LK_FU τ c) hk.1
    have l1 := rank_eq (LK_FU τ c) (LK_iff hw hc) hr.1 hr.2 g2
    have l2 := rank_eq hGF (fun a ha b hb hab => by
      have h1 := LK_iff hw hc a ha b hb hab
      rw [Gx_tb (LK_lt τ c)]
      unfold lkx
      simp only [Bool.and_eq_true, Bool.not_eq_true', Bool.or_eq_false_iff, decide_eq_false_iff_not]
      rw [h1]
      have hp : 5 * a + b = pr i j ↔ b < 5 ∧ ((a = i ∧ b = j) ∨ (a = j ∧ b = i)) ∨ (¬ b < 5 ∧ 5 * a + b = pr i j) := by
        unfold pr
        by_cases q : i < j
        · rw [if_pos q]; omega
        · rw [if_neg q]; omega
      constructor
      · rintro ⟨⟨x1, x2⟩, x3⟩
        refine ⟨x1, x2, fun w => ?_⟩
        rcases hp.mp w with ⟨-, ⟨rfl, rfl⟩ | ⟨rfl, rfl⟩⟩ | ⟨w1, -⟩
        · simp at x3
        · simp at x3
        · exact w1 x1
      · rintro ⟨x1, x2, x3⟩
        refine ⟨⟨x1, x2⟩, ?_⟩
        have n1 : ¬ (a = i ∧ b = j) := fun w => x3 (hp.mpr (Or.inl ⟨x1, Or.inl w⟩))
        have n2 : ¬ (a = j ∧ b = i) := fun w => x3 (hp.mpr (Or.inl ⟨x1, Or.inr w⟩))
        simp only [Bool.and_eq_false_iff, beq_eq_false_iff_ne]
        constructor
        · by_cases q : a = i
          · right; exact fun w => n1 ⟨q, w⟩
          · left; exact q
        · by_cases q : a = j
          · right; exact fun w => n2 ⟨q, w⟩
          · left; exact q) hr'.1 hr'.2 g4
    refine ⟨τ4, ?_, s1⟩
    rw [mL_spare, mX4_isSpare, k_reqM hw hi, b1s, k_reqM hw hj, b1s, hh, b1s, if_neg (by decide), e1, b1s, e2, b2s, e3, b1s, e4, b2s, l1, l2, if_pos rfl]
    by_cases q : r' = r
    · rw [if_pos (show nI r' = nI r by rw [q]), if_pos q]; rfl
    · rw [if_neg (fun w => q ((nI_eq (by omega) (by omega)).mp w)), if_neg q]; rfl
end PVL
