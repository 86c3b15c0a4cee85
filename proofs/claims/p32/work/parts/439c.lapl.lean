section LVBG
def lI (z : Int) : Int64 := Int64.ofInt z
theorem lI_mul (a b : Int) : lI a * lI b = lI (a * b) := (Int64.ofInt_mul a b).symm
theorem lI_sub (a b : Int) : lI a - lI b = lI (a - b) := (Int64.ofInt_sub a b).symm
theorem lI_0 : lI 0 = 0 := by decide +kernel
theorem lI_1 : lI 1 = 1 := by decide +kernel
theorem lI_m : lI (-1) = -1 := by decide +kernel
theorem lI_nat {n : Nat} (h : n < 2 ^ 31) : (nI n).toInt64 = lI n := by rw [nI_l h]; exact Int64.ofInt_eq_ofNat.symm
theorem lI_toInt {z : Int} (h : z.natAbs < 4611686018427387904) : (lI z).toInt = z := Int64.toInt_ofInt_of_le (by omega) (by omega)
theorem lI_z {z : Int} (h : z.natAbs < 4611686018427387904) : lI z = 0 ↔ z = 0 := by
  rw [← Int64.toInt_inj, lI_toInt h, Int64.toInt_zero]
theorem lI_div {a b : Int} (ha : a.natAbs < 4611686018427387904) (hb : b.natAbs < 4611686018427387904) : lI a / lI b = lI (a.tdiv b) := by
  have h1 : Int64.minValue.toInt = -9223372036854775808 := by decide +kernel
  have h2 : Int64.maxValue.toInt = 9223372036854775807 := by decide +kernel
  exact (Int64.ofInt_tdiv (by rw [h1]; omega) (by rw [h2]; omega) (by rw [h1]; omega) (by rw [h2]; omega)).symm
theorem bStep {A : Nat → Nat → Int} {k r c : Nat} (hd : ∀ i, i ≤ k + 1 → dd A i ≠ 0) (hb : ∀ i j, k ≤ i → (dM A k i j).natAbs ≤ 62748517) (hdb : (dd A k).natAbs < 4611686018427387904) (hr : k ≤ r) : (lI (dM A k r c) * lI (dM A k k k) - lI (dM A k r k) * lI (dM A k k c)) / lI (dd A k) = lI (dM A (k + 1) r c) := by
  have e := dSylv A k hd r c
  have hn : (dM A k r c * dM A k k k - dM A k r k * dM A k k c).natAbs < 4611686018427387904 := by
    have h0 := Int.natAbs_sub_le (dM A k r c * dM A k k k) (dM A k r k * dM A k k c)
    rw [Int.natAbs_mul, Int.natAbs_mul] at h0
    have h1 := Nat.mul_le_mul (hb r c hr) (hb k k (Nat.le_refl _))
    have h2 := Nat.mul_le_mul (hb r k hr) (hb k c (Nat.le_refl _))
    omega
  rw [lI_mul, lI_mul, lI_sub, lI_div hn hdb, e, Int.mul_tdiv_cancel_left _ (hd k (by omega))]
-- the members that are up, in their order
theorem nth_ex (P : Nat → Bool) : ∀ n a, a < cnt P n → ∃ j, j < n ∧ P j = true ∧ cnt P j = a := by
  intro n
  induction n with
  | zero => intro a h; exact absurd h (Nat.not_lt_zero _)
  | succ n ih =>
    intro a h
    by_cases q : a < cnt P n
    · obtain ⟨j, j1, j2, j3⟩ := ih a q
      exact ⟨j, by omega, j2, j3⟩
    · rw [cnt] at h
      cases z : P n
      · rw [z] at h; simp at h; omega
      · rw [z] at h; simp at h
        exact ⟨n, by omega, z, by omega⟩
theorem cnt_mn {P : Nat → Bool} {i : Nat} : ∀ {j : Nat}, i ≤ j → cnt P i ≤ cnt P j := by
  intro j
  induction j with
  | zero => intro h; exact Nat.le_of_eq (by rw [show i = 0 by omega])
  | succ j ih =>
    intro h
    by_cases e : i = j + 1
    · exact Nat.le_of_eq (by rw [e])
    · rw [cnt]; have := ih (by omega); omega
theorem cnt_st {P : Nat → Bool} {i j : Nat} (hij : i < j) (hi : P i = true) : cnt P i < cnt P j := by
  have h1 : cnt P (i + 1) = cnt P i + 1 := by rw [cnt, hi] <;> rfl
  have h2 := cnt_mn (P := P) (show i + 1 ≤ j from hij)
  omega
theorem cnt_inj {P : Nat → Bool} {i j : Nat} (hi : P i = true) (hj : P j = true) (h : cnt P i = cnt P j) : i = j := by
  rcases Nat.lt_trichotomy i j with q | q | q
  · have := cnt_st q hi; omega
  · exact q
  · have := cnt_st q hj; omega
noncomputable def nth (P : Nat → Bool) (a : Nat) : Nat := Classical.epsilon fun j => j < 8 ∧ P j = true ∧ cnt P j = a
theorem nth_s {P : Nat → Bool} {a : Nat} (h : a < cnt P 8) : nth P a < 8 ∧ P (nth P a) = true ∧ cnt P (nth P a) = a := Classical.epsilon_spec (p := fun j => j < 8 ∧ P j = true ∧ cnt P j = a) (nth_ex P 8 a h)
theorem nth_c {P : Nat → Bool} {j : Nat} (h8 : j < 8) (hj : P j = true) : nth P (cnt P j) = j := by
  have h := nth_s (P := P) (cnt_st h8 hj)
  exact cnt_inj h.2.1 hj h.2.2
theorem iS_nth {P : Nat → Bool} (g : Nat → Int) : ∀ n, n ≤ 8 → iS (fun b => g (nth P b)) (cnt P n) = iS (fun j => if P j = true then g j else 0) n := by
  intro n
  induction n with
  | zero => intro _; rfl
  | succ n ih =>
    intro h
    cases z : P n
    · have e : cnt P (n + 1) = cnt P n := by rw [cnt, z] <;> rfl
      rw [e, ih (by omega), iS, z, if_neg (by decide), Int.add_zero]
    · have e : cnt P (n + 1) = cnt P n + 1 := by rw [cnt, z] <;> rfl
      rw [e, iS, ih (by omega), iS, z, if_pos rfl, nth_c (by omega) z]
theorem iS_cnt (P : Nat → Bool) : ∀ n, iS (fun j => if P j = true then 1 else 0) n = cnt P n := by
  intro n
  induction n with
  | zero => rfl
  | succ n ih => rw [iS, ih, cnt]; cases P n <;> simp
theorem iS_sh (v : Nat → Int) : ∀ n, iS (fun j => v (j + 1)) n + v 0 = iS v (n + 1) := by
  intro n
  induction n with
  | zero => simp [iS]
  | succ n ih => rw [iS, iS, ← ih]; omega
/-- degrees less links -/
def eL (τ : fm_S) (i j : Nat) : Int := if i = j then (deg τ i : Int) else if lk τ i j = true then -1 else 0
theorem eL_symm {τ : fm_S} {c : Nat} (hw : WF τ c) {i j : Nat} (hi : i < 8) (hj : j < 8) : eL τ i j = eL τ j i := by
  unfold eL
  by_cases e : i = j
  · subst e; rfl
  · rw [if_neg e, if_neg (fun q : j = i => e q.symm), lk_symm hw hi hj]
theorem lk_up {τ : fm_S} {i j : Nat} (h : lk τ i j = true) : up τ i = true ∧ up τ j = true := by
  unfold lk at h
  simp only [Bool.and_eq_true] at h
  exact ⟨h.1.1.1.2, h.1.1.2⟩
theorem deg7 (τ : fm_S) {i : Nat} (hi : i < 8) : deg τ i ≤ 7 := by
  have h := cn8_lt (P := lk τ i) (Q := fun _ => true) (fun _ _ _ => rfl) hi rfl (lk_self τ i)
  have h8 : cn8 (fun _ => true) = 8 := rfl
  unfold deg; omega
theorem eL_sum {τ : fm_S} {i : Nat} (hi : i < 8) (hu : up τ i = true) : iS (fun j => if up τ j = true then eL τ i j else 0) 8 = 0 := by
  have e : ∀ j, j < 8 → (if up τ j = true then eL τ i j else 0) = 1 * (if j = i then (deg τ i : Int) else 0) + (-1) * (if lk τ i j = true then 1 else 0) := fun j _ => by
    by_cases q : j = i
    · subst q
      rw [if_pos hu, if_pos rfl, lk_self]
      unfold eL; simp
    · rw [if_neg q]
      cases z : lk τ i j
      · by_cases w : up τ j = true
        · rw [if_pos w]; unfold eL; rw [if_neg (fun h => q h.symm), z]; simp
        · rw [if_neg w]; simp
      · rw [if_pos (lk_up z).2]; unfold eL; rw [if_neg (fun h => q h.symm), z]; simp
  rw [iS_congr e, iS_lin, iS_cnt, iS_but (k := i) hi, iS_none (fun j _ => by
    by_cases q : j = i
    · rw [if_pos q]
    · rw [if_neg q, if_neg q])]
  rw [if_pos rfl, cnt8]
  unfold deg
  omega
/-- a numbering of the members that are up -/
def NU (τ : fm_S) (N : Nat) (h : Nat → Nat) : Prop := (∀ i, i ≤ N → h i < 8 ∧ up τ (h i) = true) ∧ (∀ i j, i ≤ N → j ≤ N → h i = h j → i = j) ∧ (∀ x, x < 8 → up τ x = true → ∃ i, i ≤ N ∧ h i = x) ∧ ∀ g : Nat → Int, iS (fun b => g (h b)) (N + 1) = iS (fun j => if up τ j = true then g j else 0) 8
def lA (τ : fm_S) (N : Nat) (h : Nat → Nat) (i j : Nat) : Int := if i ≤ N ∧ j ≤ N then eL τ (h i) (h j) else 0
def fU (N i : Nat) : Nat := if i = N then 0 else i + 1
theorem NU_nth {τ : fm_S} {N : Nat} (hN : cnt (up τ) 8 = N + 1) : NU τ N (nth (up τ)) := by
  refine ⟨fun i hi => ?_, fun i j hi hj h => ?_, fun x hx hu => ?_, fun g => ?_⟩
  · have := nth_s (P := up τ) (a := i) (by omega)
    exact ⟨this.1, this.2.1⟩
  · have h1 := (nth_s (P := up τ) (a := i) (by omega)).2.2
    have h2 := (nth_s (P := up τ) (a := j) (by omega)).2.2
    rw [← h1, ← h2, h]
  · have := cnt_st (P := up τ) hx hu
    exact ⟨cnt (up τ) x, by omega, nth_c hx hu⟩
  · rw [← hN]; exact iS_nth g 8 (Nat.le_refl _)
theorem NU_fU {τ : fm_S} {N : Nat} {h : Nat → Nat} (hn : NU τ N h) : NU τ N (fun i => h (fU N i)) := by
  obtain ⟨h1, h2, h3, h4⟩ := hn
  have hf : ∀ i, i ≤ N → fU N i ≤ N := fun i hi => by unfold fU; by_cases e : i = N; rw [if_pos e]; omega; rw [if_neg e]; omega
  refine ⟨fun i hi => h1 _ (hf i hi), fun i j hi hj e => ?_, fun x hx hu => ?_, fun g => ?_⟩
  · have := h2 _ _ (hf i hi) (hf j hj) e
    unfold fU at this
    by_cases e1 : i = N
    · by_cases e2 : j = N
      · omega
      · rw [if_pos e1, if_neg e2] at this; omega
    · by_cases e2 : j = N
      · rw [if_neg e1, if_pos e2] at this; omega
      · rw [if_neg e1, if_neg e2] at this; omega
  · obtain ⟨i, hi, e⟩ := h3 x hx hu
    by_cases z : i = 0
    · exact ⟨N, Nat.le_refl _, by show h (fU N N) = x; unfold fU; rw [if_pos rfl, ← z]; exact e⟩
    · refine ⟨i - 1, by omega, ?_⟩
      show h (fU N (i - 1)) = x
      unfold fU
      rw [if_neg (by omega), show i - 1 + 1 = i by omega]; exact e
  · rw [← h4 g, iS]
    have e1 : iS (fun b => g (h (fU N b))) N = iS (fun b => g (h (b + 1))) N := iS_congr (fun j hj => by
      show g (h (fU N j)) = _
      unfold fU; rw [if_neg (by omega)])
    have e2 : fU N N = 0 := by unfold fU; rw [if_pos rfl]
    rw [e1]
    show iS (fun b => g (h (b + 1))) N + g (h (fU N N)) = _
    rw [e2]
    exact iS_sh (fun b => g (h b)) N
section
variable {τ : fm_S} {c N : Nat} {h : Nat → Nat}
theorem lA_in {i j : Nat} (hi : i ≤ N) (hj : j ≤ N) : lA τ N h i j = eL τ (h i) (h j) := if_pos ⟨hi, hj⟩
theorem lA_row (hn : NU τ N h) {i : Nat} (hi : i ≤ N) : iS (lA τ N h i) (N + 1) = 0 := by
  rw [iS_congr (w := fun b => eL τ (h i) (h b)) (fun j hj => lA_in hi (by omega)), hn.2.2.2 (fun x => eL τ (h i) x)]
  exact eL_sum (hn.1 i hi).1 (hn.1 i hi).2
theorem lA_symm (hw : WF τ c) (hn : NU τ N h) (i j : Nat) : lA τ N h i j = lA τ N h j i := by
  unfold lA
  by_cases q : i ≤ N ∧ j ≤ N
  · rw [if_pos q, if_pos ⟨q.2, q.1⟩, eL_symm hw (hn.1 i q.1).1 (hn.1 j q.2).1]
  · rw [if_neg q, if_neg (fun z => q ⟨z.2, z.1⟩)]
theorem lA_col (hw : WF τ c) (hn : NU τ N h) (j : Nat) : iS (fun i => lA τ N h i j) (N + 1) = 0 := by
  by_cases q : j ≤ N
  · rw [iS_congr (w := lA τ N h j) (fun i _ => lA_symm hw hn i j)]
    exact lA_row hn q
  · exact iS_none (fun i _ => if_neg (fun z => q z.2))
theorem lA_off (hn : NU τ N h) {i j : Nat} (hne : i ≠ j) : lA τ N h i j = 0 ∨ (lA τ N h i j = -1 ∧ i ≤ N ∧ j ≤ N ∧ lk τ (h i) (h j) = true) := by
  unfold lA
  by_cases q : i ≤ N ∧ j ≤ N
  · rw [if_pos q]
    unfold eL
    rw [if_neg (fun z => hne (hn.2.1 i j q.1 q.2 z))]
    cases z : lk τ (h i) (h j)
    · left; simp
    · right; exact ⟨by simp, q.1, q.2, rfl⟩
  · rw [if_neg q]; exact Or.inl rfl
theorem lA_lk (hn : NU τ N h) {i j : Nat} (hi : i ≤ N) (hj : j ≤ N) (hl : lk τ (h i) (h j) = true) : lA τ N h i j = -1 := by
  rw [lA_in hi hj]
  unfold eL
  rw [if_neg (fun z => by rw [z, lk_self] at hl; cases hl), if_pos hl]
theorem lA_np (hn : NU τ N h) : ∀ i j, i < N → j ≤ N → i ≠ j → lA τ N h i j ≤ 0 := fun i j _ _ hne => by
  rcases lA_off hn hne with e | ⟨e, _⟩ <;> rw [e] <;> decide
theorem lA_le (hn : NU τ N h) : ∀ i j, (lA τ N h i j).natAbs ≤ if i = j then 7 else 1 := fun i j => by
  by_cases e : i = j
  · subst e
    rw [if_pos rfl]
    unfold lA
    by_cases q : i ≤ N ∧ i ≤ N
    · rw [if_pos q]
      unfold eL
      rw [if_pos rfl]
      have := deg7 τ (hn.1 i q.1).1
      omega
    · rw [if_neg q]; simp
  · rw [if_neg e]
    rcases lA_off hn e with z | ⟨z, _⟩ <;> rw [z] <;> decide
theorem lA_conn (hn : NU τ N h) (hg : ∀ x y, x < 8 → y < 8 → up τ x = true → up τ y = true → Gr τ x y) : lConn (lA τ N h) N := by
  intro T ⟨i, hi, hT⟩ hN
  refine Classical.byContradiction fun hno => ?_
  have hu := hn.1 i (by omega)
  have hz := hn.1 N (Nat.le_refl _)
  obtain ⟨a, a1, a2, a3⟩ := hg (h i) (h N) hu.1 hz.1 hu.2 hz.2 (fun x => ∃ a, a ≤ N ∧ h a = x ∧ T a = true) ⟨i, by omega, rfl, hT⟩ (fun x y hx hy ⟨a, a1, a2, a3⟩ hl => by
    obtain ⟨b, b1, b2⟩ := hn.2.2.1 y hy (lk_up hl).2
    refine ⟨b, b1, b2, ?_⟩
    cases z : T b
    · refine absurd ⟨a, ?_, a3, b, b1, z, ?_⟩ hno
      · by_cases e : a = N
        · rw [e, hN] at a3; cases a3
        · omega
      · rw [lA_lk hn a1 b1 (by rw [a2, b2]; exact hl)]; decide
    · rfl)
  have := hn.2.1 a N a1 (Nat.le_refl _) a2
  rw [this, hN] at a3; cases a3
theorem lA_broken (hw : WF τ c) (hn : NU τ N h) {x y : Nat} (hx : x < 8) (hy : y < 8) (ux : up τ x = true) (uy : up τ y = true) (hxy : ¬ Gr τ x y) : ∃ k, k < N ∧ dM (lA τ N h) k k k = 0 := by
  obtain ⟨w, w1, w2, w3⟩ : ∃ w, w < 8 ∧ up τ w = true ∧ ¬ Gr τ (h N) w := by
    by_cases q : Gr τ (h N) x
    · exact ⟨y, hy, uy, fun z => hxy (Gr_trans (Gr_symm hw q) z)⟩
    · exact ⟨x, hx, ux, q⟩
  obtain ⟨i0, i1, i2⟩ := hn.2.2.1 w w1 w2
  have hd : ∃ T : Nat → Bool, ∀ i, T i = true ↔ ¬ Gr τ (h N) (h i) := ⟨fun i => @decide _ (Classical.propDecidable (¬ Gr τ (h N) (h i))), fun i => @decide_eq_true_iff _ (Classical.propDecidable _)⟩
  obtain ⟨T, hT⟩ := hd
  have hN : T N = false := by
    cases z : T N
    · rfl
    · exact absurd (Gr_self τ (h N)) ((hT N).mp z)
  have hT0 : T i0 = true := (hT i0).mpr (by rw [i2]; exact w3)
  refine lBroken (fun i hi => lA_row hn (by omega)) (T := T) ⟨i0, ?_, hT0⟩ hN (fun i j hi hj hne => ?_)
  · by_cases e : i0 = N
    · rw [e, hN] at hT0; cases hT0
    · omega
  · have hij : i ≠ j := fun e => hne (by rw [e])
    rcases lA_off hn hij with e | ⟨_, a1, a2, hl⟩
    · exact e
    · exfalso
      apply hne
      have li := (hn.1 i a1).1
      have lj := (hn.1 j a2).1
      have : T i = true ↔ T j = true := by
        rw [hT, hT]
        constructor
        · intro q z; exact q (Gr_step z lj li (by rw [lk_symm hw lj li]; exact hl))
        · intro q z; exact q (Gr_step z li lj hl)
      cases z1 : T i <;> cases z2 : T j <;> simp_all
end
end LVBG
