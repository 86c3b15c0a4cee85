/-! the matrix of degrees less links, without one member: pivots, the two principal minors, bounds -/
section GLP
def iS (v : Nat → Int) : Nat → Int
  | 0 => 0
  | n + 1 => iS v n + v n
theorem iS_lin (x y : Int) (v w : Nat → Int) : ∀ n, iS (fun j => x * v j + y * w j) n = x * iS v n + y * iS w n
  | 0 => by simp [iS]
  | n + 1 => by rw [iS, iS, iS, iS_lin x y v w n]; grind
theorem iS_zero : ∀ n, iS (fun _ => 0) n = 0
  | 0 => rfl
  | n + 1 => by rw [iS, iS_zero n]; rfl
theorem iS_congr {v w : Nat → Int} : ∀ {n : Nat}, (∀ j, j < n → v j = w j) → iS v n = iS w n
  | 0, _ => rfl
  | n + 1, h => by rw [iS, iS, iS_congr (fun j hj => h j (by omega)), h n (by omega)]
theorem iS_none {v : Nat → Int} {n : Nat} (h : ∀ j, j < n → v j = 0) : iS v n = 0 := by
  rw [iS_congr (w := fun _ => 0) h, iS_zero]
theorem iS_np {v : Nat → Int} : ∀ {n : Nat}, (∀ j, j < n → v j ≤ 0) → iS v n ≤ 0
  | 0, _ => Int.le_refl _
  | n + 1, h => by
    have h1 := iS_np (v := v) (n := n) (fun j hj => h j (by omega))
    have h2 := h n (by omega)
    rw [iS]; omega
/-- but one place -/
theorem iS_but {v : Nat → Int} {k : Nat} : ∀ {n : Nat}, k < n → iS v n = v k + iS (fun j => if j = k then 0 else v j) n
  | 0, h => by omega
  | n + 1, h => by
    rw [iS, iS]
    by_cases e : n = k
    · subst e
      rw [if_pos rfl, iS_congr (v := fun j => if j = n then 0 else v j) (w := v) (fun j hj => if_neg (by omega))]
      omega
    · rw [iS_but (v := v) (k := k) (n := n) (by omega), if_neg e]
      omega
theorem iS_neg {v : Nat → Int} {n k : Nat} (h : ∀ j, j < n → v j ≤ 0) (hk : k < n) (hv : v k < 0) : iS v n < 0 := by
  rw [iS_but hk]
  have := iS_np (v := fun j => if j = k then 0 else v j) (n := n) (fun j hj => by
    show (if j = k then (0 : Int) else v j) ≤ 0
    by_cases e : j = k
    · rw [if_pos e]; exact Int.le_refl _
    · rw [if_neg e]; exact h j hj)
  omega
theorem dSp_sum {n : Nat} : ∀ {R : List (Nat → Int)} {v : Nat → Int}, (∀ r ∈ R, iS r n = 0) → dSp R v → iS v n = 0
  | [], v, _, h => iS_none (fun j _ => h j)
  | r :: R, v, hR, ⟨e, u, hu, hv⟩ => by
    have h1 := dSp_sum (fun r' hr => hR r' (List.mem_cons_of_mem _ hr)) hu
    have h2 := hR r List.mem_cons_self
    rw [iS_congr (w := fun j => e * r j + 1 * u j) (fun j _ => by rw [hv j]; omega), iS_lin, h1, h2]
    simp
theorem dRs_mem {A : Nat → Nat → Int} : ∀ {k : Nat} {r : Nat → Int}, r ∈ dRs A k → ∃ i, i < k ∧ r = A i
  | 0, r, h => by cases h
  | k + 1, r, h => by
    rcases List.mem_cons.mp h with rfl | h
    · exact ⟨k, by omega, rfl⟩
    · obtain ⟨i, hi, e⟩ := dRs_mem h
      exact ⟨i, by omega, e⟩
section
variable {A : Nat → Nat → Int} {N : Nat}
theorem dM_sum (hs : ∀ i, i < N → iS (A i) (N + 1) = 0) {k i : Nat} (hk : k ≤ N) (hi : i < N) : iS (dM A k i) (N + 1) = 0 := by
  obtain ⟨u, hu, e⟩ := dM_sp A k i
  have h1 := dSp_sum (n := N + 1) (fun r hr => by
    obtain ⟨q, hq, rfl⟩ := dRs_mem hr
    exact hs q (by omega)) hu
  rw [iS_congr (w := fun j => dd A k * A i j + 1 * u j) (fun j _ => by rw [e j]; omega), iS_lin, h1, hs i hi]
  simp
/-- no set of members that leaves the last one out is without a way out of it -/
def lConn (A : Nat → Nat → Int) (N : Nat) : Prop := ∀ T : Nat → Bool, (∃ i, i < N ∧ T i = true) → T N = false → ∃ i, i < N ∧ T i = true ∧ ∃ j, j ≤ N ∧ T j = false ∧ A i j < 0
def lLev (A : Nat → Nat → Int) (N k : Nat) : Prop := (∀ i, i ≤ k → 0 < dd A i) ∧ (∀ i j, k ≤ i → i < N → k ≤ j → j ≤ N → i ≠ j → dM A k i j ≤ 0) ∧
  ∀ T : Nat → Bool, (∃ i, k ≤ i ∧ i < N ∧ T i = true) → T N = false → ∃ i, k ≤ i ∧ i < N ∧ T i = true ∧ ∃ j, k ≤ j ∧ j ≤ N ∧ T j = false ∧ dM A k i j < 0
theorem lLev_0 (h1 : ∀ i j, i < N → j ≤ N → i ≠ j → A i j ≤ 0) (hc : lConn A N) : lLev A N 0 := by
  refine ⟨fun i hi => ?_, fun i j _ hi _ hj hne => ?_, fun T ⟨i, _, hi, hT⟩ hN => ?_⟩
  · rw [show i = 0 by omega, dd_0]; omega
  · rw [dM_0]; exact h1 i j hi hj hne
  · obtain ⟨i, a1, a2, j, b1, b2, b3⟩ := hc T ⟨i, hi, hT⟩ hN
    exact ⟨i, Nat.zero_le _, a1, a2, j, Nat.zero_le _, b1, b2, by rw [dM_0]; exact b3⟩
theorem lPivot (hs : ∀ i, i < N → iS (A i) (N + 1) = 0) {k : Nat} (hk : k < N) (h : lLev A N k) : 0 < dM A k k k := by
  obtain ⟨-, h2, h3⟩ := h
  obtain ⟨i, a1, a2, a3, j, b1, b2, b3, b4⟩ := h3 (fun x => x == k) ⟨k, Nat.le_refl _, hk, by simp⟩ (by simp; omega)
  have ei : i = k := by simpa using a3
  subst ei
  have hj : j ≠ i := by simpa using b3
  have h0 := dM_sum hs (k := i) (i := i) (by omega) hk
  rw [iS_but (k := i) (by omega)] at h0
  have := iS_neg (v := fun q => if q = i then 0 else dM A i i q) (n := N + 1) (k := j) (fun q hq => by
    show (if q = i then (0 : Int) else dM A i i q) ≤ 0
    by_cases e : q = i
    · rw [if_pos e]; exact Int.le_refl _
    · rw [if_neg e]
      by_cases e2 : q < i
      · rw [dM_low A e2]; exact Int.le_refl _
      · exact h2 i q (Nat.le_refl _) hk (by omega) (by omega) (Ne.symm e)) (by omega) (by show (if j = i then (0 : Int) else dM A i i j) < 0; rw [if_neg hj]; exact b4)
  omega
theorem lLev_succ (hs : ∀ i, i < N → iS (A i) (N + 1) = 0) {k : Nat} (hk : k < N) (h : lLev A N k) : lLev A N (k + 1) := by
  have hp := lPivot hs hk h
  obtain ⟨h1, h2, h3⟩ := h
  have hd : ∀ i, i ≤ k + 1 → 0 < dd A i := fun i hi => by
    by_cases e : i = k + 1
    · rw [e, dd_succ]; exact hp
    · exact h1 i (by omega)
  have hsy := dSylv A k (fun i hi => Int.ne_of_gt (hd i hi))
  have hdk := h1 k (Nat.le_refl _)
  have hle : ∀ i j, k + 1 ≤ i → i < N → k + 1 ≤ j → j ≤ N → i ≠ j → dM A (k + 1) i j ≤ 0 := fun i j a1 a2 b1 b2 hne => by
    have e := hsy i j
    have q1 := h2 i j (by omega) a2 (by omega) b2 hne
    have q2 := h2 i k (by omega) a2 (by omega) (by omega) (by omega)
    have q3 := h2 k j (by omega) hk (by omega) b2 (by omega)
    have m1 : dM A k i j * dM A k k k ≤ 0 := Int.mul_nonpos_of_nonpos_of_nonneg q1 (Int.le_of_lt hp)
    have m2 : 0 ≤ dM A k i k * dM A k k j := Int.mul_nonneg_of_nonpos_of_nonpos q2 q3
    have m3 : dd A k * dM A (k + 1) i j ≤ 0 := by omega
    rcases Int.lt_or_le 0 (dM A (k + 1) i j) with z | z
    · have := Int.mul_pos hdk z
      omega
    · exact z
  -- strictly below 0, by a way over k or not
  have hlt : ∀ i j, k + 1 ≤ i → i < N → k + 1 ≤ j → j ≤ N → i ≠ j → (dM A k i j < 0 ∨ (dM A k i k < 0 ∧ dM A k k j < 0)) → dM A (k + 1) i j < 0 := fun i j a1 a2 b1 b2 hne hor => by
    have e := hsy i j
    have q1 := h2 i j (by omega) a2 (by omega) b2 hne
    have q2 := h2 i k (by omega) a2 (by omega) (by omega) (by omega)
    have q3 := h2 k j (by omega) hk (by omega) b2 (by omega)
    have m1 : dM A k i j * dM A k k k ≤ 0 := Int.mul_nonpos_of_nonpos_of_nonneg q1 (Int.le_of_lt hp)
    have m2 : 0 ≤ dM A k i k * dM A k k j := Int.mul_nonneg_of_nonpos_of_nonpos q2 q3
    have m3 : dd A k * dM A (k + 1) i j < 0 := by
      rcases hor with z | ⟨z1, z2⟩
      · have := Int.mul_neg_of_neg_of_pos z hp
        omega
      · have := Int.mul_pos_of_neg_of_neg z1 z2
        omega
    rcases Int.lt_or_le (dM A (k + 1) i j) 0 with z | z
    · exact z
    · have := Int.mul_nonneg (Int.le_of_lt hdk) z
      omega
  refine ⟨hd, hle, fun T ⟨i0, c1, c2, c3⟩ hN => ?_⟩
  -- T without k
  obtain ⟨i, a1, a2, a3, j, b1, b2, b3, b4⟩ := h3 (fun x => decide (x ≠ k) && T x) ⟨i0, by omega, c2, by simp [c3]; omega⟩ (by simp [hN])
  simp only [Bool.and_eq_true, decide_eq_true_eq] at a3
  by_cases ej : j = k
  · subst ej
    obtain ⟨i', a1', a2', a3', j', b1', b2', b3', b4'⟩ := h3 (fun x => decide (x = j) || T x) ⟨i0, by omega, c2, by simp [c3]⟩ (by simp [hN]; omega)
    simp only [Bool.or_eq_true, Bool.or_eq_false_iff, decide_eq_true_eq, decide_eq_false_iff_not] at a3' b3'
    by_cases ei : i' = j
    · subst ei
      have hne : i ≠ j' := by intro z; subst z; rw [a3.2] at b3'; exact absurd b3'.2 (by simp)
      exact ⟨i, by omega, a2, a3.2, j', by omega, b2', b3'.2, hlt i j' (by omega) a2 (by omega) b2' hne (Or.inr ⟨b4, b4'⟩)⟩
    · have hT : T i' = true := by rcases a3' with z | z; exact absurd z ei; exact z
      have hne : i' ≠ j' := by intro z; subst z; rw [hT] at b3'; exact absurd b3'.2 (by simp)
      exact ⟨i', by omega, a2', hT, j', by omega, b2', b3'.2, hlt i' j' (by omega) a2' (by omega) b2' hne (Or.inl b4')⟩
  · have hTj : T j = false := by simpa [ej] using b3
    have hne : i ≠ j := by intro z; subst z; rw [a3.2] at hTj; exact absurd hTj (by simp)
    exact ⟨i, by omega, a2, a3.2, j, by omega, b2, hTj, hlt i j (by omega) a2 (by omega) b2 hne (Or.inl b4)⟩
theorem lLev_all (hs : ∀ i, i < N → iS (A i) (N + 1) = 0) (h1 : ∀ i j, i < N → j ≤ N → i ≠ j → A i j ≤ 0) (hc : lConn A N) : ∀ k, k ≤ N → lLev A N k
  | 0, _ => lLev_0 h1 hc
  | k + 1, h => lLev_succ hs (by omega) (lLev_all hs h1 hc k (by omega))
/-- all of one group: every pivot is above 0 -/
theorem lPivots (hs : ∀ i, i < N → iS (A i) (N + 1) = 0) (h1 : ∀ i j, i < N → j ≤ N → i ≠ j → A i j ≤ 0) (hc : lConn A N) {k : Nat} (hk : k < N) : 0 < dM A k k k :=
  lPivot hs hk (lLev_all hs h1 hc k (by omega))
/-- not of one group: some pivot is 0 -/
theorem lBroken (hs : ∀ i, i < N → iS (A i) (N + 1) = 0) {T : Nat → Bool} (hT : ∃ i, i < N ∧ T i = true) (hN : T N = false) (hz : ∀ i j, i < N → j ≤ N → T i ≠ T j → A i j = 0) : ∃ k, k < N ∧ dM A k k k = 0 := by
  refine Classical.byContradiction fun hno => ?_
  have hp : ∀ k, k < N → dM A k k k ≠ 0 := fun k hk h => hno ⟨k, hk, h⟩
  have hd : ∀ k, k ≤ N → dd A k ≠ 0 := fun k hk => by
    cases k with
    | zero => rw [dd_0]; omega
    | succ k => rw [dd_succ]; exact hp k (by omega)
  have hM : ∀ k, k ≤ N → ∀ i j, k ≤ i → i < N → k ≤ j → j ≤ N → T i ≠ T j → dM A k i j = 0 := by
    intro k
    induction k with
    | zero => intro _ i j _ hi _ hj hne; rw [dM_0]; exact hz i j hi hj hne
    | succ k ih =>
      intro hk i j a1 a2 b1 b2 hne
      have e := dSylv A k (fun i hi => hd i (by omega)) i j
      have q1 := ih (by omega) i j (by omega) a2 (by omega) b2 hne
      have q2 : dM A k i k * dM A k k j = 0 := by
        by_cases ek : T i = T k
        · rw [ih (by omega) k j (by omega) (by omega) (by omega) b2 (by rw [← ek]; exact hne)]; simp
        · rw [ih (by omega) i k (by omega) a2 (by omega) (by omega) ek]; simp
      rw [q1, q2] at e
      have e2 : dd A k * dM A (k + 1) i j = 0 := by simpa using e.symm
      rcases Int.mul_eq_zero.mp e2 with z | z
      · exact absurd z (hd k (by omega))
      · exact z
  -- the greatest one of T
  have hgr : ∀ n, n ≤ N → (∃ i, i < n ∧ T i = true) → ∃ t, t < n ∧ T t = true ∧ ∀ j, t < j → j < n → T j = false := by
    intro n
    induction n with
    | zero => intro _ ⟨i, hi, _⟩; omega
    | succ n ih =>
      intro hn ⟨i, hi, hTi⟩
      by_cases e : T n = true
      · exact ⟨n, by omega, e, fun j h1 h2 => by omega⟩
      · have hi' : i ≠ n := by intro z; subst z; exact e hTi
        obtain ⟨t, t1, t2, t3⟩ := ih (by omega) ⟨i, by omega, hTi⟩
        refine ⟨t, by omega, t2, fun j h1 h2 => ?_⟩
        by_cases ej : j = n
        · subst ej; simpa using e
        · exact t3 j h1 (by omega)
  obtain ⟨t, t1, t2, t3⟩ := hgr N (Nat.le_refl _) hT
  have h0 := dM_sum hs (k := t) (i := t) (by omega) t1
  rw [iS_but (k := t) (by omega), iS_none (v := fun q => if q = t then 0 else dM A t t q) (fun q hq => by
    show (if q = t then (0 : Int) else dM A t t q) = 0
    by_cases e : q = t
    · rw [if_pos e]
    · rw [if_neg e]
      by_cases e2 : q < t
      · exact dM_low A e2
      · refine hM t (by omega) t q (Nat.le_refl _) t1 (by omega) (by omega) ?_
        rw [t2]
        by_cases e3 : q = N
        · subst e3; rw [hN]; simp
        · rw [t3 q (by omega) (by omega)]; simp)] at h0
  exact hp t t1 (by omega)
end
/-! the two principal minors -/
theorem dH_sum {n : Nat} : ∀ (R : List (Nat → Int)) (F : List (Nat → Int) → Int), (∀ r ∈ R, iS r n = 0) → iS (fun c => dH F c R) n = 0
  | [], F, _ => iS_none (fun _ _ => rfl)
  | r :: R, F, h => by
    have h1 := dH_sum R (fun T => F (r :: T)) (fun r' hr => h r' (List.mem_cons_of_mem _ hr))
    have h2 := h r List.mem_cons_self
    rw [iS_congr (w := fun c => F R * r c + (-1) * dH (fun T => F (r :: T)) c R) (fun c _ => by rw [dH]; grind), iS_lin, h1, h2]
    simp
theorem iS_ends {v : Nat → Int} {N : Nat} (hN : 0 < N) (h : ∀ j, 0 < j → j < N → v j = 0) : iS v (N + 1) = v 0 + v N := by
  rw [iS_but (k := N) (by omega), iS_but (k := 0) (by omega), iS_none]
  · show v N + ((if 0 = N then 0 else v 0) + 0) = v 0 + v N
    rw [if_neg (by omega)]
    omega
  · intro j hj
    by_cases e : j = 0
    · simp [e]
    · by_cases e2 : j = N
      · simp [e2]
      · simp only [if_neg e, if_neg e2]
        exact h j (by omega) (by omega)
def dCu : Nat → List Nat
  | 0 => []
  | k + 1 => (k + 1) :: dCu k
def dRu (B : Nat → Nat → Int) : Nat → List (Nat → Int)
  | 0 => []
  | k + 1 => B (k + 1) :: dRu B k
theorem dCu_low : ∀ k, dCu k ++ [0] = dCs (k + 1)
  | 0 => rfl
  | k + 1 => by rw [dCu, List.cons_append, dCu_low k]; rfl
theorem dRu_low (B : Nat → Nat → Int) : ∀ k, dRu B k ++ [B 0] = dRs B (k + 1)
  | 0 => rfl
  | k + 1 => by rw [dRu, List.cons_append, dRu_low B k]; rfl
theorem dCu_mem : ∀ {k j : Nat}, 0 < j → j ≤ k → j ∈ dCu k
  | 0, j, h1, h2 => by omega
  | k + 1, j, h1, h2 => by
    by_cases e : j = k + 1
    · subst e; exact List.mem_cons_self
    · exact List.mem_cons_of_mem _ (dCu_mem h1 (by omega))
theorem dRu_mem (B : Nat → Nat → Int) : ∀ {k j : Nat}, 0 < j → j ≤ k → B j ∈ dRu B k
  | 0, j, h1, h2 => by omega
  | k + 1, j, h1, h2 => by
    by_cases e : j = k + 1
    · subst e; exact List.mem_cons_self
    · exact List.mem_cons_of_mem _ (dRu_mem B h1 (by omega))
theorem dRu_of {B : Nat → Nat → Int} : ∀ {k : Nat} {r : Nat → Int}, r ∈ dRu B k → ∃ i, i ≤ k ∧ r = B i
  | 0, r, h => by cases h
  | k + 1, r, h => by
    rcases List.mem_cons.mp h with rfl | h
    · exact ⟨k + 1, by omega, rfl⟩
    · obtain ⟨i, hi, e⟩ := dRu_of h
      exact ⟨i, by omega, e⟩
theorem dCu_len : ∀ k, (dCu k).length = k
  | 0 => rfl
  | k + 1 => by rw [dCu, List.length_cons, dCu_len k]
theorem dRu_len (B : Nat → Nat → Int) : ∀ k, (dRu B k).length = k
  | 0 => rfl
  | k + 1 => by rw [dRu, List.length_cons, dRu_len B k]
theorem dD_sumR (B : Nat → Nat → Int) (C : List Nat) (R : List (Nat → Int)) : ∀ n, iS (fun i => dD C (B i :: R)) n = dD C ((fun j => iS (fun i => B i j) n) :: R)
  | 0 => by simp only [iS]; exact (dD_zeroR C R).symm
  | n + 1 => by
    rw [iS, dD_sumR B C R n]
    have := dD_linR 1 1 (fun j => iS (fun i => B i j) n) (B n) C R
    simp only [iS, Int.one_mul] at this ⊢
    exact this.symm
/-- rows and columns sum up to nothing: without the first one, or without the last one, it is the same -/
theorem dMinors {B : Nat → Nat → Int} {N : Nat} (hr : ∀ i, i ≤ N → iS (B i) (N + 1) = 0) (hc : ∀ j, iS (fun i => B i j) (N + 1) = 0) : dD (dCu N) (dRu B N) = dd B N := by
  cases N with
  | zero => rfl
  | succ N =>
    have e1 : dD (dCu (N + 1)) (dRu B (N + 1)) = - dD (0 :: dCu N) (dRu B (N + 1)) := by
      have h := dH_sum (n := N + 1 + 1) (dRu B (N + 1)) (dD (dCu N)) (fun r h => by
        obtain ⟨i, hi, rfl⟩ := dRu_of h
        exact hr i hi)
      rw [iS_ends (N := N + 1) (by omega) (fun j h1 h2 => by
        rw [← dD_cons]; exact dD_dup (dCu_mem h1 (by omega)) _)] at h
      rw [← dD_cons, ← dD_cons] at h
      show dD ((N + 1) :: dCu N) _ = _
      omega
    have e2 := dD_rotC 0 (dCu N) [] (dRu B (N + 1))
    have e3 : dD (dCs (N + 1)) (dRu B (N + 1)) = - dD (dCs (N + 1)) (B 0 :: dRu B N) := by
      have h := dD_sumR B (dCs (N + 1)) (dRu B N) (N + 1 + 1)
      rw [iS_ends (N := N + 1) (by omega) (fun j h1 h2 => by
        have := dD_dupR (dCs (N + 1)) [] (dRu_mem B (k := N) h1 (by omega))
        simpa using this)] at h
      have hz : (fun j => iS (fun i => B i j) (N + 1 + 1)) = fun _ => 0 := funext hc
      rw [hz, dD_zeroR] at h
      show dD (dCs (N + 1)) (B (N + 1) :: dRu B N) = _
      omega
    have e4 := dD_rotR (dCs (N + 1)) (B 0) (dRu B N) []
    simp only [List.nil_append] at e2 e4
    rw [dCu_low, dCu_len] at e2
    rw [dRu_low, dRu_len] at e4
    rw [e1, e2, e3, e4]
    have hq := dSg_sq N
    show -(dSg N * -(dSg N * dD (dCs (N + 1)) (dRs B (N + 1)))) = dD (dCs (N + 1)) (dRs B (N + 1))
    grind
theorem dD_map (f : Nat → Nat) : ∀ (C : List Nat) (R : List (Nat → Int)), dD C (R.map (fun r j => r (f j))) = dD (C.map f) R := by
  have hH : ∀ (c : Nat) (R : List (Nat → Int)) (F G : List (Nat → Int) → Int), (∀ T : List (Nat → Int), F (T.map (fun r j => r (f j))) = G T) → dH F c (R.map (fun r j => r (f j))) = dH G (f c) R := by
    intro c R
    induction R with
    | nil => intro F G h; rfl
    | cons r R ih =>
      intro F G h
      rw [List.map_cons, dH, dH, h R, ih (fun T => F ((fun j => r (f j)) :: T)) (fun T => G (r :: T)) (fun T => h (r :: T))]
  intro C
  induction C with
  | nil => intro R; cases R <;> rfl
  | cons c C ih => intro R; rw [List.map_cons, dD_cons, dD_cons]; exact hH c R _ _ ih
theorem dd_up (B : Nat → Nat → Int) (f : Nat → Nat) (N : Nat) (hf : ∀ i, i < N → f i = i + 1) : dd (fun i j => B (f i) (f j)) N = dD (dCu N) (dRu B N) := by
  have h1 : ∀ k, k ≤ N → dRs (fun i j => B (f i) (f j)) k = (dRu B k).map (fun r j => r (f j)) := by
    intro k
    induction k with
    | zero => intro _; rfl
    | succ k ih => intro hk; rw [dRs, dRu, List.map_cons, ih (by omega), hf k (by omega)]
  have h2 : ∀ k, k ≤ N → (dCs k).map f = dCu k := by
    intro k
    induction k with
    | zero => intro _; rfl
    | succ k ih => intro hk; rw [dCs, dCu, List.map_cons, ih (by omega), hf k (by omega)]
  rw [dd, h1 N (Nat.le_refl _), dD_map, h2 N (Nat.le_refl _)]
/-! how large -/
def dN (c : Nat) : List (Nat → Int) → Nat
  | [] => 0
  | r :: R => (r c).natAbs + dN c R
theorem dN_sub {c : Nat} {T R : List (Nat → Int)} (h : T.Sublist R) : dN c T ≤ dN c R := by
  induction h with
  | slnil => exact Nat.le_refl _
  | cons r _ ih => rw [dN]; omega
  | cons_cons r _ ih => rw [dN, dN]; omega
theorem dH_le {c b : Nat} : ∀ (R : List (Nat → Int)) (F : List (Nat → Int) → Int), (∀ T, T.Sublist R → (F T).natAbs ≤ b) → (dH F c R).natAbs ≤ dN c R * b
  | [], F, _ => by simp [dH]
  | r :: R, F, h => by
    have h1 := dH_le (c := c) R (fun T => F (r :: T)) (fun T hT => h (r :: T) (hT.cons_cons r))
    have h2 := h R (List.sublist_cons_self r R)
    rw [dH, dN]
    have h3 := Int.natAbs_sub_le (r c * F R) (dH (fun T => F (r :: T)) c R)
    rw [Int.natAbs_mul] at h3
    have h4 : (r c).natAbs * (F R).natAbs ≤ (r c).natAbs * b := Nat.mul_le_mul_left _ h2
    rw [Nat.add_mul]
    omega
theorem dD_le {b : Nat} : ∀ (C : List Nat) (R : List (Nat → Int)), (∀ c ∈ C, dN c R ≤ b) → (dD C R).natAbs ≤ b ^ C.length
  | [], [], _ => by simp [dD]
  | [], r :: R, _ => by simp [dD]
  | c :: C, R, h => by
    rw [dD_cons, List.length_cons, Nat.pow_succ, Nat.mul_comm]
    exact Nat.le_trans (dH_le R (dD C) (fun T hT => dD_le C T (fun c' hc => Nat.le_trans (dN_sub hT) (h c' (List.mem_cons_of_mem _ hc))))) (Nat.mul_le_mul_right _ (h c List.mem_cons_self))
theorem dCs_len : ∀ k, (dCs k).length = k
  | 0 => rfl
  | k + 1 => by rw [dCs, List.length_cons, dCs_len k]
theorem dM_le {A : Nat → Nat → Int} (h : ∀ i j, (A i j).natAbs ≤ if i = j then 7 else 1) {k i j : Nat} (hk : k ≤ 6) (hi : k ≤ i) : (dM A k i j).natAbs ≤ 62748517 := by
  have hN : ∀ c k, dN c (dRs A k) ≤ k + if c < k then 6 else 0 := by
    intro c k
    induction k with
    | zero => simp [dRs, dN]
    | succ k ih =>
      rw [dRs, dN]
      have := h k c
      by_cases e : k = c
      · subst e
        rw [if_pos rfl] at this
        rw [if_neg (by omega)] at ih
        rw [if_pos (by omega)]
        omega
      · rw [if_neg e] at this
        by_cases e2 : c < k
        · rw [if_pos e2] at ih
          rw [if_pos (by omega)]
          omega
        · rw [if_neg e2] at ih
          omega
  have hb : ∀ c ∈ j :: dCs k, dN c (A i :: dRs A k) ≤ 13 := by
    intro c _
    rw [dN]
    have h1 := hN c k
    have h2 := h i c
    by_cases e : i = c
    · rw [if_pos e] at h2
      rw [if_neg (by omega)] at h1
      omega
    · rw [if_neg e] at h2
      by_cases e2 : c < k
      · rw [if_pos e2] at h1; omega
      · rw [if_neg e2] at h1; omega
  have h3 := dD_le (j :: dCs k) (A i :: dRs A k) hb
  rw [List.length_cons, dCs_len] at h3
  have h4 : 13 ^ (k + 1) ≤ 13 ^ 7 := Nat.pow_le_pow_right (by omega) (by omega)
  exact Nat.le_trans h3 (Nat.le_trans h4 (by decide))
end GLP
