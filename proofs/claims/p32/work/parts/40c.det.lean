/-! determinants by their head column, elimination without fractions -/
section GDT
def dH (F : List (Nat → Int) → Int) (c : Nat) : List (Nat → Int) → Int
  | [] => 0
  | r :: R => r c * F R - dH (fun T => F (r :: T)) c R
def dD : List Nat → List (Nat → Int) → Int
  | [], [] => 1
  | [], _ :: _ => 0
  | c :: C, R => dH (dD C) c R
theorem dD_cons (c : Nat) (C : List Nat) (R : List (Nat → Int)) : dD (c :: C) R = dH (dD C) c R := by cases R <;> rfl
theorem dH_congr {F G : List (Nat → Int) → Int} (c : Nat) : ∀ (R : List (Nat → Int)), (∀ T, F T = G T) → dH F c R = dH G c R
  | [], _ => rfl
  | r :: R, h => by rw [dH, dH, h R, dH_congr c R (fun T => h (r :: T))]
theorem dH_lin {F G : List (Nat → Int) → Int} (x y : Int) (c : Nat) : ∀ (R : List (Nat → Int)) , dH (fun T => x * F T + y * G T) c R = x * dH F c R + y * dH G c R := by
  intro R
  induction R generalizing F G with
  | nil => simp [dH]
  | cons r R ih =>
    rw [dH, dH, dH, ih (F := fun T => F (r :: T)) (G := fun T => G (r :: T))]
    grind
theorem dH_zero (c : Nat) : ∀ (R : List (Nat → Int)), dH (fun _ => 0) c R = 0
  | [] => rfl
  | r :: R => by rw [dH, dH_zero c R]; simp
theorem dH_neg {F : List (Nat → Int) → Int} (c : Nat) (R : List (Nat → Int)) : dH (fun T => - F T) c R = - dH F c R := by
  have h := dH_lin (F := F) (G := fun _ => 0) (-1) 0 c R
  rw [dH_congr (G := fun T => -1 * F T + 0 * 0) c R (fun T => by omega), h]
  omega
theorem dH_anti {c c' : Nat} : ∀ (R : List (Nat → Int)) (F : List (Nat → Int) → Int), dH (dH F c') c R + dH (dH F c) c' R = 0 := by
  intro R
  induction R with
  | nil => intro F; simp [dH]
  | cons r R ih =>
    intro F
    have e1 : dH (dH F c') c (r :: R) = r c * dH F c' R - (r c' * dH F c R + (-1) * dH (dH (fun U => F (r :: U)) c') c R) := by
      rw [dH]
      rw [← dH_lin]
      congr 1
      exact dH_congr c R (fun T => by rw [dH]; omega)
    have e2 : dH (dH F c) c' (r :: R) = r c' * dH F c R - (r c * dH F c' R + (-1) * dH (dH (fun U => F (r :: U)) c) c' R) := by
      rw [dH]
      rw [← dH_lin]
      congr 1
      exact dH_congr c' R (fun T => by rw [dH]; omega)
    rw [e1, e2]
    have := ih (fun U => F (r :: U))
    omega
theorem dD_swap (c c' : Nat) (C : List Nat) (R : List (Nat → Int)) : dD (c :: c' :: C) R = - dD (c' :: c :: C) R := by
  have h := dH_anti (c := c) (c' := c') R (dD C)
  rw [dD_cons, dD_cons, dH_congr c R (fun T => dD_cons c' C T), dH_congr c' R (fun T => dD_cons c C T)]
  omega
theorem dD_dup {c : Nat} : ∀ {C : List Nat}, c ∈ C → ∀ R, dD (c :: C) R = 0
  | [], h, _ => by cases h
  | c' :: C, h, R => by
    by_cases e : c = c'
    · subst e
      have := dD_swap c c C R
      omega
    · have hC : c ∈ C := by
        rcases List.mem_cons.mp h with q | q
        · exact absurd q e
        · exact q
      rw [dD_swap, dD_cons, dH_congr c' R (G := fun _ => 0) (fun T => dD_dup hC T), dH_zero]
      rfl
theorem dD_swapP (c c' : Nat) (C : List Nat) : ∀ (P : List Nat) (R : List (Nat → Int)), dD (P ++ c :: c' :: C) R = - dD (P ++ c' :: c :: C) R
  | [], R => dD_swap c c' C R
  | q :: P, R => by
    rw [List.cons_append, List.cons_append, dD_cons, dD_cons, dH_congr q R (fun T => dD_swapP c c' C P T), dH_neg]
def dSg : Nat → Int
  | 0 => 1
  | n + 1 => - dSg n
theorem dSg_sq : ∀ n, dSg n * dSg n = 1
  | 0 => rfl
  | n + 1 => by have := dSg_sq n; show -dSg n * -dSg n = 1; grind
theorem dD_rotC (c : Nat) : ∀ (C P : List Nat) (R : List (Nat → Int)), dD (P ++ c :: C) R = dSg C.length * dD (P ++ C ++ [c]) R
  | [], P, R => by simp [dSg]
  | q :: C, P, R => by
    have h := dD_rotC c C (P ++ [q]) R
    rw [dD_swapP]
    simp only [List.append_assoc, List.cons_append, List.nil_append, List.length_cons, dSg] at h ⊢
    rw [h]
    grind
-- rows
theorem dH_swapR (r r' : Nat → Int) (c : Nat) : ∀ (P : List (Nat → Int)) (F : List (Nat → Int) → Int), (∀ P R, F (P ++ r :: r' :: R) = - F (P ++ r' :: r :: R)) → ∀ R, dH F c (P ++ r :: r' :: R) = - dH F c (P ++ r' :: r :: R)
  | [], F, h, R => by
    simp only [List.nil_append, dH]
    have e : dH (fun T => F (r :: r' :: T)) c R = - dH (fun T => F (r' :: r :: T)) c R := by
      rw [← dH_neg]
      exact dH_congr c R (fun T => h [] T)
    rw [e]
    omega
  | q :: P, F, h, R => by
    simp only [List.cons_append, dH]
    rw [h P R, dH_swapR r r' c P (fun T => F (q :: T)) (fun P2 R2 => h (q :: P2) R2) R]
    grind
theorem dD_swapR (r r' : Nat → Int) : ∀ (C : List Nat) (P R : List (Nat → Int)), dD C (P ++ r :: r' :: R) = - dD C (P ++ r' :: r :: R)
  | [], P, R => by cases P <;> rfl
  | c :: C, P, R => by rw [dD_cons, dD_cons]; exact dH_swapR r r' c P (dD C) (fun P R => dD_swapR r r' C P R) R
theorem dD_rotR (C : List Nat) (r : Nat → Int) : ∀ (R P : List (Nat → Int)), dD C (P ++ r :: R) = dSg R.length * dD C (P ++ R ++ [r])
  | [], P => by simp [dSg]
  | q :: R, P => by
    have h := dD_rotR C r R (P ++ [q])
    rw [dD_swapR]
    simp only [List.append_assoc, List.cons_append, List.nil_append, List.length_cons, dSg] at h ⊢
    rw [h]
    grind
theorem dD_dupR (C : List Nat) {r : Nat → Int} : ∀ {R : List (Nat → Int)} (P : List (Nat → Int)), r ∈ R → dD C (P ++ r :: R) = 0
  | [], _, h => by cases h
  | q :: R, P, h => by
    by_cases e : r = q
    · subst e
      have := dD_swapR r r C P R
      omega
    · have hR : r ∈ R := by
        rcases List.mem_cons.mp h with z | z
        · exact absurd z e
        · exact z
      rw [dD_swapR]
      have := dD_dupR C (P ++ [q]) hR
      simp only [List.append_assoc, List.cons_append, List.nil_append] at this
      rw [this]
      rfl
/-- linear in the head row -/
theorem dD_linR (x y : Int) (r r' : Nat → Int) : ∀ (C : List Nat) (R : List (Nat → Int)), dD C ((fun j => x * r j + y * r' j) :: R) = x * dD C (r :: R) + y * dD C (r' :: R)
  | [], R => by simp [dD]
  | c :: C, R => by
    simp only [dD_cons, dH]
    rw [dH_congr c R (fun T => dD_linR x y r r' C T), dH_lin]
    grind
theorem dD_zeroR : ∀ (C : List Nat) (R : List (Nat → Int)), dD C ((fun _ => 0) :: R) = 0
  | [], R => by simp [dD]
  | c :: C, R => by
    simp only [dD_cons, dH]
    rw [dH_congr c R (G := fun _ => 0) (fun T => dD_zeroR C T), dH_zero]
    simp
/-- rows that come together out of others -/
def dSp : List (Nat → Int) → (Nat → Int) → Prop
  | [], v => ∀ j, v j = 0
  | r :: R, v => ∃ (e : Int) (u : Nat → Int), dSp R u ∧ ∀ j, v j = e * r j + u j
theorem dSp_lin (x y : Int) : ∀ {R : List (Nat → Int)} {v w : Nat → Int}, dSp R v → dSp R w → dSp R (fun j => x * v j + y * w j)
  | [], v, w, h1, h2 => fun j => by show x * v j + y * w j = 0; rw [h1 j, h2 j]; simp
  | r :: R, v, w, ⟨e, u, hu, h1⟩, ⟨e', u', hu', h2⟩ => ⟨x * e + y * e', _, dSp_lin x y hu hu', fun j => by show x * v j + y * w j = _; rw [h1 j, h2 j]; grind⟩
theorem dSp_zero : ∀ R : List (Nat → Int), dSp R (fun _ => 0)
  | [] => fun _ => rfl
  | r :: R => ⟨0, _, dSp_zero R, fun j => by simp⟩
theorem dSp_head (r : Nat → Int) (R : List (Nat → Int)) : dSp (r :: R) r := ⟨1, _, dSp_zero R, fun j => by simp⟩
theorem dSp_tail (r : Nat → Int) {R : List (Nat → Int)} {v : Nat → Int} (h : dSp R v) : dSp (r :: R) v := ⟨0, v, h, fun j => by simp⟩
theorem dSp_eq {R : List (Nat → Int)} {v w : Nat → Int} (h : dSp R v) (e : ∀ j, w j = v j) : dSp R w := by
  have : w = v := funext e
  rw [this]; exact h
theorem dSp_dH : ∀ (R : List (Nat → Int)) (F : List (Nat → Int) → Int), dSp R (fun j => dH F j R)
  | [], F => fun j => rfl
  | r :: R, F => ⟨F R, _, dSp_lin (-1) 0 (dSp_dH R (fun T => F (r :: T))) (dSp_zero R), fun j => by show dH F j (r :: R) = _; rw [dH]; grind⟩
section
variable (A : Nat → Nat → Int)
def dRs : Nat → List (Nat → Int)
  | 0 => []
  | k + 1 => A k :: dRs k
def dCs : Nat → List Nat
  | 0 => []
  | k + 1 => k :: dCs k
/-- the minor of the first k rows and row i, the first k columns and column j -/
def dM (k i j : Nat) : Int := dD (j :: dCs k) (A i :: dRs A k)
def dd (k : Nat) : Int := dD (dCs k) (dRs A k)
theorem dd_0 : dd A 0 = 1 := rfl
theorem dd_succ (k : Nat) : dd A (k + 1) = dM A k k k := rfl
theorem dM_0 (i j : Nat) : dM A 0 i j = A i j := by simp [dM, dCs, dRs, dD, dH]
theorem dCs_mem {j k : Nat} (h : j < k) : j ∈ dCs k := by
  induction k with
  | zero => omega
  | succ k ih =>
    by_cases e : j = k
    · subst e; exact List.mem_cons_self
    · exact List.mem_cons_of_mem _ (ih (by omega))
theorem dM_low {k i j : Nat} (h : j < k) : dM A k i j = 0 := dD_dup (dCs_mem h) _
theorem dM_sp (k i : Nat) : ∃ u, dSp (dRs A k) u ∧ ∀ j, dM A k i j = dd A k * A i j + u j :=
  ⟨_, dSp_lin (-1) 0 (dSp_dH (dRs A k) (fun T => dD (dCs k) (A i :: T))) (dSp_zero _), fun j => by
    show dD (j :: dCs k) (A i :: dRs A k) = _
    rw [dD_cons, dH]
    simp only [dd]
    grind⟩
/-- what comes together out of the first k rows and is 0 in the first k columns is 0 -/
theorem dSp_null : ∀ k, (∀ i, i ≤ k → dd A i ≠ 0) → ∀ v, dSp (dRs A k) v → (∀ j, j < k → v j = 0) → ∀ j, v j = 0
  | 0, _, v, h, _ => h
  | k + 1, hd, v, ⟨e, u, hu, hv⟩, hz => by
    obtain ⟨w, hw, hm⟩ := dM_sp A k k
    have hs : dSp (dRs A k) (fun j => dd A k * u j + (-e) * w j) := dSp_lin (dd A k) (-e) hu hw
    have hrel : ∀ j, dd A k * v j = e * dM A k k j + (dd A k * u j + (-e) * w j) := fun j => by
      rw [hv j, hm j]; grind
    have hn := dSp_null k (fun i hi => hd i (by omega)) _ hs (fun j hj => by
      have h1 := hrel j
      rw [dM_low A hj, hz j (by omega)] at h1
      simp at h1
      omega)
    have hk := hrel k
    rw [hn k, hz k (by omega), ← dd_succ] at hk
    have he : e = 0 := by
      have h2 : e * dd A (k + 1) = 0 := by simpa using hk.symm
      rcases Int.mul_eq_zero.mp h2 with h | h
      · exact h
      · exact absurd h (hd (k + 1) (Nat.le_refl _))
    intro j
    have hj := hrel j
    rw [hn j, he] at hj
    have h2 : dd A k * v j = 0 := by simpa using hj
    rcases Int.mul_eq_zero.mp h2 with h | h
    · exact absurd h (hd k (by omega))
    · exact h
theorem dSylv (k : Nat) (hd : ∀ i, i ≤ k + 1 → dd A i ≠ 0) (i j : Nat) : dM A k i j * dM A k k k - dM A k i k * dM A k k j = dd A k * dM A (k + 1) i j := by
  obtain ⟨u1, s1, e1⟩ := dM_sp A k i
  obtain ⟨u2, s2, e2⟩ := dM_sp A k k
  obtain ⟨u3, s3, e3⟩ := dM_sp A (k + 1) i
  have hdk : dM A k k k = dd A (k + 1) := rfl
  have hs : dSp (dRs A (k + 1)) (fun j => 1 * (dd A (k + 1) * u1 j + (- dM A k i k) * (dd A k * A k j + u2 j)) + (- dd A k) * u3 j) := by
    refine dSp_lin 1 (- dd A k) (dSp_lin _ _ (dSp_tail _ s1) ?_) s3
    exact dSp_eq (dSp_lin (dd A k) 1 (dSp_head (A k) (dRs A k)) (dSp_tail (A k) s2)) (fun j => by simp)
  have hw : ∀ j, dM A k i j * dM A k k k - dM A k i k * dM A k k j - dd A k * dM A (k + 1) i j = 1 * (dd A (k + 1) * u1 j + (- dM A k i k) * (dd A k * A k j + u2 j)) + (- dd A k) * u3 j := fun j => by
    rw [e1 j, e3 j, hdk, e2 j]
    grind
  have hz := dSp_null A (k + 1) hd _ hs (fun j hj => by
    rw [← hw j]
    rw [dM_low A (k := k + 1) hj]
    by_cases ej : j = k
    · subst ej
      grind
    · rw [dM_low A (k := k) (i := i) (j := j) (by omega), dM_low A (k := k) (i := k) (j := j) (by omega)]
      simp)
  have := hw j
  rw [hz j] at this
  omega
end
end GDT
