section LVU
def kset (κ : Nat → Bool) (k : Nat) (b : Bool) : Nat → Bool := fun m => if m = k then b else κ m
theorem kc_set {κ : Nat → Bool} {k : Nat} (hk : κ k = false) (V : Nat → Bool) : ∀ n, kc (kset κ k true) V n = kc κ V n + if k < n then (V (k / 8) && V (k % 8)).toNat else 0 := by
  intro n
  unfold kc
  induction n with
  | zero => simp [cnt]
  | succ n ih =>
    rw [cnt, cnt, ih]
    by_cases z : n = k
    · subst z
      rw [if_neg (by omega), if_pos (by omega)]
      simp [kset, hk]
    · have : kset κ k true n = κ n := by simp [kset, z]
      rw [this]
      by_cases z2 : k < n
      · rw [if_pos z2, if_pos (by omega)]; omega
      · rw [if_neg z2, if_neg (by omega)]; omega
/-- the pairs before place k -/
def rP (τ : fm_S) (ex : Nat → Bool) (k : Nat) (e : Nat × Nat) : Prop := e.1 < e.2 ∧ e.2 < 8 ∧ 8 * e.1 + e.2 < k ∧ lk τ e.1 e.2 = true ∧ ex (8 * e.1 + e.2) = false
theorem k_ranksM0 {σ τ : fm_S} {c : Nat} (hw : WF τ c) (hv : MV σ τ c) {x1 x2 : Int32} {ex : Nat → Bool}
    (hx : ∀ k, k < 64 → (if nI (k / 8) = x1 then (if nI (k % 8) = x2 then some (1 : Int32) else if nI (k / 8) = x2 then (if nI (k % 8) = x1 then some 1 else some 0) else some 0) else if nI (k / 8) = x2 then (if nI (k % 8) = x1 then some 1 else some 0) else some 0) = some (bI (ex k))) :
    ∃ σ' I, mX5_ranks x1 x2 σ = some (nI I.length, σ') ∧ rowE 53 σ σ' ∧ gMax (rP τ ex 64) I := by
  have hc := hw.1
  obtain ⟨s0, e0, r0, z0⟩ := lpU (fun n x4 s => mX5_ranks_L5 n x4 s) 64 (fun k t => rowE 53 σ t ∧ ∀ m, m < k → t.1 53 m = 0) (fun t => rowE 53 σ t ∧ ∀ m, m < 64 → t.1 53 m = 0)
    (fun n t ht => ⟨t, by simp only [mX5_ranks_L5]; rw [show (64 : Int32) = nI 64 from rfl, if_pos (nI_le (Nat.le_refl _) (by decide))], ht⟩)
    (fun n k t hk ht => by
      refine ⟨fm_wr t 53 k 0, ?_, ht.1.wr _ _, fun m hm => ?_⟩
      · simp only [mX5_ranks_L5]
        rw [show (64 : Int32) = nI 64 from rfl, if_neg (nI_ge hk (by decide))]
        simp only [chk8 hk (by decide), if_false]
        rw [sIn _ _ _ (by omega), nI_1]; rfl
      · by_cases e : m = k
        · subst e; exact wrS _ _ _ _
        · rw [wrN _ _ (by omega)]; exact ht.2 m (by omega))
    fF 0 σ (Nat.zero_le _) (by unfold fF; omega) ⟨rowE.rfl, fun m hm => absurd hm (by omega)⟩
  have e0 : mX5_ranks_L5 fF 0 σ = some s0 := e0
  have m53 : ∀ t, rowE 53 σ t → msc σ t := fun t ht => ⟨fun a b h1 _ => ht.1 a b (by omega), fun b => by rw [ht.2]⟩
  obtain ⟨⟨r, s1⟩, e1, I, p1, p2, p3⟩ := lpU (fun n x4 (a : Int32 × fm_S) => mX5_ranks_L29 n x1 x2 a.1 x4 a.2) 64
    (fun k a => ∃ (I : List (Nat × Nat)) (κ : Nat → Bool), rowE 53 σ a.2 ∧ a.1 = nI I.length ∧ gMax (rP τ ex k) I ∧ (∀ m, m < 64 → a.2.1 53 m = bI (κ m)) ∧ (∀ V : Nat → Bool, kc κ V 64 = gCn V I) ∧ ∀ m, k ≤ m → κ m = false)
    (fun a => ∃ I : List (Nat × Nat), rowE 53 σ a.2 ∧ a.1 = nI I.length ∧ gMax (rP τ ex 64) I)
    (fun n a ⟨I, κ, h1, h2, h3, _⟩ => ⟨a, by simp only [mX5_ranks_L29]; rw [show (64 : Int32) = nI 64 from rfl, if_pos (nI_le (Nat.le_refl _) (by decide))], I, h1, h2, h3⟩)
    (fun n k a hk ⟨I, κ, h1, h2, h3, h4, h5, h6⟩ => by
      obtain ⟨d1, d2⟩ := dm8 hk
      have hvt := (m53 _ h1).mv hv
      have i8 : k / 8 < 8 := by omega
      have j8 : k % 8 < 8 := by omega
      have skip : ¬ (k / 8 < k % 8 ∧ lk τ (k / 8) (k % 8) = true ∧ ex k = false) → ∃ (I : List (Nat × Nat)) (κ : Nat → Bool), rowE 53 σ a.2 ∧ a.1 = nI I.length ∧ gMax (rP τ ex (k + 1)) I ∧ (∀ m, m < 64 → a.2.1 53 m = bI (κ m)) ∧ (∀ V : Nat → Bool, kc κ V 64 = gCn V I) ∧ ∀ m, k + 1 ≤ m → κ m = false := fun h =>
        ⟨I, κ, h1, h2, gMax_iff h3 (fun e => by
          unfold rP
          constructor
          · rintro ⟨q1, q2, q3, q4, q5⟩
            refine ⟨q1, q2, ?_, q4, q5⟩
            apply Classical.byContradiction
            intro z
            have ek : 8 * e.1 + e.2 = k := by omega
            apply h
            rw [show k / 8 = e.1 by omega, show k % 8 = e.2 by omega]
            exact ⟨q1, q4, by rw [← ek]; exact q5⟩
          · rintro ⟨q1, q2, q3, q4, q5⟩; exact ⟨q1, q2, by omega, q4, q5⟩), h4, h5, fun m hm => h6 m (by omega)⟩
      by_cases q : k / 8 < k % 8 ∧ k % 8 < c ∧ ex k = false ∧ lk τ (k / 8) (k % 8) = true
      · obtain ⟨q1, q2, q3, q4⟩ := q
        have hl := k_linked hw hvt (show k / 8 < c by omega) q2
        rw [q4, if_pos rfl] at hl
        have hκ' : ∀ m, m < 64 → (fm_wr a.2 53 k 1).1 53 m = bI (kset κ k true m) := fun m hm => by
          unfold kset
          by_cases z : m = k
          · rw [if_pos z, z, wrS]; rfl
          · rw [if_neg z, wrN _ _ (Or.inr z)]; exact h4 m hm
        have ek : 8 * (k / 8) + k % 8 = k := by omega
        have hO : gOk ((k / 8, k % 8) :: I) := fun e he => by
          rcases List.mem_cons.mp he with rfl | he
          · exact ⟨i8, j8, by show k / 8 ≠ k % 8; omega⟩
          · exact h3.2.1 e he
        have hS : ∀ V : Nat → Bool, kc (kset κ k true) V 64 = gCn V ((k / 8, k % 8) :: I) := fun V => by
          rw [kc_set (h6 k (Nat.le_refl _)) V 64, gCn_cons, h5 V, if_pos hk]
          cases V (k / 8) <;> cases V (k % 8) <;> rfl
        obtain ⟨b, f1, f2⟩ := k_isFree hκ' hO hS
        have P' : ∀ x, rP τ ex (k + 1) x ↔ rP τ ex k x ∨ x = (k / 8, k % 8) := fun x => by
          unfold rP
          constructor
          · rintro ⟨w1, w2, w3, w4, w5⟩
            by_cases z : 8 * x.1 + x.2 = k
            · right; exact Prod.ext (by show x.1 = k / 8; omega) (by show x.2 = k % 8; omega)
            · exact Or.inl ⟨w1, w2, by omega, w4, w5⟩
          · rintro (⟨w1, w2, w3, w4, w5⟩ | rfl)
            · exact ⟨w1, w2, by omega, w4, w5⟩
            · exact ⟨q1, j8, by show 8 * (k / 8) + k % 8 < _; omega, q4, by show ex (8 * (k / 8) + k % 8) = _; rw [ek]; exact q3⟩
        have step : mX5_ranks_L29 (n + 1) x1 x2 a.1 (nI k) a.2 = mX5_ranks_L29 n x1 x2 (a.1 + bI b) (nI (k + 1)) (fm_wr (fm_wr a.2 53 k 1) 53 k (bI b)) := by
          simp only [mX5_ranks_L29, d1, d2]
          rw [show (64 : Int32) = nI 64 from rfl, if_neg (nI_ge hk (by decide)), hx k hk, b1s, if_neg (nI_ge q1 (by omega)), hvt.1, if_neg (nI_ge q2 (by omega)), q3, if_pos (show bI false = 0 from rfl), hl, b1s, if_neg (by decide)]
          simp only [chk8 hk (by decide), if_false]
          rw [show vp_nar .boolean (1 : Int32) = 1 from by decide, sIn _ _ _ (by omega), f1, b1s, show vp_nar .boolean (bI b) = bI b from nar01 b, sIn _ _ _ (by omega), rIn _ _ (by omega), wrS, nI_1]
          cases b <;> rfl
        cases b
        · have nf : ¬ gFree ((k / 8, k % 8) :: I) := fun z => by have := f2.mpr z; cases this
          refine ⟨(a.1 + bI false, fm_wr (fm_wr a.2 53 k 1) 53 k (bI false)), step, I, κ, (h1.wr _ _).wr _ _, by show a.1 + bI false = _; rw [h2]; exact Int32.add_zero _, gMax_skip h3 P' nf, fun m hm => ?_, h5, fun m hm => h6 m (by omega)⟩
          by_cases z : m = k
          · rw [z, wrS, h6 k (Nat.le_refl _)]
          · rw [wrN _ _ (Or.inr z), wrN _ _ (Or.inr z)]; exact h4 m hm
        · refine ⟨(a.1 + bI true, fm_wr (fm_wr a.2 53 k 1) 53 k (bI true)), step, (k / 8, k % 8) :: I, kset κ k true, (h1.wr _ _).wr _ _, by show a.1 + bI true = _; rw [h2]; exact nI_1 _, gMax_add h3 ⟨i8, j8, by show k / 8 ≠ k % 8; omega⟩ P' (f2.mp rfl), fun m hm => ?_, hS, fun m hm => by unfold kset; rw [if_neg (by omega)]; exact h6 m (by omega)⟩
          by_cases z : m = k
          · rw [z, wrS]; simp [kset]
          · rw [wrN _ _ (Or.inr z)]; exact hκ' m hm
      · refine ⟨a, ?_, skip (fun z => q ⟨z.1, (lk_lt hw i8 j8 z.2.1).2.1, z.2.2, z.2.1⟩)⟩
        simp only [mX5_ranks_L29, d1, d2]
        rw [show (64 : Int32) = nI 64 from rfl, if_neg (nI_ge hk (by decide)), hx k hk, b1s]
        by_cases q1 : k / 8 < k % 8
        · rw [if_neg (nI_ge q1 (by omega)), hvt.1]
          by_cases q2 : k % 8 < c
          · rw [if_neg (nI_ge q2 (by omega))]
            cases q3 : ex k
            · have q4 : lk τ (k / 8) (k % 8) = false := Bool.eq_false_iff.mpr (fun z => q ⟨q1, q2, q3, z⟩)
              rw [if_pos (show bI false = 0 from rfl), k_linked hw hvt (show k / 8 < c by omega) q2, q4, b1s, if_pos (by decide), nI_1]
            · rw [if_neg (by decide), nI_1]
          · rw [if_pos (nI_le (by omega) (by omega)), nI_1]
        · rw [if_pos (nI_le (by omega) (by omega)), nI_1])
    fF 0 (0, s0) (Nat.zero_le _) (by unfold fF; omega) ⟨[], fun _ => false, r0, rfl, gMax_none (fun e he => by have := he.2.2.1; omega), fun m hm => z0 m hm, fun V => by
      have : ∀ n, kc (fun _ => false) V n = 0 := by
        intro n
        unfold kc
        induction n with
        | zero => rfl
        | succ n ih => rw [cnt, ih]; rfl
      rw [this]; rfl, fun _ _ => rfl⟩
  have e1 : mX5_ranks_L29 fF x1 x2 0 0 s0 = some (r, s1) := e1
  dsimp only at p1 p2
  exact ⟨s1, I, by rw [mX5_ranks, e0, b1s, e1, b2s, p2], p1, p3⟩
theorem k_ranksM {σ τ : fm_S} {c : Nat} (hw : WF τ c) (hv : MV σ τ c) {x1 x2 : Int32} {ex : Nat → Bool}
    (hx : ∀ k, k < 64 → (if nI (k / 8) = x1 then (if nI (k % 8) = x2 then some (1 : Int32) else if nI (k / 8) = x2 then (if nI (k % 8) = x1 then some 1 else some 0) else some 0) else if nI (k / 8) = x2 then (if nI (k % 8) = x1 then some 1 else some 0) else some 0) = some (bI (ex k))) :
    ∃ σ' I, mX5_ranks x1 x2 σ = some (nI I.length, σ') ∧ msc σ σ' ∧ gMax (rP τ ex 64) I := by
  obtain ⟨σ', I, e, r, g⟩ := k_ranksM0 hw hv hx
  exact ⟨σ', I, e, ⟨fun a b h1 _ => r.1 a b (by omega), fun b => by rw [r.2]⟩, g⟩
end LVU
