section LVR
/-- r is among those of G, of the greatest priority, of these the least -/
def Ld (G : Nat → Prop) (p : Nat → Int32) (r : Nat) : Prop := G r ∧ ∀ j, G j → p j < p r ∨ (p j = p r ∧ r ≤ j)
theorem Ld_un {G : Nat → Prop} {p : Nat → Int32} {r r' : Nat} (h : Ld G p r) (h' : Ld G p r') : r = r' := by
  rcases h.2 r' h'.1 with a | ⟨a, b⟩ <;> rcases h'.2 r h.1 with a' | ⟨a', b'⟩
  · exact absurd (Int32.lt_trans a a') Int32.lt_irrefl
  · rw [a'] at a; exact absurd a Int32.lt_irrefl
  · rw [a] at a'; exact absurd a' Int32.lt_irrefl
  · omega
theorem k_outr {τ s : fm_S} (he : ∀ a b, a < 20 ∨ a = 60 → s.1 a b = τ.1 a b) {i j : Nat} (hi : i < 8) (hj : j < 8) : ∃ b : Bool, mX4_outranks (nI i) (nI j) s = some (bI b) ∧ (b = true ↔ τ.1 4 j < τ.1 4 i ∨ (τ.1 4 i = τ.1 4 j ∧ i < j)) := by
  rw [mX4_outranks]
  simp only [chk8 hi (by decide), chk8 hj (by decide), if_false]
  rw [rIn _ _ (by omega), rIn _ _ (by omega), he 4 i (by omega), he 4 j (by omega)]
  by_cases e : τ.1 4 i = τ.1 4 j
  · rw [if_pos e]
    by_cases q : j ≤ i
    · rw [if_pos (nI_le q (by omega))]
      refine ⟨false, rfl, (fun h => (by cases h)), ?_⟩
      rintro (h | ⟨_, h⟩)
      · rw [e] at h; exact absurd h Int32.lt_irrefl
      · omega
    · rw [if_neg (nI_ge (by omega) (by omega))]
      exact ⟨true, rfl, fun _ => Or.inr ⟨e, by omega⟩, fun _ => rfl⟩
  · rw [if_neg e]
    by_cases q : τ.1 4 i ≤ τ.1 4 j
    · rw [if_pos q]
      refine ⟨false, rfl, (fun h => (by cases h)), ?_⟩
      rintro (h | ⟨h, _⟩)
      · exact absurd q (Int32.not_le.mpr h)
      · exact absurd h e
    · rw [if_neg q]
      exact ⟨true, rfl, fun _ => Or.inl (Int32.not_le.mp q), fun _ => rfl⟩
theorem k_ldC {τ s : fm_S} {c : Nat} (hw : WF τ c) (he : ∀ a b, a < 20 ∨ a = 60 → s.1 a b = τ.1 a b) {x : Int32} (hx : m8 x) {i : Nat} (hi : i < c) (hxi : mk x i = true) (hhi : ∀ j, c ≤ j → j < 8 → mk x j = false) : ∃ r, r < 8 ∧ mX4_leader_L34 fF x (nI i) 0 s = some (nI r) ∧ Ld (fun j => j < 8 ∧ mk x j = true) (τ.1 4) r := by
  have hc := hw.1
  obtain ⟨t, e1, r, r1, r2, r3⟩ := lpU (fun n x4 (a : Int32) => mX4_leader_L34 n x a x4 s) c
    (fun k a => ∃ r, r < 8 ∧ a = nI r ∧ Ld (fun j => j < 8 ∧ mk x j = true ∧ (j = i ∨ j < k)) (τ.1 4) r) (fun a => ∃ r, r < 8 ∧ a = nI r ∧ Ld (fun j => j < 8 ∧ mk x j = true) (τ.1 4) r)
    (fun n a ⟨r, r1, r2, r3⟩ => ⟨a, by simp only [mX4_leader_L34]; rw [he 60 0 (by omega), hw.2.1, if_pos (nI_le (Nat.le_refl _) (by omega))], r, r1, r2, ⟨r3.1.1, r3.1.2.1⟩, fun j hj => r3.2 j ⟨hj.1, hj.2, Or.inr (by
      apply Classical.byContradiction
      intro q
      have hm : mk x j = true := hj.2
      rw [hhi j (by omega) hj.1] at hm; cases hm)⟩⟩)
    (fun n k a hk ⟨r, r1, r2, r3⟩ => by
      have hk8 : k < 8 := by omega
      have hh := q_holds hx hk8
      by_cases q : mk x k = true
      · rw [if_pos q] at hh
        obtain ⟨b, o1, o2⟩ := k_outr he hk8 r1
        cases b
        · refine ⟨a, ?_, r, r1, r2, ⟨r3.1.1, r3.1.2.1, r3.1.2.2.imp (fun h => h) (fun h => by omega)⟩, fun j hj => ?_⟩
          · simp only [mX4_leader_L34]
            rw [he 60 0 (by omega), hw.2.1, if_neg (nI_ge hk (by omega)), hh, b1s, if_neg (by decide), r2, o1, b1s, if_pos (by decide), nI_1]
          · by_cases z : j = k
            · subst z
              have no : ¬ (τ.1 4 r < τ.1 4 j ∨ (τ.1 4 j = τ.1 4 r ∧ j < r)) := fun h => by have := o2.mpr h; cases this
              by_cases z2 : τ.1 4 j < τ.1 4 r
              · exact Or.inl z2
              · have : τ.1 4 j = τ.1 4 r := Int32.le_antisymm (Int32.not_lt.mp (fun h => no (Or.inl h))) (Int32.not_lt.mp z2)
                exact Or.inr ⟨this, by
                  apply Classical.byContradiction
                  intro h
                  exact no (Or.inr ⟨this, by omega⟩)⟩
            · exact r3.2 j ⟨hj.1, hj.2.1, hj.2.2.imp (fun h => h) (fun h => by omega)⟩
        · refine ⟨nI k, ?_, k, hk8, rfl, ⟨hk8, q, Or.inr (by omega)⟩, fun j hj => ?_⟩
          · simp only [mX4_leader_L34]
            rw [he 60 0 (by omega), hw.2.1, if_neg (nI_ge hk (by omega)), hh, b1s, if_neg (by decide), r2, o1, b1s, if_neg (by decide), nI_1]
          · by_cases z : j = k
            · subst z; exact Or.inr ⟨rfl, Nat.le_refl _⟩
            · have h := r3.2 j ⟨hj.1, hj.2.1, hj.2.2.imp (fun h => h) (fun h => by omega)⟩
              rcases o2.mp rfl with g | ⟨g, g2⟩
              · left
                rcases h with h | ⟨h, _⟩
                · exact Int32.lt_trans h g
                · rw [h]; exact g
              · rcases h with h | ⟨h, h2⟩
                · left; rw [g]; exact h
                · right; exact ⟨by rw [h, g], by omega⟩
      · rw [if_neg q] at hh
        refine ⟨a, ?_, r, r1, r2, ⟨r3.1.1, r3.1.2.1, r3.1.2.2.imp (fun h => h) (fun h => by omega)⟩, fun j hj => ?_⟩
        · simp only [mX4_leader_L34]
          rw [he 60 0 (by omega), hw.2.1, if_neg (nI_ge hk (by omega)), hh, b1s, if_pos rfl, nI_1]
        · by_cases z : j = k
          · subst z; exact absurd hj.2.1 q
          · exact r3.2 j ⟨hj.1, hj.2.1, hj.2.2.imp (fun h => h) (fun h => by omega)⟩)
    fF 0 (nI i) (Nat.zero_le _) (by unfold fF; omega) ⟨i, by omega, rfl, ⟨by omega, hxi, Or.inl rfl⟩, fun j hj => by
      rcases hj.2.2 with h | h
      · subst h; exact Or.inr ⟨rfl, Nat.le_refl _⟩
      · omega⟩
  have e1 : mX4_leader_L34 fF x (nI i) 0 s = some t := e1
  exact ⟨r, r1, by rw [e1, r2], r3⟩
theorem k_ldM {σ τ : fm_S} {c : Nat} (hw : WF τ c) (hv : MV σ τ c) {x : Int32} (hx : m8 x) {i : Nat} (hi : i < c) (hxi : mk x i = true) (hhi : ∀ j, c ≤ j → j < 8 → mk x j = false) : ∃ r, r < 8 ∧ mX5_leader_L51 fF x (nI i) (nI c - 1) σ = some (nI r) ∧ Ld (fun j => j < 8 ∧ mk x j = true) (τ.1 4) r := by
  have hc := hw.1
  have h44 : ∀ j, j < 8 → σ.1 44 j = τ.1 4 j := fun j hj => (hv.2.2.1 j hj).2.2.1
  have loop : ∀ k n r, k ≤ c → k < n → r < 8 → mk x r = true → (∀ j, k ≤ j → j < 8 → mk x j = true → τ.1 4 j < τ.1 4 r ∨ (τ.1 4 j = τ.1 4 r ∧ r ≤ j)) → (r = i ∨ k ≤ r) → τ.1 4 i ≤ τ.1 4 r → ∃ r', r' < 8 ∧ mX5_leader_L51 n x (nI r) (nI k - 1) σ = some (nI r') ∧ Ld (fun j => j < 8 ∧ mk x j = true) (τ.1 4) r' := by
    intro k
    induction k with
    | zero =>
      intro n r _ hn hr hxr h _ _
      obtain ⟨n, rfl⟩ : ∃ m, n = m + 1 := ⟨n - 1, by omega⟩
      refine ⟨r, hr, ?_, ⟨hr, hxr⟩, fun j hj => h j (by omega) hj.1 hj.2⟩
      simp only [mX5_leader_L51]
      rw [if_pos (by decide)]
    | succ k ih =>
      intro n r hkc hn hr hxr h h2 h3
      obtain ⟨n, rfl⟩ : ∃ m, n = m + 1 := ⟨n - 1, by omega⟩
      have hk8 : k < 8 := by omega
      have ek : nI (k + 1) - 1 = nI k := nI_pred k
      have em : nI k + -1 = nI k - 1 := by grind
      rw [ek]
      by_cases q : mk x k = true
      · by_cases lt : τ.1 4 k < τ.1 4 r
        · obtain ⟨r', g1, g2, g3⟩ := ih n r (by omega) (by omega) hr hxr (fun j hj h8 hm => by
            by_cases z : j = k
            · subst z; exact Or.inl lt
            · exact h j (by omega) h8 hm) (h2.imp (fun h => h) (fun h => by omega)) h3
          refine ⟨r', g1, ?_, g3⟩
          simp only [mX5_leader_L51]
          rw [if_neg (nI_pos (by omega)), k_bit hx hk8, q, if_pos rfl, if_pos rfl]
          simp only [chk8 hk8 (by decide), chk8 hr (by decide), if_false]
          rw [rIn _ _ (by omega), rIn _ _ (by omega), h44 k hk8, h44 r hr, if_pos lt, em, g2]
        · have ge := Int32.not_lt.mp lt
          obtain ⟨r', g1, g2, g3⟩ := ih n k (by omega) (by omega) hk8 q (fun j hj h8 hm => by
            by_cases z : j = k
            · subst z; exact Or.inr ⟨rfl, Nat.le_refl _⟩
            · rcases h j (by omega) h8 hm with w | ⟨w, w2⟩
              · exact Or.inl (Int32.lt_of_lt_of_le w ge)
              · by_cases e : τ.1 4 r = τ.1 4 k
                · exact Or.inr ⟨by rw [w, e], by omega⟩
                · left; rw [w]
                  exact Int32.not_le.mp (fun z => e (Int32.le_antisymm ge z))) (Or.inr (Nat.le_refl _)) (Int32.le_trans h3 ge)
          refine ⟨r', g1, ?_, g3⟩
          simp only [mX5_leader_L51]
          rw [if_neg (nI_pos (by omega)), k_bit hx hk8, q, if_pos rfl, if_pos rfl]
          simp only [chk8 hk8 (by decide), chk8 hr (by decide), if_false]
          rw [rIn _ _ (by omega), rIn _ _ (by omega), h44 k hk8, h44 r hr, if_neg lt, em, g2]
      · obtain ⟨r', g1, g2, g3⟩ := ih n r (by omega) (by omega) hr hxr (fun j hj h8 hm => by
          by_cases z : j = k
          · subst z; exact absurd hm q
          · exact h j (by omega) h8 hm) (h2.imp (fun h => h) (fun h => by omega)) h3
        refine ⟨r', g1, ?_, g3⟩
        simp only [mX5_leader_L51]
        rw [if_neg (nI_pos (by omega)), k_bit hx hk8, Bool.eq_false_iff.mpr q, if_neg (by decide), em, g2]
  exact loop c fF i (Nat.le_refl _) (by unfold fF; omega) (by omega) hxi (fun j h1 h8 hm => by rw [hhi j h1 h8] at hm; cases hm) (Or.inl rfl) (Int32.le_refl _)
theorem c_leader {τ : fm_S} (h : RR τ) (x1 : Int32) : OI (mL_leader x1 τ) (mX5_leader x1) := by
  obtain ⟨c, hw, hv⟩ := h
  have hc := hw.1
  rcases k_req hw x1 with ⟨⟨i, hi, rfl⟩, e1⟩ | ⟨h1, e1⟩
  · have hi8 : i < 8 := by omega
    by_cases u : τ.1 3 i = 0
    · have hv1 := hv.st ((-1 : Int32).toInt64)
      have hv2 := hv1.last 0
      have m43 := hv2.2.2.2.1 i hi8
      rw [if_pos ⟨hi, u⟩] at m43
      rcases k_is hw hv1 (nI i) with ⟨-, f1⟩ | ⟨q1, -⟩
      · refine ⟨0, sL τ 55 (0 : Int32) ((-1 : Int32).toInt64), -1, fm_wr (sL τ 55 (0 : Int32) ((-1 : Int32).toInt64)) 61 2 0, ?_, ?_, by rw [k_thrown, wrS], fun _ => by rw [wL, st55], ro hw hv (scr.rfl.st _) (msc.last _ 0)⟩
        · rw [mL_leader, h2o (r := -1) (σ := τ)]
          · simp only [chk1, if_false]
          · rw [mX4_leader, e1, xo]
            simp only [chk8 hi8 (by decide), if_false]
            rw [rIn _ _ (by omega), if_pos u]
        · rw [mX5_leader, f1, b1s, show mX5_goes (bI true) (1 : Int32) _ = _ from k_goes true true _, b2s, if_neg (by decide)]
          simp only [chk8 hi8 (by decide), if_false, if_true]
          rw [rIn _ _ (by omega), m43, if_neg (by decide), wrS, if_pos (by decide)]
      · exact absurd ⟨i, hi, rfl⟩ q1
    · obtain ⟨τ1, d1, d2, d3⟩ := k_draw hw
      have s1 : scr τ τ1 := scr.row d2 (by decide)
      have he : ∀ a b, a < 20 ∨ a = 60 → τ1.1 a b = τ.1 a b := fun a b hab => s1 a b (by omega)
      obtain ⟨y, g1, g2, g3⟩ := k_groupC d3 hi8
      have hyi : mk y i = true := (g3 i hi8).mpr (Gr_self τ i)
      have hhi : ∀ j, c ≤ j → j < 8 → mk y j = false := fun j h1 h2 => by
        apply Bool.eq_false_iff.mpr
        intro z
        rcases Gr_up ((g3 j h2).mp z) with w | w
        · omega
        · exact w (hw.2.2.2.1 j h1 h2)
      obtain ⟨r, r1, r2, r3⟩ := k_ldC hw he g2 hi hyi hhi
      have sa : scr τ (sL τ1 55 (0 : Int32) (nI r).toInt64) := s1.st _
      have sb := msc.last (sL τ1 55 (0 : Int32) (nI r).toInt64) 0
      have hv1 := sa.mv hv
      have hv2 := sb.mv hv1
      have m43 := hv2.2.2.2.1 i hi8
      rw [if_neg (fun q => u q.2)] at m43
      obtain ⟨y', k1, k2, k3⟩ := k_groupM hw hv2 hi8
      have ey : y' = y := m8_ext k2 g2 (fun j hj => by
        cases z : mk y j
        · cases z2 : mk y' j
          · rfl
          · have := (g3 j hj).mpr ((k3 j hj).mp z2)
            rw [z] at this; cases this
        · exact (k3 j hj).mpr ((g3 j hj).mp z))
      subst ey
      obtain ⟨r', w1, w2, w3⟩ := k_ldM hw hv2 g2 hi hyi hhi
      have er : r' = r := Ld_un w3 r3
      subst er
      rcases k_is hw hv1 (nI i) with ⟨-, f1⟩ | ⟨q1, -⟩
      · refine ⟨0, sL τ1 55 (0 : Int32) (nI r').toInt64, nI r', fm_wr (sL τ1 55 (0 : Int32) (nI r').toInt64) 61 2 0, ?_, ?_, by rw [k_thrown, wrS], fun _ => by rw [wL, st55], ro hw hv sa sb⟩
        · rw [mL_leader, h2o (r := nI r') (σ := τ1)]
          · simp only [chk1, if_false]
          · rw [mX4_leader, e1, xo]
            simp only [chk8 hi8 (by decide), if_false]
            rw [rIn _ _ (by omega), if_neg u, d1, b1s, g1, b1s, r2, b1s]
        · rw [mX5_leader, f1, b1s, show mX5_goes (bI true) (1 : Int32) _ = _ from k_goes true true _, b2s, if_neg (by decide)]
          simp only [chk8 hi8 (by decide), if_false, if_true]
          rw [rIn _ _ (by omega), m43, if_pos rfl, k1, b1s, hv2.1, w2, b1s]
      · exact absurd ⟨i, hi, rfl⟩ q1
  · rcases k_is hw hv x1 with ⟨n1, -⟩ | ⟨-, f1⟩
    · exact absurd n1 h1
    · refine ⟨1, τ, 0, fm_wr τ 61 2 1, ?_, ?_, (bad hw hv 1).1, fun q => absurd q (by decide), (bad hw hv 1).2⟩
      · rw [mL_leader, h2e (σ := τ) (E := "java/lang/IndexOutOfBoundsException")]
        · rfl
        · rw [mX4_leader, e1, xe]
      · rw [mX5_leader, f1, b1s, show mX5_goes (bI false) (1 : Int32) _ = _ from k_goes false true _, b2s, if_pos (by decide)]
        simp only [Bool.false_eq_true, if_false]
        rw [wrS, if_neg (by decide)]
end LVR
