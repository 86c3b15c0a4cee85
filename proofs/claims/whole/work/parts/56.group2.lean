section LVQ
/-- a sweep of the model's -/
theorem k_sweep {σ τ : fm_S} {c : Nat} (hw : WF τ c) (hv : MV σ τ c) {x : Int32} (hx : m8 x) {i : Nat} (hg : ∀ j, j < 8 → mk x j = true → Gr τ i j) : ∃ y, mX5_group_L16 fF x 0 σ = some y ∧ m8 y ∧ (∀ j, j < 8 → mk x j = true → mk y j = true) ∧ (∀ j, j < 8 → mk y j = true → Gr τ i j) ∧ ∀ a b, a < 8 → b < 8 → mk x a = true → lk τ a b = true → mk y b = true := by
  have hc := hw.1
  obtain ⟨t, e1, t1, t2, t3, t4⟩ := lpU (fun n x4 (y : Int32) => mX5_group_L16 n y x4 σ) 64
    (fun k y => m8 y ∧ (∀ j, j < 8 → mk x j = true → mk y j = true) ∧ (∀ j, j < 8 → mk y j = true → Gr τ i j) ∧ ∀ m, m < k → mk x (m / 8) = true → lk τ (m / 8) (m % 8) = true → mk y (m % 8) = true)
    (fun y => m8 y ∧ (∀ j, j < 8 → mk x j = true → mk y j = true) ∧ (∀ j, j < 8 → mk y j = true → Gr τ i j) ∧ ∀ m, m < 64 → mk x (m / 8) = true → lk τ (m / 8) (m % 8) = true → mk y (m % 8) = true)
    (fun n y hy => ⟨y, by simp only [mX5_group_L16]; rw [show (64 : Int32) = nI 64 from rfl, if_pos (nI_le (Nat.le_refl _) (by decide))], hy⟩)
    (fun n k y hk hy => by
      obtain ⟨d1, d2⟩ := dm8 hk
      have i8 : k / 8 < 8 := by omega
      have j8 : k % 8 < 8 := by omega
      have stay : ¬ (mk x (k / 8) = true ∧ lk τ (k / 8) (k % 8) = true) ∨ mk y (k % 8) = true → ∀ m, m < k + 1 → mk x (m / 8) = true → lk τ (m / 8) (m % 8) = true → mk y (m % 8) = true := fun h m hm h1 h2 => by
        by_cases z : m = k
        · subst z
          rcases h with h | h
          · exact absurd ⟨h1, h2⟩ h
          · exact h
        · exact hy.2.2.2 m (by omega) h1 h2
      by_cases q : k / 8 < c ∧ k % 8 < c ∧ mk y (k / 8) = true ∧ lk τ (k / 8) (k % 8) = true
      · obtain ⟨q1, q2, q3, q4⟩ := q
        obtain ⟨o1, o2⟩ := k_orb hy.1 j8
        refine ⟨y ||| nI (2 ^ (k % 8)), ?_, o1, fun j hj h => by rw [o2 j hj, hy.2.1 j hj h]; rfl, fun j hj h => ?_, fun m hm h1 h2 => ?_⟩
        · simp only [mX5_group_L16, d1, d2]
          rw [show (64 : Int32) = nI 64 from rfl, if_neg (nI_ge hk (by decide)), hv.1, if_neg (nI_ge q1 (by omega)), if_neg (nI_ge q2 (by omega)), k_bit hy.1 i8, q3, if_pos rfl, if_pos rfl, k_linked hw hv q1 q2, q4, b1s, if_neg (by decide), b1s, if_neg (by decide), b1s, q_shl _ j8, nI_1]
        · rw [o2 j hj, Bool.or_eq_true] at h
          rcases h with h | h
          · exact hy.2.2.1 j hj h
          · rw [beq_iff_eq] at h
            subst h
            exact Gr_step (hy.2.2.1 _ i8 q3) i8 j8 q4
        · rw [o2 _ (by omega)]
          by_cases z : m = k
          · subst z; simp
          · rw [hy.2.2.2 m (by omega) h1 h2]; rfl
      · refine ⟨y, ?_, hy.1, hy.2.1, hy.2.2.1, stay (Or.inl (fun ⟨h1, h2⟩ => q ⟨(lk_lt hw i8 j8 h2).1, (lk_lt hw i8 j8 h2).2.1, hy.2.1 _ i8 h1, h2⟩))⟩
        have e : y ||| (0 : Int32) = y := by
          have := q_or2 hy.1 (y := 0) ⟨0, by omega, rfl⟩
          refine m8_ext this.1 hy.1 (fun j hj => ?_)
          rw [this.2 j]
          have z : mk (nI 0) j = _ := mkn (by omega) j
          rw [Nat.zero_testBit] at z
          have z' : mk 0 j = false := z
          rw [z']; simp
        simp only [mX5_group_L16, d1, d2]
        rw [show (64 : Int32) = nI 64 from rfl, if_neg (nI_ge hk (by decide)), hv.1]
        by_cases q1 : k / 8 < c
        · rw [if_neg (nI_ge q1 (by omega))]
          by_cases q2 : k % 8 < c
          · rw [if_neg (nI_ge q2 (by omega)), k_bit hy.1 i8]
            by_cases q3 : mk y (k / 8) = true
            · have q4 : lk τ (k / 8) (k % 8) = false := Bool.eq_false_iff.mpr (fun h => q ⟨q1, q2, q3, h⟩)
              rw [q3, if_pos rfl, if_pos rfl, k_linked hw hv q1 q2, q4, b1s, if_pos (by decide), b1s, if_pos rfl, b1s, e, nI_1]
            · rw [if_neg q3, if_neg (by decide), b1s, if_pos rfl, b1s, e, nI_1]
          · rw [if_pos (nI_le (by omega) (by omega)), b1s, if_pos rfl, b1s, e, nI_1]
        · rw [if_pos (nI_le (by omega) (by omega)), b1s, if_pos rfl, b1s, e, nI_1])
    fF 0 x (Nat.zero_le _) (by unfold fF; omega) ⟨hx, fun j _ h => h, hg, fun m hm => absurd hm (by omega)⟩
  have e1 : mX5_group_L16 fF x 0 σ = some t := e1
  refine ⟨t, e1, t1, t2, t3, fun a b ha hb h1 h2 => ?_⟩
  have := t4 (8 * a + b) (by omega)
  rw [show (8 * a + b) / 8 = a by omega, show (8 * a + b) % 8 = b by omega] at this
  exact this h1 h2
theorem k_groupM {σ τ : fm_S} {c : Nat} (hw : WF τ c) (hv : MV σ τ c) {i : Nat} (hi : i < 8) : ∃ y, mX5_group (nI i) σ = some y ∧ m8 y ∧ ∀ j, j < 8 → (mk y j = true ↔ Gr τ i j) := by
  have loop : ∀ d (n : Nat) (x z : Int32), d < n → m8 x → (∀ j, j < 8 → mk x j = true → Gr τ i j) → mk x i = true → (x = z → cl τ (mk x)) → (x = z ∨ 10 ≤ d + cnt (mk x) 8) → (1 ≤ d) → ∃ y, mX5_group_L6 n x z σ = some y ∧ m8 y ∧ ∀ j, j < 8 → (mk y j = true ↔ Gr τ i j) := by
    intro d
    induction d with
    | zero => intro n x z _ _ _ _ _ _ h; omega
    | succ d ih =>
      intro n x z hn hx hg hxi hcl hm _
      obtain ⟨n, rfl⟩ : ∃ m, n = m + 1 := ⟨n - 1, by omega⟩
      by_cases q : x = z
      · refine ⟨x, by simp only [mX5_group_L6]; rw [if_pos q], hx, fun j hj => ⟨hg j hj, fun h => cl_Gr (hcl q) hxi h⟩⟩
      · obtain ⟨y, g1, g2, g3, g4, g5⟩ := k_sweep hw hv hx hg
        have hm' : 10 ≤ d + 1 + cnt (mk x) 8 := hm.elim (fun h => absurd h q) (fun h => h)
        have le8 := cnt_le (mk x) 8
        have next := ih n y x (by omega) g2 g4 (g3 i hi hxi) (fun e => fun a b ha hb h1 h2 => by
          rw [e] at h1 ⊢
          have := g5 a b ha hb h1 h2
          rw [e] at this; exact this) ?_ (by omega)
        · obtain ⟨w, w1, w2⟩ := next
          refine ⟨w, ?_, w2⟩
          simp only [mX5_group_L6]
          rw [if_neg q, g1, b1s, w1]
        · by_cases e : y = x
          · exact Or.inl e
          · right
            have : ∃ b, b < 8 ∧ mk y b = true ∧ mk x b = false := by
              apply Classical.byContradiction
              intro h
              apply e
              refine m8_ext g2 hx (fun j hj => ?_)
              cases h1 : mk x j
              · cases h2 : mk y j
                · rfl
                · exact absurd ⟨j, hj, h2, h1⟩ h
              · exact g3 j hj h1
            obtain ⟨b, hb, h1, h2⟩ := this
            have := cnt_lt (P := mk x) (Q := mk y) (fun j hj h => g3 j hj h) h2 h1 8 (Nat.le_refl _) hb
            omega
  have e0 : (1 : Int32) <<< (nI i &&& 31) = nI (2 ^ i) := q_shl i hi
  have h1 : ∀ j, j < 8 → 2 ^ j < 256 ∧ (∀ b, b < 8 → (2 ^ j).testBit b = (b == j)) ∧ nI (2 ^ j) ≠ 0 := by decide +kernel
  obtain ⟨p1, p2, p3⟩ := h1 i hi
  have pb : ∀ b, b < 8 → mk (nI (2 ^ i)) b = (b == i) := fun b hb => by rw [mkn (by omega), p2 b hb]
  have ci : 1 ≤ cnt (mk (nI (2 ^ i))) 8 := by
    have := cnt_lt (P := fun _ => false) (Q := mk (nI (2 ^ i))) (fun _ _ h => by cases h) (k := i) rfl (by rw [pb i hi]; simp) 8 (Nat.le_refl _) hi
    omega
  obtain ⟨y, e1, e2⟩ := loop 9 fF (nI (2 ^ i)) 0 (by unfold fF; omega) ⟨_, p1, rfl⟩ (fun j hj h => by
    rw [pb j hj, beq_iff_eq] at h; subst h; exact Gr_self τ j) (by rw [pb i hi]; simp) (fun h => absurd h p3) (Or.inr (by omega)) (by omega)
  refine ⟨y, ?_, e2⟩
  rw [mX5_group, e0, e1, b1s]
/-- the first of his group -/
def fst (τ : fm_S) (i : Nat) : Prop := τ.1 3 i ≠ 0 ∧ ∀ b, b < i → ¬ Gr τ i b
noncomputable def gc (τ : fm_S) : Nat → Int32
  | 0 => 0
  | n + 1 => gc τ n + (Classical.epsilon fun z : Int32 => (fst τ n → z = 1) ∧ (¬ fst τ n → z = 0))
theorem gc_s (τ : fm_S) (n : Nat) : (fst τ n → gc τ (n + 1) = gc τ n + 1) ∧ (¬ fst τ n → gc τ (n + 1) = gc τ n) := by
  have h := Classical.epsilon_spec (p := fun z : Int32 => (fst τ n → z = 1) ∧ (¬ fst τ n → z = 0)) (by
    by_cases q : fst τ n
    · exact ⟨1, fun _ => rfl, fun h => absurd q h⟩
    · exact ⟨0, fun h => absurd h q, fun _ => rfl⟩)
  refine ⟨fun q => ?_, fun q => ?_⟩
  · rw [gc, h.1 q]
  · rw [gc, h.2 q, Int32.add_zero]
theorem q_low : ∀ m, m < 256 → ∀ i, i < 8 → (nI m &&& (((1 : Int32) <<< (nI i &&& 31)) - 1) = 0 ↔ (List.range i).all (fun b => !m.testBit b) = true) := by decide +kernel
theorem k_countC {τ s : fm_S} {c : Nat} (hw : WF τ c) (hn : NV s (lk τ)) (he : ∀ a b, a < 20 ∨ a = 60 → s.1 a b = τ.1 a b) : mX4_countGroups s = some (gc τ c) := by
  have hc := hw.1
  obtain ⟨t, e1, e2⟩ := lpU (fun n x3 (a : Int32 × Int32) => mX4_countGroups_L6 n a.1 a.2 x3 s) c
    (fun i a => a.1 = gc τ i ∧ m8 a.2 ∧ ∀ j, j < 8 → (mk a.2 j = true ↔ ∃ b, b < i ∧ τ.1 3 b ≠ 0 ∧ Gr τ b j)) (fun r => r = gc τ c)
    (fun n a ha => ⟨a.1, by simp only [mX4_countGroups_L6]; rw [he 60 0 (by omega), hw.2.1, if_pos (nI_le (Nat.le_refl _) (by omega))], ha.1⟩)
    (fun n i a hi ha => by
      obtain ⟨h1, h2, h3⟩ := ha
      have hi8 : i < 8 := by omega
      by_cases u : τ.1 3 i = 0
      · have nf : ¬ fst τ i := fun q => q.1 u
        refine ⟨a, ?_, by rw [(gc_s τ i).2 nf]; exact h1, h2, fun j hj => ?_⟩
        · simp only [mX4_countGroups_L6]
          rw [he 60 0 (by omega), hw.2.1, if_neg (nI_ge hi (by omega))]
          simp only [chk8 hi8 (by decide), if_false]
          rw [rIn _ _ (by omega), he 3 i (by omega), if_pos u, nI_1]
        · rw [h3 j hj]
          constructor
          · rintro ⟨b, b1, b2, b3⟩; exact ⟨b, by omega, b2, b3⟩
          · rintro ⟨b, b1, b2, b3⟩
            by_cases z : b = i
            · subst z; exact absurd u b2
            · exact ⟨b, by omega, b2, b3⟩
      · have hh := q_holds h2 hi8
        by_cases q : mk a.2 i = true
        · rw [if_pos q] at hh
          obtain ⟨b, b1, b2, b3⟩ := (h3 i hi8).mp q
          have nf : ¬ fst τ i := fun z => z.2 b b1 (Gr_symm hw b3)
          refine ⟨a, ?_, by rw [(gc_s τ i).2 nf]; exact h1, h2, fun j hj => ?_⟩
          · simp only [mX4_countGroups_L6]
            rw [he 60 0 (by omega), hw.2.1, if_neg (nI_ge hi (by omega))]
            simp only [chk8 hi8 (by decide), if_false]
            rw [rIn _ _ (by omega), he 3 i (by omega), if_neg u, hh, b1s, if_neg (by decide), nI_1]
          · rw [h3 j hj]
            constructor
            · rintro ⟨b', w1, w2, w3⟩; exact ⟨b', by omega, w2, w3⟩
            · rintro ⟨b', w1, w2, w3⟩
              by_cases z : b' = i
              · subst z; exact ⟨b, b1, b2, Gr_trans b3 w3⟩
              · exact ⟨b', by omega, w2, w3⟩
        · rw [if_neg q] at hh
          obtain ⟨y, g1, g2, g3⟩ := k_groupC hn hi8
          have hf : fst τ i := ⟨u, fun b hb z => q ((h3 i hi8).mpr ⟨b, hb, by
            rcases Gr_up z with z1 | z1
            · omega
            · exact z1, Gr_symm hw z⟩)⟩
          have ho := q_or2 h2 g2
          refine ⟨(a.1 + 1, a.2 ||| y), ?_, by rw [(gc_s τ i).1 hf, h1], ho.1, fun j hj => ?_⟩
          · simp only [mX4_countGroups_L6]
            rw [he 60 0 (by omega), hw.2.1, if_neg (nI_ge hi (by omega))]
            simp only [chk8 hi8 (by decide), if_false]
            rw [rIn _ _ (by omega), he 3 i (by omega), if_neg u, hh, b1s, if_pos rfl, g1, b1s, nI_1]
          · show mk (a.2 ||| y) j = true ↔ _
            rw [ho.2 j, Bool.or_eq_true, h3 j hj, g3 j hj]
            constructor
            · rintro (⟨b', w1, w2, w3⟩ | w)
              · exact ⟨b', by omega, w2, w3⟩
              · exact ⟨i, by omega, u, w⟩
            · rintro ⟨b', w1, w2, w3⟩
              by_cases z : b' = i
              · subst z; exact Or.inr w3
              · exact Or.inl ⟨b', by omega, w2, w3⟩)
    fF 0 (0, 0) (Nat.zero_le _) (by unfold fF; omega) ⟨rfl, ⟨0, by omega, rfl⟩, fun j hj => by
      have z : mk (nI 0) j = _ := mkn (by omega) j
      rw [Nat.zero_testBit] at z
      have z' : mk 0 j = false := z
      show mk 0 j = true ↔ _
      rw [z']
      exact ⟨fun h => (by cases h), fun ⟨b, h, _⟩ => absurd h (by omega)⟩⟩
  have e1 : mX4_countGroups_L6 fF 0 0 0 s = some t := e1
  rw [mX4_countGroups, e1, b1s, e2]
theorem k_countM {σ τ : fm_S} {c : Nat} (hw : WF τ c) (hv : MV σ τ c) : mX5_countGroups σ = some (gc τ c) := by
  have hc := hw.1
  obtain ⟨t, e1, e2⟩ := lpU (fun n x2 (a : Int32) => mX5_countGroups_L4 n a x2 σ) c (fun i a => a = gc τ i) (fun r => r = gc τ c)
    (fun n a ha => ⟨a, by simp only [mX5_countGroups_L4]; rw [hv.1, if_pos (nI_le (Nat.le_refl _) (by omega))], ha⟩)
    (fun n i a hi ha => by
      have hi8 : i < 8 := by omega
      have u43 := hv.2.2.2.1 i hi8
      by_cases u : τ.1 3 i = 0
      · rw [if_pos ⟨hi, u⟩] at u43
        have nf : ¬ fst τ i := fun q => q.1 u
        refine ⟨a, ?_, by rw [(gc_s τ i).2 nf]; exact ha⟩
        simp only [mX5_countGroups_L4]
        rw [hv.1, if_neg (nI_ge hi (by omega))]
        simp only [chk8 hi8 (by decide), if_false]
        rw [rIn _ _ (by omega), u43, if_neg (by decide), b1s, nI_1, Int32.add_zero]
      · rw [if_neg (fun q => u q.2)] at u43
        obtain ⟨y, g1, ⟨m, gm, gy⟩, g3⟩ := k_groupM hw hv hi8
        have hl := q_low m gm i hi8
        rw [← gy] at hl
        have key : (List.range i).all (fun b => !m.testBit b) = true ↔ fst τ i := by
          rw [List.all_eq_true]
          constructor
          · intro h
            refine ⟨u, fun b hb z => ?_⟩
            have h1 := h b (List.mem_range.mpr hb)
            have h2 := (g3 b (by omega)).mpr z
            rw [gy, mkn (by omega)] at h2
            rw [h2] at h1; cases h1
          · intro h b hb
            have hb := List.mem_range.mp hb
            cases z : m.testBit b
            · rfl
            · have h2 : mk y b = true := by rw [gy, mkn (by omega)]; exact z
              exact absurd ((g3 b (by omega)).mp h2) (h.2 b hb)
        by_cases q : fst τ i
        · refine ⟨a + 1, ?_, by rw [(gc_s τ i).1 q, ha]⟩
          simp only [mX5_countGroups_L4]
          rw [hv.1, if_neg (nI_ge hi (by omega))]
          simp only [chk8 hi8 (by decide), if_false]
          rw [rIn _ _ (by omega), u43, if_pos rfl, g1, b1s, if_pos (hl.mpr (key.mpr q)), b1s, nI_1]
        · refine ⟨a, ?_, by rw [(gc_s τ i).2 q, ha]⟩
          simp only [mX5_countGroups_L4]
          rw [hv.1, if_neg (nI_ge hi (by omega))]
          simp only [chk8 hi8 (by decide), if_false]
          rw [rIn _ _ (by omega), u43, if_pos rfl, g1, b1s, if_neg (fun z => q (key.mp (hl.mp z))), b1s, nI_1, Int32.add_zero])
    fF 0 0 (Nat.zero_le _) (by unfold fF; omega) rfl
  have e1 : mX5_countGroups_L4 fF 0 0 σ = some t := e1
  rw [mX5_countGroups, e1, b1s, e2]
theorem c_groups {τ : fm_S} (h : RR τ) : ON (mX4_groups τ) mX5_groups := by
  obtain ⟨c, hw, hv⟩ := h
  obtain ⟨τ1, e1, r1, n1⟩ := k_draw hw
  have s1 : scr τ τ1 := scr.row r1 (by decide)
  have s2 := msc.last τ1 0
  refine ⟨gc τ c, τ1, fm_wr τ1 61 2 0, ?_, ?_, ro hw hv s1 s2⟩
  · rw [mX4_groups, e1, b1s, k_countC hw n1 (fun a b hab => s1 a b (by omega)), b1s]
  · rw [mX5_groups, k_countM hw (s2.mv (s1.mv hv)), b1s]
end LVQ
