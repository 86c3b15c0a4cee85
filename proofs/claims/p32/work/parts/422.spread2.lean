section LVM
theorem rh_cases {τ : fm_S} {c : Nat} (hw : WF τ c) {i : Nat} (hi : i < c) : rh τ i = -1 ∨ ∃ j, j < c ∧ j ≠ i ∧ rh τ i = nI j := by
  have hc := hw.1
  obtain ⟨k, k8, hk⟩ := hw.2.2.2.2.2.2.2 i (by omega)
  have key : ∃ r, Nx (lk τ i) k r := by
    by_cases h1 : ∃ j, j < 8 ∧ k ≤ j ∧ lk τ i j = true
    · have : ∀ n, (∃ j, j < n ∧ j < 8 ∧ k ≤ j ∧ lk τ i j = true) → ∃ j, j < 8 ∧ lk τ i j = true ∧ k ≤ j ∧ ∀ m, k ≤ m → m < j → lk τ i m = false := by
        intro n
        induction n with
        | zero => rintro ⟨j, h, -⟩; omega
        | succ n ih =>
          intro h
          by_cases q : ∃ j, j < n ∧ j < 8 ∧ k ≤ j ∧ lk τ i j = true
          · exact ih q
          · obtain ⟨j, j1, j2, j3, j4⟩ := h
            refine ⟨j, j2, j4, j3, fun m m1 m2 => ?_⟩
            apply Bool.eq_false_iff.mpr
            intro z
            exact q ⟨m, by omega, by omega, m1, z⟩
      obtain ⟨j, a1, a2, a3, a4⟩ := this 8 (by obtain ⟨j, x, y, z⟩ := h1; exact ⟨j, x, x, y, z⟩)
      exact ⟨nI j, Or.inl ⟨j, a1, rfl, a2, a3, a4⟩⟩
    · have n1 : ∀ m, m < 8 → k ≤ m → lk τ i m = false := fun m h2 h3 => Bool.eq_false_iff.mpr (fun z => h1 ⟨m, h2, h3, z⟩)
      by_cases h2 : ∃ j, j < 8 ∧ lk τ i j = true
      · have : ∀ n, (∃ j, j < n ∧ j < 8 ∧ lk τ i j = true) → ∃ j, j < 8 ∧ lk τ i j = true ∧ ∀ m, m < j → lk τ i m = false := by
          intro n
          induction n with
          | zero => rintro ⟨j, h, -⟩; omega
          | succ n ih =>
            intro h
            by_cases q : ∃ j, j < n ∧ j < 8 ∧ lk τ i j = true
            · exact ih q
            · obtain ⟨j, j1, j2, j4⟩ := h
              refine ⟨j, j2, j4, fun m m2 => ?_⟩
              apply Bool.eq_false_iff.mpr
              intro z
              exact q ⟨m, by omega, by omega, z⟩
        obtain ⟨j, a1, a2, a4⟩ := this 8 (by obtain ⟨j, x, z⟩ := h2; exact ⟨j, x, x, z⟩)
        exact ⟨nI j, Or.inr (Or.inl ⟨n1, j, a1, rfl, a2, a4⟩)⟩
      · exact ⟨-1, Or.inr (Or.inr ⟨fun m hm => Bool.eq_false_iff.mpr (fun z => h2 ⟨m, hm, z⟩), rfl⟩)⟩
  obtain ⟨r, hr⟩ := key
  rw [rh_eq hk k8 hr]
  rcases hr with ⟨j, j8, rfl, l1, -⟩ | ⟨-, j, j8, rfl, l1, -⟩ | ⟨-, rfl⟩
  · have := lk_lt hw (by omega) j8 l1
    exact Or.inr ⟨j, this.2.1, fun q => this.2.2 q.symm, rfl⟩
  · have := lk_lt hw (by omega) j8 l1
    exact Or.inr ⟨j, this.2.1, fun q => this.2.2 q.symm, rfl⟩
  · exact Or.inl rfl
/-- the halves handed over by the first n members -/
noncomputable def SD (τ : fm_S) (q : Nat) : Nat → Nat → Int32
  | 0 => fun _ => 0
  | n + 1 => if rh τ n = -1 then SD τ q n else
      fun a => if a = (rh τ n).toNatClampNeg then SD τ q n a + τ.1 q n / 2 else if a = n then SD τ q n n - τ.1 q n / 2 else SD τ q n a
noncomputable def SC (τ : fm_S) : Nat → Int32
  | 0 => 0
  | n + 1 => if rh τ n = -1 then SC τ n else SC τ n + 1
noncomputable def SL (τ : fm_S) (c i : Nat) : Int32 := if i < c then (if rh τ i = -1 then τ.1 8 i else rh τ i) else τ.1 8 i
theorem k_add (q q2 : Nat) {s : fm_S} {c : Nat} (h60 : s.1 60 0 = nI c) (hc : c ≤ 8) (l1 : fm_len q = 8) (l2 : fm_len q2 = 8) (hq : q ≠ q2) (hq6 : q ≠ 60) : ∃ t, mX4_addChanges q q2 s = some t ∧ rowE q s t ∧ ∀ j, t.1 q j = if j < c then s.1 q j + s.1 q2 j else s.1 q j := by
  obtain ⟨t, e1, p1, p2⟩ := lpU (fun n x s => mX4_addChanges_L2 q q2 n x s) c (fun i t => rowE q s t ∧ ∀ j, t.1 q j = if j < i then s.1 q j + s.1 q2 j else s.1 q j) (fun t => rowE q s t ∧ ∀ j, t.1 q j = if j < c then s.1 q j + s.1 q2 j else s.1 q j)
    (fun n t ht => ⟨t, by simp only [mX4_addChanges_L2]; rw [ht.1.1 60 0 (fun z => hq6 z.symm), h60, if_pos (nI_le (Nat.le_refl _) (by omega))], ht⟩)
    (fun n i t hi ht => by
      refine ⟨fm_wr t q i (s.1 q i + s.1 q2 i), ?_, ht.1.wr _ _, fun j => ?_⟩
      · simp only [mX4_addChanges_L2, l1, l2]
        rw [ht.1.1 60 0 (fun z => hq6 z.symm), h60, if_neg (nI_ge hi (by omega))]
        simp only [chk8 (show i < 8 by omega) (by decide), if_false]
        rw [rIn _ _ (by omega), rIn _ _ (by omega), sIn _ _ _ (by omega), nI_1, ht.2 i, if_neg (by omega), ht.1.1 q2 i (fun z => hq z.symm)]
      · by_cases e : j = i
        · subst e; rw [wrS, if_pos (by omega)]
        · rw [wrN _ _ (Or.inr e), ht.2 j]
          by_cases z : j < i
          · rw [if_pos z, if_pos (by omega)]
          · rw [if_neg z, if_neg (by omega)])
    fF 0 s (Nat.zero_le _) (by unfold fF; omega) ⟨rowE.rfl, fun j => by rw [if_neg (by omega)]⟩
  have e1 : mX4_addChanges_L2 q q2 fF 0 s = some t := e1
  exact ⟨t, by rw [mX4_addChanges, e1, b1s], p1, p2⟩
theorem k_over {q : Nat} {s : fm_S} (lq : fm_len q = 8) (x : Int32) {i j : Nat} (hi : i < 8) (hj : j < 8) (hij : j ≠ i) : mX4_handOver q x (nI i) (nI j) s = some (fm_wr (fm_wr s q i (s.1 q i - x)) q j (s.1 q j + x)) := by
  rw [mX4_handOver, lq]
  simp only [chk8 hi (by decide), chk8 hj (by decide), if_false]
  rw [rIn s _ (by omega), sIn s _ _ (by omega), rIn _ _ (by omega), sIn _ _ _ (by omega), wrN s _ (Or.inr hij)]
theorem cl_hand {τ : fm_S} {c : Nat} (hw : WF τ c) (hn : NV τ (lk τ)) : ∃ τ', mX4_handHalves τ = some (SC τ c, τ') ∧ (∀ a b, a ≠ 22 → a ≠ 23 → a ≠ 6 → a ≠ 7 → a ≠ 8 → τ'.1 a b = τ.1 a b) ∧ (∀ i, τ'.1 6 i = if i < c then τ.1 6 i + SD τ 6 c i else τ.1 6 i) ∧ (∀ i, τ'.1 7 i = if i < c then τ.1 7 i + SD τ 7 c i else τ.1 7 i) ∧ ∀ i, τ'.1 8 i = SL τ c i := by
  have hc := hw.1
  have h60 := hw.2.1
  obtain ⟨s0, e0, r0, z0⟩ := k_fill 22 0 τ (by decide)
  obtain ⟨s1, e1, r1, z1⟩ := k_fill 23 0 s0 (by decide)
  obtain ⟨⟨n1, t1⟩, e2, ⟨p0, p1, p2, p3⟩⟩ := lpU (fun n x (a : Int32 × fm_S) => mX4_handHalves_L20 n a.1 x a.2) c
    (fun i a => a.1 = SC τ i ∧ (∀ x b, x ≠ 22 → x ≠ 23 → x ≠ 8 → a.2.1 x b = τ.1 x b) ∧ (∀ x, x < c → a.2.1 22 x = SD τ 6 i x ∧ a.2.1 23 x = SD τ 7 i x) ∧ ∀ x, a.2.1 8 x = SL τ i x)
    (fun a => a.1 = SC τ c ∧ (∀ x b, x ≠ 22 → x ≠ 23 → x ≠ 8 → a.2.1 x b = τ.1 x b) ∧ (∀ x, x < c → a.2.1 22 x = SD τ 6 c x ∧ a.2.1 23 x = SD τ 7 c x) ∧ ∀ x, a.2.1 8 x = SL τ c x)
    (fun n a ha => ⟨a, by simp only [mX4_handHalves_L20]; rw [ha.2.1 60 0 (by omega) (by omega) (by omega), h60, if_pos (nI_le (Nat.le_refl _) (by omega))], ha⟩)
    (fun n i a hi ha => by
      obtain ⟨a1, s⟩ := a
      obtain ⟨x0, x1, x2, x3⟩ := ha
      dsimp only at x0 x1 x2 x3
      have s8 : s.1 8 i = τ.1 8 i := by rw [x3 i, SL, if_neg (by omega)]
      obtain ⟨r, g1, -, g2⟩ := k_nextC (s := s) hw (fun a ha => by rw [x1 21 a (by omega) (by omega) (by omega)]; exact hn a ha) (by rw [x1 60 0 (by omega) (by omega) (by omega)]; exact h60) hi s8
      subst g2
      rcases rh_cases hw hi with hr | ⟨j, hj, hij, hr⟩
      · refine ⟨(a1, s), ?_, ?_, x1, fun x hx => ?_, fun x => ?_⟩
        · simp only [mX4_handHalves_L20]
          rw [x1 60 0 (by omega) (by omega) (by omega), h60, if_neg (nI_ge hi (by omega)), g1, b1s, hr, if_pos (by decide), nI_1]
        · show a1 = _; rw [SC, if_pos hr]; exact x0
        · rw [SD, if_pos hr, SD, if_pos hr]; exact x2 x hx
        · show s.1 8 x = _
          rw [x3 x]; unfold SL
          by_cases e : x = i
          · subst e; rw [if_neg (by omega), if_pos (by omega), if_pos hr]
          · by_cases z : x < i
            · rw [if_pos z, if_pos (show x < i + 1 by omega)]
            · rw [if_neg z, if_neg (show ¬ x < i + 1 by omega)]
      · have hr1 : ¬ nI j = -1 := by
          have : ∀ f, f < 9 → ¬ nI f = -1 := by decide +kernel
          exact this j (by omega)
        have cj : (nI j).toNatClampNeg = j := nI_clamp (by omega)
        refine ⟨(a1 + 1, fm_wr (fm_wr (fm_wr (fm_wr (fm_wr s 22 i (s.1 22 i - τ.1 6 i / 2)) 22 j (s.1 22 j + τ.1 6 i / 2)) 23 i (s.1 23 i - τ.1 7 i / 2)) 23 j (s.1 23 j + τ.1 7 i / 2)) 8 i (nI j)), ?_, ?_, fun x b h1 h2 h3 => ?_, fun x hx => ⟨?_, ?_⟩, fun x => ?_⟩
        · simp only [mX4_handHalves_L20]
          rw [x1 60 0 (by omega) (by omega) (by omega), h60, if_neg (nI_ge hi (by omega)), g1, b1s, hr, if_neg (nI_pos (by omega))]
          simp only [chk8 (show i < 8 by omega) (by decide), if_false]
          rw [rIn s _ (by omega), x1 6 i (by omega) (by omega) (by omega), k_over rfl _ (by omega) (by omega) hij, b1s, rIn _ _ (by omega), wrN _ _ (by omega), wrN _ _ (by omega), x1 7 i (by omega) (by omega) (by omega), k_over rfl _ (by omega) (by omega) hij, b1s, sIn _ _ _ (by omega), nI_1]
          rw [wrN _ _ (by omega), wrN _ _ (by omega), wrN _ _ (by omega), wrN _ _ (by omega)]
        · show a1 + 1 = _; rw [SC, hr, if_neg hr1, x0]
        · show (fm_wr _ 8 i (nI j)).1 x b = _
          rw [wrN _ _ (by omega), wrN _ _ (by omega), wrN _ _ (by omega), wrN _ _ (by omega), wrN _ _ (by omega)]; exact x1 x b h1 h2 h3
        · show (fm_wr _ 8 i (nI j)).1 22 x = _
          rw [wrN _ _ (by omega), wrN _ _ (by omega), wrN _ _ (by omega), SD, hr, if_neg hr1, cj]
          by_cases q1 : x = j
          · rw [if_pos q1, q1, wrS, (x2 j hj).1]
          · rw [if_neg q1, wrN _ _ (by omega)]
            by_cases q2 : x = i
            · rw [if_pos q2, q2, wrS, (x2 i hi).1]
            · rw [if_neg q2, wrN _ _ (by omega)]; exact (x2 x hx).1
        · show (fm_wr _ 8 i (nI j)).1 23 x = _
          rw [wrN _ _ (by omega), SD, hr, if_neg hr1, cj]
          by_cases q1 : x = j
          · rw [if_pos q1, q1, wrS, (x2 j hj).2]
          · rw [if_neg q1, wrN _ _ (by omega)]
            by_cases q2 : x = i
            · rw [if_pos q2, q2, wrS, (x2 i hi).2]
            · rw [if_neg q2, wrN _ _ (by omega), wrN _ _ (by omega), wrN _ _ (by omega)]; exact (x2 x hx).2
        · show (fm_wr _ 8 i (nI j)).1 8 x = _
          unfold SL
          by_cases e : x = i
          · subst e; rw [wrS, if_pos (by omega), hr, if_neg hr1]
          · rw [wrN _ _ (by omega), wrN _ _ (by omega), wrN _ _ (by omega), wrN _ _ (by omega), wrN _ _ (by omega), x3 x]; unfold SL
            by_cases z : x < i
            · rw [if_pos z, if_pos (show x < i + 1 by omega)]
            · rw [if_neg z, if_neg (show ¬ x < i + 1 by omega)])
    fF 0 (0, s1) (Nat.zero_le _) (by unfold fF; omega) ⟨rfl, fun x b h1 h2 h3 => by rw [r1.1 x b h2]; exact r0.1 x b h1, fun x hx => ⟨by rw [r1.1 22 x (by omega)]; exact z0 x (show x < 8 by omega), z1 x (show x < 8 by omega)⟩, fun x => by
      show s1.1 8 x = _
      rw [r1.1 8 x (by omega), r0.1 8 x (by omega)]; rfl⟩
  dsimp only at p0 p1 p2 p3
  have e2 : mX4_handHalves_L20 fF 0 0 s1 = some (n1, t1) := e2
  obtain ⟨t2, e3, q1, q2⟩ := k_add 6 22 (s := t1) (by rw [p1 60 0 (by omega) (by omega) (by omega)]; exact h60) hc rfl rfl (by omega) (by omega)
  obtain ⟨t3, e4, u1, u2⟩ := k_add 7 23 (s := t2) (by rw [q1.1 60 0 (by omega), p1 60 0 (by omega) (by omega) (by omega)]; exact h60) hc rfl rfl (by omega) (by omega)
  refine ⟨t3, ?_, fun a b h1 h2 h3 h4 h5 => by rw [u1.1 a b h4, q1.1 a b h3]; exact p1 a b h1 h2 h5, fun i => ?_, fun i => ?_, fun i => by rw [u1.1 8 i (by omega), q1.1 8 i (by omega)]; exact p3 i⟩
  · rw [mX4_handHalves, e0, b1s, e1, b1s, e2, b2s, e3, b1s, e4, b1s, p0]
  · rw [u1.1 6 i (by omega), q2 i, p1 6 i (by omega) (by omega) (by omega)]
    by_cases z : i < c
    · rw [if_pos z, if_pos z, (p2 i z).1]
    · rw [if_neg z, if_neg z]
  · rw [u2 i, q1.1 7 i (by omega), p1 7 i (by omega) (by omega) (by omega), q1.1 23 i (by omega)]
    by_cases z : i < c
    · rw [if_pos z, if_pos z, (p2 i z).2]
    · rw [if_neg z, if_neg z]
end LVM
