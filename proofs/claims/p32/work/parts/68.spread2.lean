section PVU
/-- the law's picture of sums, weights and last receivers -/
def LSP (σ τ : fm_S) (c : Nat) : Prop := ∀ i, i < c → σ.1 40 (8 * i + 5) = τ.1 6 i ∧ σ.1 40 (8 * i + 6) = τ.1 7 i ∧ σ.1 40 (8 * i + 7) = τ.1 8 i + 1
def spE (c : Nat) (σ σ' : fm_S) : Prop := ∀ a b, a ≠ 43 → a ≠ 44 → ¬ (a = 40 ∧ 5 ≤ b % 8 ∧ b < 8 * c) → σ'.1 a b = σ.1 a b
theorem spE.ge {σ σ' τ : fm_S} {c : Nat} (h : spE c σ σ') (hg : GE σ τ c) : GE σ' τ c := hg.of (fun b hb => h 40 b (by omega) (by omega) (by omega)) (fun b => h 41 b (by omega) (by omega) (by omega)) (fun _ _ _ => Eq.refl _)
theorem sp81 : ∀ n (x6 x8 x9 : Int32), mL_spread_L81 n x6 x8 x9 = mL_spread_L81 n (if x8 = 0 then x6 else x8) (if x8 = 0 then x6 else x8) x9 := by
  intro n
  induction n with
  | zero => intros; rfl
  | succ n ih =>
    intro x6 x8 x9
    rw [mL_spread_L81, mL_spread_L81]
    by_cases h : x8 = 0
    · rw [if_pos h, if_pos h]
      have e : (if x6 = 0 then some x6 else some x6) = some x6 := by split <;> rfl
      rw [b1s, e, b1s, ih x6 x8 (x9 + 1), if_pos h]
    · simp only [if_neg h]
      rw [b1s, b1s, ih x6 x8 (x9 + 1), if_neg h]
theorem q_low81 : ∀ V, V < 32 → V ≠ 0 → mL_spread_L81 fG (nI V) (nI V) 0 = some (nI (loU V)) ∧ loU V < 5 ∧ V.testBit (loU V) = true ∧ ∀ j, j < loU V → V.testBit j = false := by decide +kernel
theorem q_above : ∀ h, h < 32 → ∀ k, k < 9 → h / 2 ^ k * 2 ^ k < 32 ∧ ∀ j, j < 8 → (h / 2 ^ k * 2 ^ k).testBit j = (h.testBit j && decide (k ≤ j)) := by decide +kernel
theorem bit0 {V : Nat} (h : V < 32) (h0 : ∀ j, j < 8 → V.testBit j = false) : V = 0 := by
  apply Nat.eq_of_testBit_eq
  intro j
  rw [Nat.zero_testBit]
  by_cases hj : j < 8
  · exact h0 j hj
  · exact Nat.testBit_lt_two_pow (Nat.lt_of_lt_of_le h (Nat.pow_le_pow_right (n := 2) (by decide) (show 5 ≤ j by omega)))
theorem hm_bit {τ : fm_S} {c : Nat} (hw : WF τ c) {k : Nat} (hk : k < c) {j : Nat} (hj : j < 8) : (hm τ c k).testBit j = lk τ k j := by
  have hc := hw.1
  rw [hm_tb]
  by_cases q : j < c
  · simp [q]
  · rw [lk_symm hw (by omega) hj, lk_hi hw hj (by omega)]; simp
/-- the law's search for the receiver -/
theorem k_recv {τ : fm_S} {c : Nat} (hw : WF τ c) (hc : c ≤ 5) {k : Nat} (hk : k < c) : (hm τ c k = 0 ∧ rh τ k = -1) ∨ (hm τ c k ≠ 0 ∧ ∃ to, to < c ∧ to ≠ k ∧ rh τ k = nI to ∧ ∃ kk, kk < 9 ∧ τ.1 8 k + 1 = nI kk ∧ mL_spread_L81 fG (nI (hm τ c k)) ((nI (hm τ c k) >>> (nI kk &&& 31)) <<< (nI kk &&& 31)) 0 = some (nI to)) := by
  have hh := hm_lt (τ := τ) hc k
  obtain ⟨kk, k8, hkk⟩ := hw.2.2.2.2.2.2.2 k (by omega)
  have e1 : τ.1 8 k + 1 = nI kk := by rw [hkk]; grind
  by_cases h0 : hm τ c k = 0
  · left
    refine ⟨h0, rh_eq hkk k8 (Or.inr (Or.inr ⟨fun m hm8 => ?_, rfl⟩))⟩
    rw [← hm_bit hw hk hm8, h0, Nat.zero_testBit]
  · right
    obtain ⟨a1, a2⟩ := q_above (hm τ c k) (by omega) kk (by omega)
    have eab : (nI (hm τ c k) >>> (nI kk &&& 31)) <<< (nI kk &&& 31) = nI (hm τ c k / 2 ^ kk * 2 ^ kk) := by
      rw [b_shr (by omega) (by omega)]
      exact pk_shlN _ kk (b_sh0 kk (by omega)) (by omega)
    have main : ∀ V, V < 32 → V ≠ 0 → (if nI (hm τ c k / 2 ^ kk * 2 ^ kk) = 0 then nI (hm τ c k) else nI (hm τ c k / 2 ^ kk * 2 ^ kk)) = nI V → mL_spread_L81 fG (nI (hm τ c k)) ((nI (hm τ c k) >>> (nI kk &&& 31)) <<< (nI kk &&& 31)) 0 = some (nI (loU V)) := by
      intro V hV hV0 hx
      rw [eab, sp81, hx]
      exact (q_low81 V hV hV0).1
    have fin : ∀ to, to < 8 → Nx (lk τ k) kk (nI to) → lk τ k to = true → mL_spread_L81 fG (nI (hm τ c k)) ((nI (hm τ c k) >>> (nI kk &&& 31)) <<< (nI kk &&& 31)) 0 = some (nI to) → (hm τ c k ≠ 0 ∧ ∃ to, to < c ∧ to ≠ k ∧ rh τ k = nI to ∧ ∃ kk, kk < 9 ∧ τ.1 8 k + 1 = nI kk ∧ mL_spread_L81 fG (nI (hm τ c k)) ((nI (hm τ c k) >>> (nI kk &&& 31)) <<< (nI kk &&& 31)) 0 = some (nI to)) := fun to t8 hN hl hL => by
      have := lk_lt hw (show k < 8 by omega) t8 hl
      exact ⟨h0, to, this.2.1, fun q => this.2.2 q.symm, rh_eq hkk k8 hN, kk, by omega, e1, hL⟩
    by_cases hab : hm τ c k / 2 ^ kk * 2 ^ kk = 0
    · obtain ⟨-, b2, b3, b4⟩ := q_low81 (hm τ c k) (by omega) h0
      have hL := main (hm τ c k) (by omega) h0 (by rw [hab, if_pos nI_0])
      have hl : lk τ k (loU (hm τ c k)) = true := by rw [← hm_bit hw hk (by omega)]; exact b3
      refine fin _ (by omega) (Or.inr (Or.inl ⟨fun m m8 hkm => ?_, loU (hm τ c k), by omega, rfl, hl, fun m hm' => ?_⟩)) hl hL
      · have := a2 m m8
        rw [hab, Nat.zero_testBit, hm_bit hw hk m8] at this
        simpa [hkm] using this.symm
      · rw [← hm_bit hw hk (by omega)]; exact b4 m hm'
    · obtain ⟨-, b2, b3, b4⟩ := q_low81 (hm τ c k / 2 ^ kk * 2 ^ kk) a1 hab
      have hL := main (hm τ c k / 2 ^ kk * 2 ^ kk) a1 hab (by rw [if_neg (nI_ne0 (by omega) (by omega))])
      have hb := a2 (loU (hm τ c k / 2 ^ kk * 2 ^ kk)) (by omega)
      rw [b3, hm_bit hw hk (by omega)] at hb
      have hb := hb.symm
      simp only [Bool.and_eq_true, decide_eq_true_eq] at hb
      refine fin _ (by omega) (Or.inl ⟨loU (hm τ c k / 2 ^ kk * 2 ^ kk), by omega, rfl, hb.1, hb.2, fun m m1 m2 => ?_⟩) hb.1 hL
      have h3 := b4 m m2
      rw [a2 m (by omega), hm_bit hw hk (by omega)] at h3
      simpa [m1] using h3
theorem shr1 {n : Nat} (h : n < 2 ^ 31) : nI n >>> ((1 : Int32) &&& 31) = nI n / (2 : Int32) := by
  rw [show (1 : Int32) &&& 31 = (nI 1 &&& 31) from rfl, b_shr h (by decide), show (2 : Int32) = nI 2 from rfl, pk_div h (by decide) (by decide)]
/-- one member's hand over, in the law -/
theorem k_handStep {σ τ : fm_S} {c : Nat} (hw : WF τ c) (hg : GE σ τ c) (hl : LSP σ τ c) (hn : NW τ c) {i : Nat} (hi : i < c) {s : fm_S} (p1 : ∀ a b, a ≠ 43 → a ≠ 44 → ¬ (a = 40 ∧ b % 8 = 7 ∧ b < 8 * c) → s.1 a b = σ.1 a b) (p2 : ∀ x, x < 8 → s.1 43 x = SD τ 6 i x ∧ s.1 44 x = SD τ 7 i x) (p3 : ∀ x, x < c → s.1 40 (8 * x + 7) = SL τ i x + 1) (n : Nat) :
    ∃ s', mL_spread_L16 (n + 1) (SC τ i) (nI i) s = mL_spread_L16 n (SC τ (i + 1)) (nI (i + 1)) s' ∧ (∀ a b, a ≠ 43 → a ≠ 44 → ¬ (a = 40 ∧ b % 8 = 7 ∧ b < 8 * c) → s'.1 a b = σ.1 a b) ∧ (∀ x, x < 8 → s'.1 43 x = SD τ 6 (i + 1) x ∧ s'.1 44 x = SD τ 7 (i + 1) x) ∧ ∀ x, x < c → s'.1 40 (8 * x + 7) = SL τ (i + 1) x + 1 := by
  have hc := hg.1
  have sp : spE c σ s := fun a b h1 h2 h3 => p1 a b h1 h2 (by omega)
  have hgs := sp.ge hg
  have m40 : s.1 40 40 = nI c := hgs.2.1
  obtain ⟨l5, l6, l7⟩ := hl i hi
  have l5 : s.1 40 (8 * i + 5) = τ.1 6 i := (p1 40 _ (by omega) (by omega) (by omega)).trans l5
  have l6' : s.1 40 (8 * i + 6) = τ.1 7 i := (p1 40 _ (by omega) (by omega) (by omega)).trans l6
  have l7' : s.1 40 (8 * i + 7) = τ.1 8 i + 1 := by
    rw [p3 i hi, SL, if_neg (by omega)]
  obtain ⟨wn, w1, w2⟩ := hn.le hw.1 hi
  have hh := hm_lt (τ := τ) hc i
  have SLs : ∀ x, SL τ (i + 1) x = if x = i then (if rh τ i = -1 then τ.1 8 i else rh τ i) else SL τ i x := fun x => by
    unfold SL
    by_cases e : x = i
    · subst e; rw [if_pos (by omega), if_pos rfl]
    · rw [if_neg e]
      by_cases q : x < i
      · rw [if_pos q, if_pos (by omega)]
      · rw [if_neg q, if_neg (by omega)]
  rcases k_recv hw hc hi with ⟨h0, hr⟩ | ⟨h0, to, t1, t2, hr, kk, kk8, hkk, hL⟩
  · refine ⟨s, ?_, p1, fun x hx => ?_, fun x hx => ?_⟩
    · simp only [mL_spread_L16, c40, if_false, r40, m40]
      rw [if_neg (nI_ge hi (by omega)), k_heard hw hgs hi, b1s]
      simp only [ix8', o8_5, o8_6, o8_7, chk8 (show 8 * i + 5 < 48 by omega) (by decide), if_false]
      rw [b1s, h0, if_pos nI_0, nI_1, SC, if_pos hr]
    · rw [SD, SD, if_pos hr, if_pos hr]; exact p2 x hx
    · rw [SLs]
      by_cases e : x = i
      · subst e; rw [if_pos rfl, if_pos hr]; exact l7'
      · rw [if_neg e]; exact p3 x hx
  · have hne : ¬ rh τ i = -1 := by
      rw [hr]
      have : ∀ f, f < 9 → ¬ nI f = -1 := by decide +kernel
      exact this to (by omega)
    have hto : (rh τ i).toNatClampNeg = to := by rw [hr]; exact nI_clamp (by omega)
    have r1 := (p2 to (by omega)).1
    have r2 := (p2 i (by omega)).1
    have r3 := (p2 to (by omega)).2
    have r4 := (p2 i (by omega)).2
    refine ⟨fm_wr (fm_wr (fm_wr (fm_wr (fm_wr s 40 (8 * i + 7) (nI (to + 1))) 43 to (SD τ 6 i to + τ.1 6 i / 2)) 43 i (SD τ 6 i i - τ.1 6 i / 2)) 44 to (SD τ 7 i to + τ.1 7 i / 2)) 44 i (SD τ 7 i i - τ.1 7 i / 2), ?_, fun a b h1 h2 h3 => ?_, fun x hx => ?_, fun x hx => ?_⟩
    · have hs : mL_spread_L16 (n + 1) (SC τ i) (nI i) s = mL_spread_L16 (n + 1) (SC τ i) (nI i) s := rfl
      simp only [mL_spread_L16, c40, if_false, r40, m40]
      rw [if_neg (nI_ge hi (by omega)), k_heard hw hgs hi, b1s]
      simp only [ix8', o8_5, o8_6, o8_7, chk8 (show 8 * i + 5 < 48 by omega) (by decide), chk8 (show 8 * i + 6 < 48 by omega) (by decide), chk8 (show 8 * i + 7 < 48 by omega) (by decide), chk8 (show i < 8 by omega) (by decide), if_false]
      rw [b1s, if_neg (nI_ne0 (by omega) (by omega)), b1s, rIn _ _ (by omega), rIn _ _ (by omega), l5, l7', hkk, hL, b1s, b1s]
      simp only [chk8 (show to < 8 by omega) (by decide), if_false]
      rw [b1s, b1s, b1s, b1s, nI_1, sIn _ _ _ (by omega), sIn _ _ _ (by omega), sIn _ _ _ (by omega), sIn _ _ _ (by omega), sIn _ _ _ (by omega)]
      simp only [rIn _ _ (show to < 2 ^ 31 by omega), rIn _ _ (show i < 2 ^ 31 by omega), rIn _ _ (show 8 * i + 6 < 2 ^ 31 by omega)]
      rw [wrN _ _ (show (43 : Nat) ≠ 40 ∨ to ≠ 8 * i + 7 by omega), r1]
      rw [wrN _ _ (show (43 : Nat) ≠ 43 ∨ i ≠ to by omega), wrN _ _ (show (43 : Nat) ≠ 40 ∨ i ≠ 8 * i + 7 by omega), r2]
      rw [wrN _ _ (show (44 : Nat) ≠ 43 ∨ to ≠ i by omega), wrN _ _ (show (44 : Nat) ≠ 43 ∨ to ≠ to by omega), wrN _ _ (show (44 : Nat) ≠ 40 ∨ to ≠ 8 * i + 7 by omega), r3]
      rw [wrN _ _ (show (40 : Nat) ≠ 43 ∨ 8 * i + 6 ≠ i by omega), wrN _ _ (show (40 : Nat) ≠ 43 ∨ 8 * i + 6 ≠ to by omega), wrN _ _ (show (40 : Nat) ≠ 40 ∨ 8 * i + 6 ≠ 8 * i + 7 by omega), l6']
      rw [wrN _ _ (show (44 : Nat) ≠ 44 ∨ i ≠ to by omega), wrN _ _ (show (44 : Nat) ≠ 43 ∨ i ≠ i by omega), wrN _ _ (show (44 : Nat) ≠ 43 ∨ i ≠ to by omega), wrN _ _ (show (44 : Nat) ≠ 40 ∨ i ≠ 8 * i + 7 by omega), r4]
      rw [wrN _ _ (show (40 : Nat) ≠ 44 ∨ 8 * i + 6 ≠ to by omega), wrN _ _ (show (40 : Nat) ≠ 43 ∨ 8 * i + 6 ≠ i by omega), wrN _ _ (show (40 : Nat) ≠ 43 ∨ 8 * i + 6 ≠ to by omega), wrN _ _ (show (40 : Nat) ≠ 40 ∨ 8 * i + 6 ≠ 8 * i + 7 by omega), l6']
      have e7 : τ.1 7 i >>> ((1 : Int32) &&& 31) = τ.1 7 i / 2 := by rw [w2, shr1 (by omega)]
      rw [e7, SC, if_neg hne, nI_1]
    · rw [wrN _ _ (by omega), wrN _ _ (by omega), wrN _ _ (by omega), wrN _ _ (by omega), wrN _ _ (by omega)]
      exact p1 a b h1 h2 h3
    · rw [SD, SD, if_neg hne, if_neg hne, hto]
      constructor
      · rw [wrN _ _ (show (43 : Nat) ≠ 44 ∨ x ≠ i by omega), wrN _ _ (show (43 : Nat) ≠ 44 ∨ x ≠ to by omega)]
        show (fm_wr (fm_wr _ 43 to _) 43 i _).1 43 x = if x = to then SD τ 6 i x + τ.1 6 i / 2 else if x = i then SD τ 6 i i - τ.1 6 i / 2 else SD τ 6 i x
        by_cases e1 : x = to
        · subst e1; rw [if_pos rfl, wrN _ _ (by omega), wrS]
        · rw [if_neg e1]
          by_cases e2 : x = i
          · subst e2; rw [if_pos rfl, wrS]
          · rw [if_neg e2, wrN _ _ (by omega), wrN _ _ (by omega), wrN _ _ (by omega)]; exact (p2 x hx).1
      · show (fm_wr (fm_wr _ 44 to _) 44 i _).1 44 x = if x = to then SD τ 7 i x + τ.1 7 i / 2 else if x = i then SD τ 7 i i - τ.1 7 i / 2 else SD τ 7 i x
        by_cases e1 : x = to
        · subst e1; rw [if_pos rfl, wrN _ _ (by omega), wrS]
        · rw [if_neg e1]
          by_cases e2 : x = i
          · subst e2; rw [if_pos rfl, wrS]
          · rw [if_neg e2, wrN _ _ (by omega), wrN _ _ (by omega), wrN _ _ (by omega), wrN _ _ (by omega), wrN _ _ (by omega)]; exact (p2 x hx).2
    · rw [SLs, wrN _ _ (by omega), wrN _ _ (by omega), wrN _ _ (by omega), wrN _ _ (by omega)]
      by_cases e : x = i
      · subst e; rw [if_pos rfl, if_neg hne, wrS, hr, nI_1]
      · rw [if_neg e, wrN _ _ (by omega)]; exact p3 x hx
end PVU
