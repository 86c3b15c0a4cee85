section PVD
/-- one link of a sweep, a sweep up to a link, four sweeps -/
def gs (G k s : Nat) : Nat := if G.testBit k && (s.testBit (k / 5) != s.testBit (k % 5)) then s ||| (2 ^ (k / 5) ||| 2 ^ (k % 5)) else s
def gR (G : Nat) : Nat → Nat → Nat
  | 0, s => s
  | n + 1, s => gs G n (gR G n s)
def gN (G i : Nat) : Nat := gR G 25 (gR G 25 (gR G 25 (gR G 25 (2 ^ i))))
theorem gs_lt {G k s : Nat} (hk : k < 25) (h : s < 2 ^ 5) : gs G k s < 2 ^ 5 := by
  unfold gs
  split
  · exact Nat.or_lt_two_pow h (Nat.or_lt_two_pow (Nat.pow_lt_pow_right (by decide) (by omega)) (Nat.pow_lt_pow_right (by decide) (by omega)))
  · exact h
theorem gR_lt {G s : Nat} (h : s < 2 ^ 5) : ∀ n, n ≤ 25 → gR G n s < 2 ^ 5
  | 0, _ => h
  | n + 1, hn => gs_lt (by omega) (gR_lt h n (by omega))
theorem gs_mono (G k : Nat) {s j : Nat} (h : s.testBit j = true) : (gs G k s).testBit j = true := by
  unfold gs
  split
  · rw [Nat.testBit_or, h]; rfl
  · exact h
theorem gR_mono (G : Nat) {s j : Nat} (h : s.testBit j = true) : ∀ n, (gR G n s).testBit j = true
  | 0 => h
  | n + 1 => gs_mono G n (gR_mono G h n)
theorem gs_id {G k s : Nat} (h : gs G k s = s) (hk : G.testBit k = true) : s.testBit (k / 5) = s.testBit (k % 5) := by
  apply Classical.byContradiction
  intro hne
  unfold gs at h
  have hb : (G.testBit k && (s.testBit (k / 5) != s.testBit (k % 5))) = true := by
    rw [hk, Bool.true_and]; simpa using hne
  rw [if_pos hb] at h
  have h1 : s.testBit (k / 5) = true := by rw [← h]; simp
  have h2 : s.testBit (k % 5) = true := by rw [← h]; simp
  exact hne (h1.trans h2.symm)
theorem gs_fix {G k s : Nat} (h : G.testBit k = true → s.testBit (k / 5) = s.testBit (k % 5)) : gs G k s = s := by
  unfold gs
  by_cases hk : G.testBit k = true
  · rw [if_neg (by rw [h hk]; simp)]
  · rw [if_neg (by simp [Bool.eq_false_iff.mpr hk])]
def gC (G s : Nat) : Prop := ∀ k, k < 25 → G.testBit k = true → s.testBit (k / 5) = s.testBit (k % 5)
theorem gR_fix {G s : Nat} (h : gC G s) : ∀ n, n ≤ 25 → gR G n s = s
  | 0, _ => rfl
  | n + 1, hn => by rw [gR, gR_fix h n (by omega), gs_fix (h n (by omega))]
theorem sup_eq {s t : Nat} (h : ∀ j, s.testBit j = true → t.testBit j = true) (h' : ∀ j, t.testBit j = true → s.testBit j = true) : s = t := by
  apply Nat.eq_of_testBit_eq
  intro j
  cases e : s.testBit j
  · cases e' : t.testBit j
    · rfl
    · rw [h' j e'] at e; cases e
  · rw [h j e]
theorem gR_stay {G s : Nat} : ∀ n, gR G n s = s → (∀ k, k < n → G.testBit k = true → s.testBit (k / 5) = s.testBit (k % 5))
  | 0, _ => fun k hk => absurd hk (by omega)
  | n + 1, h => by
    have e : gR G n s = s := (sup_eq (fun j hj => gR_mono G hj n) (fun j hj => by rw [← h]; exact gs_mono G n hj)).symm
    intro k hk hb
    by_cases q : k = n
    · subst q
      have h2 : gs G k s = s := by rw [gR, e] at h; exact h
      exact gs_id h2 hb
    · exact gR_stay n e k (by omega) hb
theorem cnt_sup {P Q : Nat → Bool} (h : ∀ j, P j = true → Q j = true) : ∀ n, cnt P n ≤ cnt Q n
  | 0 => Nat.le_refl _
  | n + 1 => by
    have := cnt_sup h n
    have h2 := h n
    rw [cnt, cnt]
    cases hp : P n
    · simp; omega
    · rw [h2 hp]; simp; omega
theorem cnt_sup_lt {P Q : Nat → Bool} (h : ∀ j, P j = true → Q j = true) {k : Nat} (hk : P k = false) (hk' : Q k = true) : ∀ n, k < n → cnt P n < cnt Q n
  | 0, hn => absurd hn (by omega)
  | n + 1, hn => by
    have h1 := cnt_sup h n
    rw [cnt, cnt]
    by_cases e : k = n
    · subst e
      rw [hk, hk']; simp; omega
    · have := cnt_sup_lt h hk hk' n (by omega)
      have h2 := h n
      cases hp : P n
      · simp; omega
      · rw [h2 hp]; simp; omega
theorem cnt_all {P : Nat → Bool} : ∀ n, n ≤ cnt P n → ∀ j, j < n → P j = true
  | 0, _, j, hj => absurd hj (by omega)
  | n + 1, h, j, hj => by
    have h1 := cnt_le P n
    rw [cnt] at h
    have hb : (P n).toNat ≤ 1 := by cases P n <;> decide
    by_cases e : j = n
    · subst e
      cases hp : P j
      · rw [hp] at h; simp at h; omega
      · rfl
    · exact cnt_all n (by omega) j (by omega)
/-- a sweep that changes something brings a member more -/
theorem gR_more {G s : Nat} (h : s < 2 ^ 5) (hne : gR G 25 s ≠ s) : cnt s.testBit 5 < cnt (gR G 25 s).testBit 5 := by
  have hm : ∀ j, s.testBit j = true → (gR G 25 s).testBit j = true := fun j hj => gR_mono G hj 25
  have : ∃ k, s.testBit k = false ∧ (gR G 25 s).testBit k = true := by
    apply Classical.byContradiction
    intro hn
    refine hne (sup_eq hm (fun j hj => ?_)).symm
    cases e : s.testBit j
    · exact absurd ⟨j, e, hj⟩ hn
    · rfl
  obtain ⟨k, h1, h2⟩ := this
  have hk : k < 5 := by
    apply Classical.byContradiction; intro hn
    have := Nat.testBit_lt_two_pow (Nat.lt_of_lt_of_le (gR_lt (G := G) h 25 (Nat.le_refl _)) (Nat.pow_le_pow_right (n := 2) (by decide) (show 5 ≤ k by omega)))
    rw [this] at h2; cases h2
  exact cnt_sup_lt hm h1 h2 5 hk
theorem gN_closed (G : Nat) {i : Nat} (hi : i < 5) : gC G (gN G i) := by
  have l0 : (2 : Nat) ^ i < 2 ^ 5 := Nat.pow_lt_pow_right (by decide) hi
  have c0 : 1 ≤ cnt ((2 : Nat) ^ i).testBit 5 := by
    have h2 : ∀ i, i < 5 → 1 ≤ cnt ((2 : Nat) ^ i).testBit 5 := by decide
    exact h2 i hi
  have st : ∀ s, s < 2 ^ 5 → (gR G 25 s = s → gC G s) := fun s _ h => gR_stay 25 h
  have go : ∀ s d, s < 2 ^ 5 → d ≤ cnt s.testBit 5 ∨ gC G s → (d + 1 ≤ cnt (gR G 25 s).testBit 5 ∨ gC G (gR G 25 s)) := by
    intro s d hs h
    rcases h with h | h
    · by_cases e : gR G 25 s = s
      · right; rw [e]; exact st s hs e
      · left
        have := gR_more hs e
        omega
    · right; rw [gR_fix h 25 (Nat.le_refl _)]; exact h
  unfold gN
  have l1 := gR_lt (G := G) l0 25 (Nat.le_refl _)
  have l2 := gR_lt (G := G) l1 25 (Nat.le_refl _)
  have l3 := gR_lt (G := G) l2 25 (Nat.le_refl _)
  have g4 := go _ 4 l3 (go _ 3 l2 (go _ 2 l1 (go _ 1 l0 (Or.inl c0))))
  rcases g4 with h | h
  · intro k hk _
    have ha := cnt_all 5 h
    rw [ha (k / 5) (by omega), ha (k % 5) (by omega)]
  · exact h
theorem gN_lt (G : Nat) {i : Nat} (hi : i < 5) : gN G i < 2 ^ 5 :=
  gR_lt (gR_lt (gR_lt (gR_lt (Nat.pow_lt_pow_right (by decide) hi) 25 (Nat.le_refl _)) 25 (Nat.le_refl _)) 25 (Nat.le_refl _)) 25 (Nat.le_refl _)
theorem gN_self (G i : Nat) : (gN G i).testBit i = true :=
  gR_mono G (gR_mono G (gR_mono G (gR_mono G (by rw [Nat.testBit_two_pow]; simp) 25) 25) 25) 25
/-- what holds of the first and goes over links holds of all -/
theorem gR_ind {G : Nat} (S : Nat → Prop) (hS : ∀ k, k < 25 → G.testBit k = true → (S (k / 5) ↔ S (k % 5))) : ∀ n s, n ≤ 25 → (∀ j, s.testBit j = true → S j) → ∀ j, (gR G n s).testBit j = true → S j
  | 0, s, _, h => h
  | n + 1, s, hn, h => by
    have ih := gR_ind S hS n s (by omega) h
    intro j hj
    rw [gR] at hj
    unfold gs at hj
    by_cases hb : (G.testBit n && ((gR G n s).testBit (n / 5) != (gR G n s).testBit (n % 5))) = true
    · rw [if_pos hb, Nat.testBit_or, Nat.testBit_or, Nat.testBit_two_pow, Nat.testBit_two_pow] at hj
      rw [Bool.and_eq_true] at hb
      have hi := hS n (by omega) hb.1
      have ho : S (n / 5) ∧ S (n % 5) := by
        cases e1 : (gR G n s).testBit (n / 5)
        · cases e2 : (gR G n s).testBit (n % 5)
          · rw [e1, e2] at hb; simp at hb
          · exact ⟨hi.mpr (ih _ e2), ih _ e2⟩
        · exact ⟨ih _ e1, hi.mp (ih _ e1)⟩
      simp only [Bool.or_eq_true, decide_eq_true_eq] at hj
      rcases hj with hj | hj | hj
      · exact ih j hj
      · rw [← hj]; exact ho.1
      · rw [← hj]; exact ho.2
    · rw [if_neg hb] at hj
      exact ih j hj
theorem gN_ind {G i : Nat} (S : Nat → Prop) (hS : ∀ k, k < 25 → G.testBit k = true → (S (k / 5) ↔ S (k % 5))) (hi : S i) : ∀ j, (gN G i).testBit j = true → S j := by
  have h0 : ∀ j, ((2 : Nat) ^ i).testBit j = true → S j := fun j hj => by
    rw [Nat.testBit_two_pow] at hj
    have : i = j := by simpa using hj
    rw [← this]; exact hi
  exact gR_ind S hS 25 _ (Nat.le_refl _) (gR_ind S hS 25 _ (Nat.le_refl _) (gR_ind S hS 25 _ (Nat.le_refl _) (gR_ind S hS 25 _ (Nat.le_refl _) h0)))
/-- in the group, by the law's sweeps -/
theorem gN_Gr {τ : fm_S} {c : Nat} (hw : WF τ c) (hc : c ≤ 5) {i j : Nat} (hi : i < c) (hj : j < 8) : (gN (LK τ c) i).testBit j = true ↔ Gr τ i j := by
  have hlk : ∀ k, k < 25 → (LK τ c).testBit k = true → lk τ (k / 5) (k % 5) = true ∧ k / 5 < 5 := by
    intro k hk hb
    unfold LK at hb
    rw [msk_tb] at hb
    simp only [lq, Bool.and_eq_true] at hb
    exact ⟨hb.2.2, by omega⟩
  constructor
  · refine gN_ind (fun j => Gr τ i j) (fun k hk hb => ?_) (Gr_self τ i) j
    obtain ⟨h1, h2⟩ := hlk k hk hb
    constructor
    · intro h; exact Gr_step h (by omega) (by omega) h1
    · intro h; exact Gr_step h (by omega) (by omega) (by rw [lk_symm hw (by omega) (by omega)]; exact h1)
  · intro h
    refine h (fun j => (gN (LK τ c) i).testBit j = true) (gN_self _ _) (fun a b ha hb hS hl => ?_)
    have := lk_lt hw ha hb hl
    have hne := this.2.2
    have cl := gN_closed (LK τ c) (i := i) (by omega)
    have hp := LK_pr hw hc (i := a) (j := b) (by omega) (by omega) hne
    rw [hl] at hp
    have hpl := pr_lt a (by omega) b (by omega)
    have := cl _ hpl hp
    unfold pr at this
    by_cases q : a < b
    · rw [if_pos q, show (5 * a + b) / 5 = a by omega, show (5 * a + b) % 5 = b by omega] at this
      rw [← this]; exact hS
    · rw [if_neg q, show (5 * b + a) / 5 = b by omega, show (5 * b + a) % 5 = a by omega] at this
      rw [this]; exact hS
theorem n5d : ∀ k, k < 25 → nI k / (5 : Int32) = nI (k / 5) ∧ nI k - nI k / (5 : Int32) * (5 : Int32) = nI (k % 5) := fun k hk => ⟨pk_div (a := k) (d := 5) (by omega) (by decide) (by decide), pk_rem (a := k) (d := 5) (by omega) (by decide) (by decide)⟩
theorem k_sweepL {G : Nat} (hG : G < 2 ^ 25) {s : Nat} (hs : s < 2 ^ 5) : mL_group_L14 fG (nI G) (nI s) 0 = some (nI (gR G 25 s)) := by
  obtain ⟨t, e1, e2⟩ := lpU (fun n x4 (a : Int32) => mL_group_L14 n (nI G) a x4) 25 (fun k a => a = nI (gR G k s)) (fun t => t = nI (gR G 25 s))
    (fun n a ha => ⟨a, by simp only [mL_group_L14]; rw [if_pos (by decide)], ha⟩)
    (fun n k a hk ha => by
      refine ⟨nI (gR G (k + 1) s), ?_, rfl⟩
      have hl := gR_lt (G := G) hs k (by omega)
      have h31 : gR G k s < 2 ^ 31 := by omega
      simp only [mL_group_L14]
      rw [if_neg (show ¬ (25 : Int32) ≤ nI k from nI_ge (b := 25) hk (by decide)), ha, b_bit (by omega) (by omega), (n5d k hk).2, (n5d k hk).1, b_bit h31 (by omega), b_bit h31 (by omega), nI_1, gR, gs]
      have p1 : 2 ^ (k / 5) < 2 ^ 31 := Nat.pow_lt_pow_right (by decide) (by omega)
      have p2 : 2 ^ (k % 5) < 2 ^ 31 := Nat.pow_lt_pow_right (by decide) (by omega)
      have skip : (mb1 (some (0 : Int32)) fun v1 => mb1 (if v1 = 0 then some (0 : Int32) else some (((1 : Int32) <<< (nI (k / 5) &&& 31)) ||| ((1 : Int32) <<< (nI (k % 5) &&& 31)))) fun v2 => mb1 (some (nI (gR G k s) ||| v2)) fun u => mL_group_L14 n (nI G) u (nI (k + 1))) = mL_group_L14 n (nI G) (nI (gR G k s)) (nI (k + 1)) := by
        rw [b1s, if_pos rfl, b1s, b1s, show (0 : Int32) = nI 0 from rfl, b_or h31 (by decide), Nat.or_zero]
      by_cases hb : G.testBit k = true
      · rw [if_pos hb, if_pos rfl, hb, Bool.true_and]
        cases x1 : (gR G k s).testBit (k / 5) <;> cases x2 : (gR G k s).testBit (k % 5)
        · rw [if_neg (by decide)]; exact skip
        · rw [if_pos (by decide), b1s, if_neg (by decide), b1s, b1s, b_shl1 _ (by omega), b_shl1 _ (by omega), b_or p1 p2, b_or h31 (Nat.or_lt_two_pow p1 p2)]; rfl
        · rw [if_pos (by decide), b1s, if_neg (by decide), b1s, b1s, b_shl1 _ (by omega), b_shl1 _ (by omega), b_or p1 p2, b_or h31 (Nat.or_lt_two_pow p1 p2)]; rfl
        · rw [if_neg (by decide)]; exact skip
      · rw [if_neg hb, if_neg (by decide), Bool.eq_false_iff.mpr hb, Bool.false_and]; exact skip)
    fG 0 _ (Nat.zero_le _) (by unfold fG; omega) rfl
  have e1 : mL_group_L14 fG (nI G) (nI s) 0 = some t := e1
  rw [e1, e2]
theorem k_groupL {G : Nat} (hG : G < 2 ^ 25) {i : Nat} (hi : i < 5) : mL_group (nI G) (nI i) = some (nI (gN G i)) := by
  have l0 : (2 : Nat) ^ i < 2 ^ 5 := Nat.pow_lt_pow_right (by decide) hi
  have l1 := gR_lt (G := G) l0 25 (Nat.le_refl _)
  have l2 := gR_lt (G := G) l1 25 (Nat.le_refl _)
  have l3 := gR_lt (G := G) l2 25 (Nat.le_refl _)
  have h4 : ∀ n s, mL_group_L6 (n + 1) (nI G) s (4 : Int32) = some s := fun n s => by simp only [mL_group_L6]; rw [if_pos (by decide)]
  have st : ∀ n s (k : Int32), s < 2 ^ 5 → ¬ (4 : Int32) ≤ k → mL_group_L6 (n + 1) (nI G) (nI s) k = mL_group_L6 n (nI G) (nI (gR G 25 s)) (k + 1) := fun n s k hs hk => by
    simp only [mL_group_L6]; rw [if_neg hk, k_sweepL hG hs, b1s]
  rw [mL_group, b_shl1 i (by omega), b1s]
  show mb1 (mL_group_L6 (1995 + 1 + 1 + 1 + 1 + 1) (nI G) (nI (2 ^ i)) 0) _ = _
  rw [st _ _ _ l0 (by decide), st _ _ _ l1 (by decide), st _ _ _ l2 (by decide), st _ _ _ l3 (by decide), show (0 : Int32) + 1 + 1 + 1 + 1 = 4 from by decide, h4, b1s]; rfl
end PVD
