section PVJ
theorem q_lo5 : ∀ U, U < 32 → mL_trees_L5 fG (nI U) 0 = some (nI (loU U)) ∧ mL_isFigure_L23 fG (nI U) 0 = some (nI (loU U)) ∧ (U ≠ 0 → loU U < 5 ∧ U.testBit (loU U) = true) := by decide +kernel
theorem countP_split {p q r : Nat → Bool} : ∀ {T : List Nat}, (∀ t ∈ T, p t = (q t || r t) ∧ (q t && r t) = false) → T.countP p = T.countP q + T.countP r
  | [], _ => rfl
  | t :: T, h => by
    have ih := countP_split (T := T) (fun t ht => h t (List.mem_cons_of_mem _ ht))
    obtain ⟨h1, h2⟩ := h t List.mem_cons_self
    rw [List.countP_cons, List.countP_cons, List.countP_cons, ih, h1]
    cases hq : q t <;> cases hr : r t <;> rw [hq, hr] at h2 <;> simp at h2 ⊢ <;> omega
theorem countP_one (s : Nat) : ∀ {T : List Nat}, T.Nodup → T.countP (fun t => t == s) = (T.contains s).toNat
  | [], _ => rfl
  | t :: T, h => by
    obtain ⟨h1, h2⟩ := List.nodup_cons.mp h
    have ih := countP_one s h2
    rw [List.countP_cons, ih, List.contains_cons]
    by_cases e : t = s
    · subst e
      have : T.contains t = false := by
        cases hc : T.contains t
        · rfl
        · exact absurd (List.contains_iff_mem.mp hc) h1
      rw [this]; simp
    · have e1 : (t == s) = false := by simp [e]
      have e2 : (s == t) = false := by simp; exact fun q => e q.symm
      rw [e1, e2]; simp
theorem c1_at {U s : Nat} (hU : U < 32) (hs : s &&& PU U = s) (h0 : s ≠ 0) : pT U s = (TU U).contains s := by
  have h : allS (c1 U) (PU U) 1100 (PU U) = true := by
    by_cases q : U < 31
    · exact t_tab U q
    · have : U = 31 := by omega
      subst this; exact t_tab31
  have := allS_at 1100 (PU U) (msk_lt _ _) (Nat.and_self _) h s hs (sb_le hs)
  unfold c1 at this
  simpa [h0] using this
theorem lI_add (a b : Int) : lI a + lI b = lI (a + b) := (Int64.ofInt_add a b).symm
theorem PU_FU (U : Nat) : PU U &&& FU5 = PU U := sb_of fun j hj => by
  unfold PU at hj
  unfold FU5
  rw [msk_tb] at hj ⊢
  simp only [Bool.and_eq_true] at hj ⊢
  exact ⟨hj.1, hj.2.1⟩
theorem k_treesL {U G : Nat} (hU : U < 32) (h0 : U ≠ 0) (hG : G &&& PU U = G) : mL_trees (nI G) (nI U) = some (lI (if cnt U.testBit 5 = 1 then 1 else (tv U G : Int))) := by
  have hfu := sb_trans hG (PU_FU U)
  have hG25 := lt25 hfu
  obtain ⟨l1, -, l3⟩ := q_lo5 U hU
  obtain ⟨l4, l5⟩ := l3 h0
  have hcU : 1 ≤ cnt U.testBit 5 := by
    have hd : ∀ U, U < 32 → U ≠ 0 → 1 ≤ cnt U.testBit 5 := by decide
    exact hd U hU h0
  have hcU5 := cnt_le U.testBit 5
  obtain ⟨nd, pos⟩ := t_nd U hU
  have pos : ∀ t ∈ TU U, 0 < t := fun t ht => by simpa using List.all_eq_true.mp pos t ht
  have L : ∀ d n s k, s &&& G = s → cp 25 G s = d → d < n → k + (TU U).countP (fun t => (t &&& G == t) && decide (t ≤ s)) = tv U G → mL_trees_L29 n (nI G) (nI U) (lI (k : Int)) (nI (loU U)) (nI s) = some (lI (tv U G : Int)) := by
    intro d
    induction d with
    | zero =>
      intro n s k hs hd hn hk
      obtain ⟨n, rfl⟩ : ∃ n', n = n' + 1 := ⟨n - 1, by omega⟩
      have hs25 : s < 2 ^ 25 := Nat.lt_of_le_of_lt (sb_le hs) hG25
      have : s = 0 := by
        apply Classical.byContradiction; intro q
        have := cp_low 25 G s (by omega) hs25 hs
        omega
      subst this
      have hz : (TU U).countP (fun t => (t &&& G == t) && decide (t ≤ 0)) = 0 := by
        rw [List.countP_eq_zero]
        intro t ht
        have := pos t ht
        simp; omega
      rw [hz, Nat.add_zero] at hk
      rw [mL_trees_L29, if_pos (show nI 0 ≤ (0 : Int32) by decide), hk]
    | succ d ih =>
      intro n s k hs hd hn hk
      obtain ⟨n, rfl⟩ : ∃ n', n = n' + 1 := ⟨n - 1, by omega⟩
      have hs25 : s < 2 ^ 25 := Nat.lt_of_le_of_lt (sb_le hs) hG25
      have hpos : 0 < s := by
        apply Nat.pos_of_ne_zero; rintro rfl
        have hz : ∀ n G, cp n G 0 = 0 := by
          intro n
          induction n with
          | zero => exact fun _ => rfl
          | succ n ih => intro G; rw [cp, show 0 / 2 = 0 from rfl, ih]; split <;> rfl
        rw [hz] at hd; omega
      have hc := cp_low 25 G s hpos hs25 hs
      have hcs := cnt_le s.testBit 25
      have hsub : nI s - (1 : Int32) = nI (s - 1) := pk_sub (a := s) (b := 1) (by omega)
      have hand : nI (s - 1) &&& nI G = nI ((s - 1) &&& G) := b_and (by omega) (by omega)
      have hsp := countP_split (T := TU U) (p := fun t => (t &&& G == t) && decide (t ≤ s)) (q := fun t => t == s) (r := fun t => (t &&& G == t) && decide (t ≤ ((s - 1) &&& G))) (fun t ht => by
        have hlt : (s - 1) &&& G ≤ s - 1 := Nat.and_le_left
        by_cases e : t = s
        · subst e
          have : ¬ t ≤ (t - 1) &&& G := by omega
          simp [hs, this]
        · by_cases hsb : t &&& G = t
          · have : (t ≤ s) ↔ t ≤ ((s - 1) &&& G) := by
              constructor
              · intro q; exact sb_ord 25 G s t hs25 hs hsb (by omega)
              · intro q; omega
            simp [e, hsb, this]
          · have h1 : (t &&& G == t) = false := by simp [hsb]
            have h2 : (t == s) = false := by simp [e]
            rw [h1, h2]; simp)
      rw [hsp, countP_one s nd] at hk
      have hpt := c1_at hU (sb_trans hs hG) (show s ≠ 0 by omega)
      have hval : (mb1 (if nI (cnt s.testBit 25) = nI (cnt U.testBit 5) - (1 : Int32) then mb1 (mL_group (nI s) (nI (loU U))) fun r53 => if r53 = nI U then some (1 : Int64) else some (0 : Int64) else some (0 : Int64)) fun v => some v) = some (lI ((pT U s).toNat : Int)) := by
        rw [show nI (cnt U.testBit 5) - (1 : Int32) = nI (cnt U.testBit 5 - 1) from pk_sub (b := 1) (by omega), k_groupL hs25 l4, b1s]
        unfold pT
        have hg := gN_lt s l4
        by_cases e1 : cnt s.testBit 25 + 1 = cnt U.testBit 5
        · rw [if_pos (show nI (cnt s.testBit 25) = nI (cnt U.testBit 5 - 1) by rw [← e1]; rfl)]
          by_cases e2 : gN s (loU U) = U
          · rw [if_pos (by rw [e2]), b1s]; simp [e1, e2, lI_1]
          · rw [if_neg (fun q => e2 ((nI_eq (by omega) (by omega)).mp q)), b1s]; simp [e2, lI_0]
        · rw [if_neg (fun q => e1 (by have := (nI_eq (a := cnt s.testBit 25) (b := cnt U.testBit 5 - 1) (by omega) (by omega)).mp q; omega)), b1s]; simp [e1, lI_0]
      have hv2 : ∀ {o : Option Int64} {x : Int64}, (mb1 o fun v => some v) = some x → o = some x := by
        intro o x q
        cases o with
        | none => cases q
        | some a => exact q
      have hstep : mL_trees_L29 (n + 1) (nI G) (nI U) (lI (k : Int)) (nI (loU U)) (nI s) = if nI s ≤ 0 then some (lI (k : Int)) else mb1 (mL_ones (nI s)) fun r37 => mb1 (mL_ones (nI U)) fun r41 => mb1 (if r37 = r41 - (1 : Int32) then mb1 (mL_group (nI s) (nI (loU U))) fun r53 => if r53 = nI U then some (1 : Int64) else some (0 : Int64) else some (0 : Int64)) fun v => mb1 (some (lI (k : Int) + v)) fun u => mb1 (some ((nI s - (1 : Int32)) &&& nI G)) fun w => mL_trees_L29 n (nI G) (nI U) u (nI (loU U)) w := rfl
      rw [hstep, if_neg (show ¬ nI s ≤ (0 : Int32) from nI_ge (a := 0) hpos (by omega)), k_ones (n := 25) hs25 (by decide), b1s, k_ones (n := 5) (by omega) (by decide), b1s, hv2 hval, b1s, b1s, hsub, hand, b1s, lI_add]
      have := ih n ((s - 1) &&& G) (k + (pT U s).toNat) (sb_and _ _) (by omega) (by omega) (by rw [hpt]; omega)
      rw [show ((k + (pT U s).toNat : Nat) : Int) = (k : Int) + ((pT U s).toNat : Int) by omega] at this
      exact this
  have hcp := cp_lt 25 G G
  have hten := ten hfu
  have : 2 ^ cnt G.testBit 25 ≤ 2 ^ 10 := Nat.pow_le_pow_right (by decide) hten
  have hL := L (cp 25 G G) fG G 0 (Nat.and_self G) rfl (by unfold fG; omega) (by
    rw [Nat.zero_add]
    unfold tv
    congr 1
    funext t
    by_cases hsb : t &&& G = t
    · have := sb_le hsb
      simp [hsb, this]
    · simp [hsb])
  rw [mL_trees, l1, b1s]
  have hL : mL_trees_L29 fG (nI G) (nI U) 0 (nI (loU U)) (nI G) = some (lI (tv U G : Int)) := by rw [← lI_0]; exact hL
  rw [hL]
  rw [k_ones (n := 5) (by omega) (by decide)]
  by_cases e : cnt U.testBit 5 = 1
  · rw [if_pos e, e, lI_1]; rfl
  · rw [if_neg e]
    show (if nI (cnt U.testBit 5) = (1 : Int32) then _ else _) = _
    rw [if_neg (show ¬ nI (cnt U.testBit 5) = (1 : Int32) from fun q => e ((nI_eq (b := 1) (by omega) (by decide)).mp q))]
end PVJ
