section PVF
theorem cnt_range (P : Nat → Bool) : ∀ n, (List.range n).countP P = cnt P n
  | 0 => rfl
  | n + 1 => by
    rw [List.range_succ, List.countP_append, cnt_range P n, cnt]
    cases h : P n <;> simp [h]
/-- the links of a set of bits, as pairs -/
def JL (s : Nat) : List (Nat × Nat) := ((List.range 25).filter s.testBit).map (fun k => (k / 5, k % 5))
theorem JL_len (s : Nat) : (JL s).length = cnt s.testBit 25 := by
  unfold JL
  rw [List.length_map, ← List.countP_eq_length_filter, cnt_range]
theorem JL_mem {s : Nat} {e : Nat × Nat} : e ∈ JL s ↔ ∃ k, k < 25 ∧ s.testBit k = true ∧ e = (k / 5, k % 5) := by
  unfold JL
  simp only [List.mem_map, List.mem_filter, List.mem_range]
  constructor
  · rintro ⟨k, ⟨h1, h2⟩, rfl⟩; exact ⟨k, h1, h2, rfl⟩
  · rintro ⟨k, h1, h2, rfl⟩; exact ⟨k, ⟨h1, h2⟩, rfl⟩
theorem JL_gCn (V : Nat → Bool) (s : Nat) : gCn V (JL s) = cnt (fun k => s.testBit k && (V (k / 5) && V (k % 5))) 25 := by
  unfold gCn JL
  rw [List.countP_map, List.countP_filter, ← cnt_range]
  congr 1
  funext k
  simp only [Function.comp]
  cases s.testBit k <;> simp
theorem two_bits0 : ∀ m, m < 32 → ∀ a, a < 5 → ∀ b, b < 5 → (a < b ∧ m.testBit a = true ∧ m.testBit b = true) → 1 < cnt m.testBit 5 := by decide +kernel
theorem two_bits (m : Nat) (hm : m < 32) (a : Nat) (ha : a < 5) (b : Nat) (hb : b < 5) (h : a < b) (h1 : m.testBit a = true) (h2 : m.testBit b = true) : 1 < cnt m.testBit 5 := two_bits0 m hm a ha b hb ⟨h, h1, h2⟩
theorem cnt_zero {P : Nat → Bool} : ∀ n, (∀ j, j < n → P j = false) → cnt P n = 0
  | 0, _ => rfl
  | n + 1, h => by rw [cnt, cnt_zero n (fun j hj => h j (by omega)), h n (by omega)]; rfl
theorem cnt8_5 {m : Nat} (h : m < 32) : cnt m.testBit 8 = cnt m.testBit 5 := by
  have hz : ∀ j, 5 ≤ j → m.testBit j = false := fun j hj => Nat.testBit_lt_two_pow (Nat.lt_of_lt_of_le h (Nat.pow_le_pow_right (n := 2) (by decide) hj))
  rw [cnt, cnt, cnt, hz 5 (by omega), hz 6 (by omega), hz 7 (by omega)]; rfl
theorem cnt_mono8 (P : Nat → Bool) {a b : Nat} (h : a ≤ b) : cnt P a ≤ cnt P b := cnt_mn h
theorem fr_free {s : Nat} (hs : s &&& FU5 = s) : gFree (JL s) ↔ fr s := by
  constructor
  · intro h V h3 hV h1
    have := h V.testBit (by rw [gSz8, ← cnt8, cnt8_5 hV]; omega)
    rw [JL_gCn, gSz8, ← cnt8, cnt8_5 hV] at this
    exact this
  · intro h V hV
    rw [gSz8, ← cnt8] at hV ⊢
    have hm : msk V 5 < 32 := msk_lt V 5
    have hb : ∀ j, j < 5 → (msk V 5).testBit j = V j := fun j hj => by rw [msk_tb]; simp [hj]
    have e1 : gCn V (JL s) = kn s (msk V 5) 25 := by
      rw [JL_gCn]
      exact cnt_congr 25 (fun k hk => by show _ = _; rw [hb _ (by omega), hb _ (by omega)])
    have e2 : cnt (msk V 5).testBit 5 = cnt V 5 := cnt_congr 5 hb
    have e3 : cnt V 5 ≤ cnt V 8 := cnt_mono8 V (by omega)
    rw [e1]
    by_cases h1 : 1 < cnt (msk V 5).testBit 5
    · have h3 : 3 ≤ msk V 5 := by
        have hd : ∀ i, i < 3 → cnt i.testBit 5 ≤ 1 := by decide
        apply Classical.byContradiction; intro hn
        have := hd (msk V 5) (by omega); omega
      have := h _ h3 hm h1
      omega
    · have : kn s (msk V 5) 25 = 0 := cnt_zero 25 (fun k hk => by
        show (s.testBit k && _) = false
        cases hk1 : s.testBit k
        · rfl
        · rw [Bool.true_and]
          have hf := FU5_tb (sb_tb hs hk1)
          cases x1 : (msk V 5).testBit (k / 5)
          · rfl
          · cases x2 : (msk V 5).testBit (k % 5)
            · rfl
            · exact absurd (two_bits _ hm (k / 5) (by omega) (k % 5) (by omega) hf.1 x1 x2) h1)
      omega
theorem fr_0 : fr 0 := fun V h3 hV h1 => by
  have : kn 0 V 25 = 0 := cnt_zero 25 (fun k _ => by show ((0 : Nat).testBit k && _) = false; rw [Nat.zero_testBit]; rfl)
  omega
/-- what the law's search for the greatest free set has: the best, attained, and none better above -/
def RB (G b s : Nat) : Prop := s &&& G = s ∧ (∃ t, t &&& G = t ∧ fr t ∧ cnt t.testBit 25 = b) ∧ ∀ t, t &&& G = t → s < t → fr t → cnt t.testBit 25 ≤ b
theorem k_rankL {G : Nat} (hG : G &&& FU5 = G) : ∃ r, r ≤ 25 ∧ mL_rank (nI G) = some (nI r) ∧ (∃ t, t &&& G = t ∧ fr t ∧ cnt t.testBit 25 = r) ∧ ∀ t, t &&& G = t → fr t → cnt t.testBit 25 ≤ r := by
  have hG25 := lt25 hG
  have L : ∀ d n b s, RB G b s → cp 25 G s = d → d < n → ∃ r, mL_rank_L4 n (nI G) (nI b) (nI s) = some (nI r) ∧ (∃ t, t &&& G = t ∧ fr t ∧ cnt t.testBit 25 = r) ∧ ∀ t, t &&& G = t → fr t → cnt t.testBit 25 ≤ r := by
    intro d
    induction d with
    | zero =>
      intro n b s h hd hn
      obtain ⟨n, rfl⟩ : ∃ n', n = n' + 1 := ⟨n - 1, by omega⟩
      have hs25 : s < 2 ^ 25 := Nat.lt_of_le_of_lt (sb_le h.1) hG25
      have : s = 0 := by
        apply Classical.byContradiction; intro q
        have := cp_low 25 G s (by omega) hs25 h.1
        omega
      subst this
      refine ⟨b, by rw [mL_rank_L4, if_pos (show nI 0 ≤ (0 : Int32) by decide)], h.2.1, fun t ht hf => ?_⟩
      by_cases e : t = 0
      · subst e; rw [pc_0]; omega
      · exact h.2.2 t ht (by omega) hf
    | succ d ih =>
      intro n b s h hd hn
      obtain ⟨n, rfl⟩ : ∃ n', n = n' + 1 := ⟨n - 1, by omega⟩
      have hs25 : s < 2 ^ 25 := Nat.lt_of_le_of_lt (sb_le h.1) hG25
      have hpos : 0 < s := by
        apply Nat.pos_of_ne_zero; rintro rfl
        have hz : ∀ n G, cp n G 0 = 0 := by
          intro n
          induction n with
          | zero => exact fun _ => rfl
          | succ n ih => intro G; rw [cp, show 0 / 2 = 0 from rfl, ih]; split <;> rfl
        rw [hz] at hd; omega
      have hc := cp_low 25 G s hpos hs25 h.1
      have hcb : b ≤ 25 := by
        obtain ⟨t, -, -, q⟩ := h.2.1
        rw [← q]; exact cnt_le _ _
      have hcs := cnt_le s.testBit 25
      have step : ∀ b', ((b' = b ∧ (fr s → cnt s.testBit 25 ≤ b)) ∨ (b' = cnt s.testBit 25 ∧ fr s ∧ b < cnt s.testBit 25)) → RB G b' ((s - 1) &&& G) := by
        intro b' hb'
        refine ⟨sb_and _ _, ?_, fun t ht hlt hf => ?_⟩
        · rcases hb' with ⟨rfl, -⟩ | ⟨rfl, hf, -⟩
          · exact h.2.1
          · exact ⟨s, h.1, hf, rfl⟩
        · by_cases e : t = s
          · subst e
            rcases hb' with ⟨rfl, hx⟩ | ⟨rfl, -, -⟩
            · exact hx hf
            · exact Nat.le_refl _
          · by_cases q : t < s
            · have := sb_ord 25 G s t hs25 h.1 ht q; omega
            · have := h.2.2 t ht (by omega) hf
              rcases hb' with ⟨rfl, -⟩ | ⟨rfl, -, hx⟩
              · exact this
              · omega
      have hsub : nI s - (1 : Int32) = nI (s - 1) := pk_sub (a := s) (b := 1) (by omega)
      have hand : nI (s - 1) &&& nI G = nI ((s - 1) &&& G) := b_and (by omega) (by omega)
      rw [mL_rank_L4, if_neg (show ¬ nI s ≤ (0 : Int32) from nI_ge (a := 0) hpos (by omega)), k_ones (n := 25) hs25 (by decide), b1s]
      by_cases hle : cnt s.testBit 25 ≤ b
      · rw [if_pos (nI_le hle (by omega)), b1s, hsub, hand, b1s]
        exact ih n b _ (step b (Or.inl ⟨rfl, fun _ => hle⟩)) (by omega) (by omega)
      · rw [if_neg (nI_ge (by omega) (by omega))]
        obtain ⟨x, x1, x2⟩ := k_isFree5 hs25
        rw [x1, b1s]
        cases x
        · rw [if_pos (show bI false = 0 from rfl), b1s, hsub, hand, b1s]
          exact ih n b _ (step b (Or.inl ⟨rfl, fun hf => by have := x2.mpr hf; cases this⟩)) (by omega) (by omega)
        · rw [if_neg (show ¬ bI true = 0 by decide), b1s, b1s, hsub, hand, b1s]
          exact ih n _ _ (step _ (Or.inr ⟨rfl, x2.mp rfl, by omega⟩)) (by omega) (by omega)
  have hcp := cp_lt 25 G G
  have hten := ten hG
  have : 2 ^ cnt G.testBit 25 ≤ 2 ^ 10 := Nat.pow_le_pow_right (by decide) hten
  have h0 : RB G 0 G := ⟨Nat.and_self G, ⟨0, Nat.zero_and G, fr_0, pc_0 25⟩, fun t ht hlt => by have := sb_le ht; omega⟩
  obtain ⟨r, e1, e2, e3⟩ := L (cp 25 G G) fG 0 G h0 rfl (by unfold fG; omega)
  refine ⟨r, ?_, ?_, e2, e3⟩
  · obtain ⟨t, -, -, q⟩ := e2
    rw [← q]; exact cnt_le _ _
  · rw [mL_rank]
    have e1 : mL_rank_L4 fG (nI G) 0 (nI G) = some (nI r) := e1
    rw [e1, b1s]
/-- the law's rank is the class's -/
theorem rank_eq {G r : Nat} {L : Nat → Nat → Bool} (hG : G &&& FU5 = G) (hL : ∀ i, i < 8 → ∀ j, j < 8 → i < j → (L i j = true ↔ j < 5 ∧ G.testBit (5 * i + j) = true)) (h1 : ∃ t, t &&& G = t ∧ fr t ∧ cnt t.testBit 25 = r) (h2 : ∀ t, t &&& G = t → fr t → cnt t.testBit 25 ≤ r) {I : List (Nat × Nat)} (hI : gMax (lP L 8 0) I) : I.length = r := by
  obtain ⟨t, t1, t2, t3⟩ := h1
  have hP : ∀ e, lP L 8 0 e ↔ ∃ k, k < 25 ∧ G.testBit k = true ∧ e = (k / 5, k % 5) := by
    rintro ⟨a, b⟩
    unfold lP
    constructor
    · rintro ⟨x1, x2, -, x4⟩
      have := (hL a (by omega) b x2 x1).mp x4
      exact ⟨5 * a + b, by omega, this.2, by rw [show (5 * a + b) / 5 = a by omega, show (5 * a + b) % 5 = b by omega]⟩
    · rintro ⟨k, k1, k2, k3⟩
      have hf := FU5_tb (sb_tb hG k2)
      obtain ⟨rfl, rfl⟩ := Prod.mk.inj k3
      refine ⟨hf.1, by show k % 5 < 8; omega, Or.inl (by show k % 5 < 8; omega), ?_⟩
      refine (hL (k / 5) (by omega) (k % 5) (by omega) hf.1).mpr ⟨by omega, ?_⟩
      rw [show 5 * (k / 5) + k % 5 = k by omega]; exact k2
  have hfu := sb_trans t1 hG
  have hJ : gMax (lP L 8 0) (JL t) := by
    refine ⟨(fr_free hfu).mpr t2, ?_, ?_, ?_⟩
    · intro e he
      obtain ⟨k, k1, k2, rfl⟩ := JL_mem.mp he
      have hf := FU5_tb (sb_tb hfu k2)
      exact ⟨by show k / 5 < 8; omega, by show k % 5 < 8; omega, by show k / 5 ≠ k % 5; omega⟩
    · intro e he
      obtain ⟨k, k1, k2, rfl⟩ := JL_mem.mp he
      exact (hP _).mpr ⟨k, k1, sb_tb t1 k2, rfl⟩
    · intro e he
      obtain ⟨k, k1, k2, rfl⟩ := (hP _).mp he
      by_cases hk : t.testBit k = true
      · exact Or.inl (JL_mem.mpr ⟨k, k1, hk, rfl⟩)
      · right
        intro hfree
        -- the set with this link beside
        have hb : ∀ j, (t ||| 2 ^ k).testBit j = (t.testBit j || decide (j = k)) := fun j => by
          rw [Nat.testBit_or, Nat.testBit_two_pow]
          by_cases q : j = k
          · subst q; simp
          · have : ¬ k = j := fun z => q z.symm
            simp [q, this]
        have hsb : (t ||| 2 ^ k) &&& G = t ||| 2 ^ k := sb_of fun j hj => by
          rw [hb] at hj
          simp only [Bool.or_eq_true, decide_eq_true_eq] at hj
          rcases hj with hj | rfl
          · exact sb_tb t1 hj
          · exact k2
        have add : ∀ Q : Nat → Bool, ∀ n, cnt (fun j => (t ||| 2 ^ k).testBit j && Q j) n = cnt (fun j => t.testBit j && Q j) n + if k < n then (Q k).toNat else 0 := by
          intro Q n
          induction n with
          | zero => rfl
          | succ n ih =>
            rw [cnt, cnt, ih, hb]
            by_cases q : n = k
            · subst q
              rw [Bool.eq_false_iff.mpr hk, if_neg (by omega), if_pos (by omega)]
              simp
            · by_cases q2 : k < n
              · rw [if_pos q2, if_pos (by omega)]; simp [q]; omega
              · rw [if_neg q2, if_neg (by omega)]; simp [q]
        have hfr : fr (t ||| 2 ^ k) := by
          rw [← fr_free (sb_trans hsb hG)]
          intro V hV
          have := hfree V hV
          rw [gCn_cons, JL_gCn] at this
          rw [JL_gCn, add (fun j => V (j / 5) && V (j % 5)), if_pos k1]
          have e9 : (V (k / 5) && V (k % 5)).toNat = if (V (k / 5) && V (k % 5)) = true then 1 else 0 := by cases V (k / 5) && V (k % 5) <;> rfl
          show _ + (V (k / 5) && V (k % 5)).toNat + 3 ≤ _
          rw [e9]
          exact this
        have hle := h2 _ hsb hfr
        have hcnt := add (fun _ => true) 25
        simp only [Bool.and_true] at hcnt
        rw [if_pos k1] at hcnt
        have hcnt : cnt (t ||| 2 ^ k).testBit 25 = cnt t.testBit 25 + 1 := hcnt
        omega
  rw [gMax_eq (lP_ok L) hI hJ, JL_len, t3]
end PVF
