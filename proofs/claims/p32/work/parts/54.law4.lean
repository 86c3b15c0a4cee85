section PVE
/-- subsets of bits, one after the other downwards -/
theorem sb_half {s G : Nat} (h : s &&& G = s) : s / 2 &&& G / 2 = s / 2 ∧ s % 2 * (G % 2) = s % 2 := by
  refine ⟨?_, ?_⟩
  · rw [← d_and, h]
  · rw [← m_and, h]
def cp : Nat → Nat → Nat → Nat
  | 0, _, _ => 0
  | n + 1, G, x => if G % 2 = 1 then 2 * cp n (G / 2) (x / 2) + x % 2 else cp n (G / 2) (x / 2)
theorem cp_low : ∀ n G s, 0 < s → s < 2 ^ n → s &&& G = s → cp n G ((s - 1) &&& G) + 1 = cp n G s
  | 0, G, s, h, h', _ => by omega
  | n + 1, G, s, h, h', hs => by
    obtain ⟨h1, h2⟩ := sb_half hs
    have hG : G % 2 = 0 ∨ G % 2 = 1 := by omega
    rw [cp, cp, d_and, m_and]
    by_cases e : s % 2 = 1
    · rcases hG with g | g
      · rw [g, e] at h2; omega
      · rw [if_pos g, if_pos g, show (s - 1) / 2 = s / 2 by omega, show (s - 1) % 2 = 0 by omega, h1, e]; omega
    · have := cp_low n (G / 2) (s / 2) (by omega) (by omega) h1
      rcases hG with g | g
      · rw [if_neg (by omega), if_neg (by omega), show (s - 1) / 2 = s / 2 - 1 by omega]; exact this
      · rw [if_pos g, if_pos g, show (s - 1) / 2 = s / 2 - 1 by omega, show (s - 1) % 2 = 1 by omega, g]; omega
theorem cp_lt : ∀ n G s, cp n G s < 2 ^ cnt G.testBit n
  | 0, G, s => by simp [cp, cnt]
  | n + 1, G, s => by
    have := cp_lt n (G / 2) (s / 2)
    rw [cp, pc_tb]
    by_cases e : G % 2 = 1
    · rw [if_pos e, e, Nat.pow_add]; omega
    · rw [if_neg e, show G % 2 = 0 by omega, Nat.zero_add]; exact this
theorem sb_ord : ∀ n G s t, s < 2 ^ n → s &&& G = s → t &&& G = t → t < s → t ≤ (s - 1) &&& G
  | 0, G, s, t, h, _, _, h' => by omega
  | n + 1, G, s, t, h, hs, ht, h' => by
    obtain ⟨h1, h2⟩ := sb_half hs
    obtain ⟨h3, h4⟩ := sb_half ht
    have x1 := d_and (s - 1) G
    have x2 := m_and (s - 1) G
    have hG : G % 2 = 0 ∨ G % 2 = 1 := by omega
    by_cases e : s % 2 = 1
    · rw [show (s - 1) / 2 = s / 2 by omega, h1] at x1
      omega
    · rw [show (s - 1) / 2 = s / 2 - 1 by omega] at x1
      rw [show (s - 1) % 2 = 1 by omega, Nat.one_mul] at x2
      have := sb_ord n (G / 2) (s / 2) (t / 2) (by omega) h1 h3 (by omega)
      rcases hG with g | g
      · rw [g, Nat.mul_zero] at h4; omega
      · omega
theorem sb_and (s G : Nat) : (s &&& G) &&& G = s &&& G := by rw [Nat.and_assoc, Nat.and_self]
theorem sb_tb {s G : Nat} (h : s &&& G = s) {j : Nat} (hj : s.testBit j = true) : G.testBit j = true := by
  rw [← h, Nat.testBit_and] at hj
  simp only [Bool.and_eq_true] at hj
  exact hj.2
theorem sb_of {s G : Nat} (h : ∀ j, s.testBit j = true → G.testBit j = true) : s &&& G = s := by
  apply Nat.eq_of_testBit_eq
  intro j
  rw [Nat.testBit_and]
  cases e : s.testBit j
  · rfl
  · rw [h j e]; rfl
theorem sb_le {s G : Nat} (h : s &&& G = s) : s ≤ G := by rw [← h]; exact Nat.and_le_right
/-- the pairs' places -/
def FU5 : Nat := msk (fun b => decide (b / 5 < b % 5)) 25
theorem FU5_tb {j : Nat} (h : FU5.testBit j = true) : j / 5 < j % 5 ∧ j < 25 := by
  unfold FU5 at h
  rw [msk_tb] at h
  simp only [Bool.and_eq_true, decide_eq_true_eq] at h
  omega
theorem FU5_ten : cnt FU5.testBit 25 = 10 := by decide +kernel
theorem LK_FU (τ : fm_S) (c : Nat) : LK τ c &&& FU5 = LK τ c := sb_of fun j hj => by
  unfold LK at hj
  rw [msk_tb] at hj
  unfold FU5
  rw [msk_tb]
  simp only [lq, Bool.and_eq_true] at hj ⊢
  exact ⟨hj.1, hj.2.1.1⟩
theorem sb_trans {a b c : Nat} (h : a &&& b = a) (h' : b &&& c = b) : a &&& c = a := by rw [← h, Nat.and_assoc, h']
theorem ten {G : Nat} (h : G &&& FU5 = G) : cnt G.testBit 25 ≤ 10 := by
  rw [← FU5_ten]
  exact cnt_sup (fun j hj => sb_tb h hj) 25
theorem lt25 {G : Nat} (h : G &&& FU5 = G) : G < 2 ^ 25 := Nat.lt_of_le_of_lt (sb_le h) (msk_lt _ _)
-- free sets
def kn (s V : Nat) : Nat → Nat := cnt (fun k => s.testBit k && (V.testBit (k / 5) && V.testBit (k % 5)))
def fr (s : Nat) : Prop := ∀ V, 3 ≤ V → V < 32 → 1 < cnt V.testBit 5 → kn s V 25 + 3 ≤ 2 * cnt V.testBit 5
theorem k_within5 {s V : Nat} (hs : s < 2 ^ 25) (hV : V < 32) : mL_isFree_L12 fG (nI s) (nI V) 0 0 = some (nI (kn s V 25)) := by
  obtain ⟨t, e1, e2⟩ := lpU (fun n x3 (a : Int32) => mL_isFree_L12 n (nI s) (nI V) a x3) 25 (fun k a => a = nI (kn s V k)) (fun t => t = nI (kn s V 25))
    (fun n a ha => ⟨a, by simp only [mL_isFree_L12]; rw [if_pos (by decide)], ha⟩)
    (fun n k a hk ha => by
      refine ⟨nI (kn s V (k + 1)), ?_, rfl⟩
      have v1 : V / 2 ^ (k / 5) < 2 ^ 31 := Nat.lt_of_le_of_lt (Nat.div_le_self _ _) (by omega)
      have v2 : V / 2 ^ (k % 5) < 2 ^ 31 := Nat.lt_of_le_of_lt (Nat.div_le_self _ _) (by omega)
      have hb2 : (nI V >>> (nI (k / 5) &&& 31)) &&& (nI V >>> (nI (k % 5) &&& 31)) &&& (1 : Int32) = if (V.testBit (k / 5) && V.testBit (k % 5)) then 1 else 0 := by
        rw [b_shr (by omega) (by omega), b_shr (by omega) (by omega), b_and v1 v2, b_and1 (Nat.and_lt_two_pow _ v2), m_and, b_tb, b_tb]
        have a1 : V / 2 ^ (k / 5) % 2 = 0 ∨ V / 2 ^ (k / 5) % 2 = 1 := by omega
        have a2 : V / 2 ^ (k % 5) % 2 = 0 ∨ V / 2 ^ (k % 5) % 2 = 1 := by omega
        rcases a1 with a1 | a1 <;> rcases a2 with a2 | a2 <;> rw [a1, a2] <;> rfl
      simp only [mL_isFree_L12]
      rw [if_neg (show ¬ (25 : Int32) ≤ nI k from nI_ge (b := 25) hk (by decide)), ha, b_bit (by omega) (by omega), (n5d k hk).2, (n5d k hk).1, hb2, nI_1, kn, cnt, ← kn]
      by_cases e1 : s.testBit k = true
      · rw [if_pos e1, if_pos rfl, e1, Bool.true_and]
        by_cases e2 : (V.testBit (k / 5) && V.testBit (k % 5)) = true
        · rw [if_pos e2, if_pos rfl, b1s, e2, b1s, nI_1]; rfl
        · rw [if_neg e2, if_neg (by decide), b1s, Bool.eq_false_iff.mpr e2, b1s, show (0 : Int32) = nI 0 from rfl, nI_add]; rfl
      · rw [if_neg e1, if_neg (by decide), b1s, Bool.eq_false_iff.mpr e1, Bool.false_and, b1s, show (0 : Int32) = nI 0 from rfl, nI_add]; rfl)
    fG 0 0 (Nat.zero_le _) (by unfold fG; omega) rfl
  have e1 : mL_isFree_L12 fG (nI s) (nI V) 0 0 = some t := e1
  rw [e1, e2]
theorem k_isFree5 {s : Nat} (hs : s < 2 ^ 25) : ∃ b : Bool, mL_isFree (nI s) = some (bI b) ∧ (b = true ↔ fr s) := by
  obtain ⟨t, e1, e2⟩ := lpE (fun n x1 (_ : Unit) => mL_isFree_L2 n (nI s) x1) 32 (fun i _ => ∀ V, 3 ≤ V → V < i → 1 < cnt V.testBit 5 → kn s V 25 + 3 ≤ 2 * cnt V.testBit 5) (fun t => (t = .ok () ∧ fr s) ∨ (t = .error 0 ∧ ¬ fr s))
    (fun n _ hP => ⟨.ok (), by simp only [mL_isFree_L2]; rw [if_pos (by decide)], Or.inl ⟨rfl, hP⟩⟩)
    (fun n i _ hi hP => by
      have hc5 := cnt_le i.testBit 5
      have hk5 := cnt_le (fun k => s.testBit k && (i.testBit (k / 5) && i.testBit (k % 5))) 25
      have hk6 : kn s i 25 ≤ 25 := hk5
      have next : (∀ V, 3 ≤ V → V < i + 1 → 1 < cnt V.testBit 5 → kn s V 25 + 3 ≤ 2 * cnt V.testBit 5) ∨ ¬ fr s ∧ 1 < cnt i.testBit 5 ∧ ¬ kn s i 25 + 3 ≤ 2 * cnt i.testBit 5 ∧ 3 ≤ i := by
        by_cases q : 3 ≤ i ∧ 1 < cnt i.testBit 5 ∧ ¬ kn s i 25 + 3 ≤ 2 * cnt i.testBit 5
        · right
          exact ⟨fun hf => q.2.2 (hf i q.1 hi q.2.1), q.2.1, q.2.2, q.1⟩
        · left
          intro V h3 hV h1
          by_cases e : V = i
          · subst e
            apply Classical.byContradiction
            intro hn
            exact q ⟨h3, h1, hn⟩
          · exact hP V h3 (by omega) h1
      simp only [mL_isFree_L2]
      rw [if_neg (show ¬ (32 : Int32) ≤ nI i from nI_ge (b := 32) hi (by decide)), k_within5 hs hi, b1s, k_ones (n := 5) (by omega) (by decide), b1s]
      by_cases h1 : 1 < cnt i.testBit 5
      · rw [if_neg (show ¬ nI (cnt i.testBit 5) ≤ (1 : Int32) from nI_ge (a := 1) h1 (by omega)), b1s]
        have e3 : (2 : Int32) * nI (cnt i.testBit 5) - (3 : Int32) = nI (2 * cnt i.testBit 5 - 3) := by
          rw [show (2 : Int32) = nI 2 from rfl, pk_mul, show (3 : Int32) = nI 3 from rfl, pk_sub (by omega)]
        rw [e3]
        rcases next with hn | ⟨hf, -, hk, -⟩
        · by_cases hk : kn s i 25 ≤ 2 * cnt i.testBit 5 - 3
          · rw [if_pos (nI_le hk (by omega)), nI_1]
            exact Or.inl ⟨(), rfl, hn⟩
          · rw [if_neg (nI_ge (by omega) (by omega))]
            right
            refine ⟨_, rfl, Or.inr ⟨rfl, fun hf => ?_⟩⟩
            have h3 : 3 ≤ i := by
              have hd : ∀ i, i < 3 → cnt i.testBit 5 ≤ 1 := by decide
              apply Classical.byContradiction; intro hn3
              have := hd i (by omega); omega
            have := hf i h3 hi h1
            omega
        · rw [if_neg (nI_ge (by omega) (by omega))]
          exact Or.inr ⟨_, rfl, Or.inr ⟨rfl, hf⟩⟩
      · rw [if_pos (show nI (cnt i.testBit 5) ≤ (1 : Int32) from nI_le (b := 1) (by omega) (by decide)), nI_1]
        left
        refine ⟨(), rfl, ?_⟩
        rcases next with hn | ⟨-, h2, -⟩
        · exact hn
        · exact absurd h2 h1)
    fG 3 () (by decide) (by unfold fG; omega) (fun V h h' => absurd h' (by omega))
  have e1 : mL_isFree_L2 fG (nI s) (3 : Int32) = some t := e1
  rcases e2 with ⟨rfl, hf⟩ | ⟨rfl, hf⟩
  · exact ⟨true, by rw [mL_isFree, e1]; rfl, by simp [hf]⟩
  · exact ⟨false, by rw [mL_isFree, e1]; rfl, by simp [hf]⟩
end PVE
