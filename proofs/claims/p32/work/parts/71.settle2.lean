section PVY
/-- how far the law's sum for a member has come -/
def pt (c k i : Nat) : Nat := if i < k / c then c else if i = k / c then k % c else 0
theorem pt_step {c k : Nat} (hc : 0 < c) (i : Nat) : pt c (k + 1) i = if i = k / c then k % c + 1 else pt c k i := by
  have hm := Nat.mod_lt k hc
  have hdm := Nat.div_add_mod k c
  unfold pt
  by_cases e : k % c + 1 = c
  · have e1 : (k + 1) / c = k / c + 1 := by
      have h1 : k + 1 = c * (k / c + 1) := by rw [Nat.mul_add, Nat.mul_one]; omega
      rw [h1]; exact Nat.mul_div_cancel_left _ hc
    have e2 : (k + 1) % c = 0 := by
      have h1 : k + 1 = c * (k / c + 1) := by rw [Nat.mul_add, Nat.mul_one]; omega
      rw [h1]; exact Nat.mul_mod_right _ _
    rw [e1, e2]
    by_cases h : i = k / c
    · rw [if_pos h, if_pos (by omega)]; omega
    · rw [if_neg h]
      by_cases h2 : i < k / c
      · rw [if_pos h2, if_pos (by omega)]
      · rw [if_neg h2, if_neg (by omega), if_neg h]; split <;> rfl
  · have e1 : (k + 1) / c = k / c := by
      have h1 : k + 1 = (k % c + 1) + c * (k / c) := by omega
      have : ((k % c + 1) + c * (k / c)) / c = (k % c + 1) / c + k / c := Nat.add_mul_div_left _ _ hc
      rw [← h1, Nat.div_eq_of_lt (show k % c + 1 < c by omega)] at this
      omega
    have e2 : (k + 1) % c = k % c + 1 := by
      have h1 : k + 1 = (k % c + 1) + c * (k / c) := by omega
      have : ((k % c + 1) + c * (k / c)) % c = (k % c + 1) % c := Nat.add_mul_mod_self_left _ _ _
      rw [← h1, Nat.mod_eq_of_lt (show k % c + 1 < c by omega)] at this
      exact this
    rw [e1, e2]
    by_cases h : i = k / c
    · rw [if_pos h, if_neg (by omega), if_pos h]
    · rw [if_neg h]
      by_cases h2 : i < k / c
      · rw [if_pos h2, if_neg h, if_pos h2]
      · rw [if_neg h2, if_neg h2, if_neg h, if_neg h]
theorem k_pushL {σ τ : fm_S} {c : Nat} (hw : WF τ c) (hg : GE σ τ c) (hl : LW σ τ) (hn : NP τ c) (h0 : 0 < c) : ∃ s, mL_settle_L8 fG 0 (fm_zl σ 45) = some s ∧ s.1 = σ.1 ∧ ∀ i, i < c → s.2 45 i = smq τ 1 i c ∧ s.2 45 (8 + i) = smq τ 2 i c := by
  have hc := hg.1
  have hcc : c * c ≤ 25 := Nat.mul_le_mul hc hc
  have m2 : nI c * nI c = nI (c * c) := pk_mul c c
  obtain ⟨s, e1, q1, q2⟩ := lpU (fun n x4 (s : fm_S) => mL_settle_L8 n x4 s) (c * c)
    (fun k s => s.1 = σ.1 ∧ ∀ i, i < c → s.2 45 i = smq τ 1 i (pt c k i) ∧ s.2 45 (8 + i) = smq τ 2 i (pt c k i))
    (fun s => s.1 = σ.1 ∧ ∀ i, i < c → s.2 45 i = smq τ 1 i (pt c (c * c) i) ∧ s.2 45 (8 + i) = smq τ 2 i (pt c (c * c) i))
    (fun n s hs => ⟨s, by
      have m40 : s.1 40 40 = nI c := by rw [hs.1]; exact hg.2.1
      simp only [mL_settle_L8, c40, if_false, r40, m40, m2]
      rw [if_pos (nI_le (Nat.le_refl _) (by omega))], hs⟩)
    (fun n k s hk hs => by
      obtain ⟨h1, h2⟩ := hs
      have m40 : s.1 40 40 = nI c := by rw [h1]; exact hg.2.1
      have hgs : GE s τ c := hg.of (fun b _ => by rw [h1]) (fun b => by rw [h1]) (fun _ _ _ => Eq.refl _)
      obtain ⟨i, hi⟩ : ∃ i, i = k / c := ⟨_, rfl⟩
      obtain ⟨j, hj⟩ : ∃ j, j = k % c := ⟨_, rfl⟩
      have ic : i < c := by rw [hi]; exact Nat.div_lt_of_lt_mul hk
      have jc : j < c := by rw [hj]; exact Nat.mod_lt _ h0
      have ptk : pt c k i = j := by unfold pt; rw [← hi, if_neg (by omega), if_pos rfl, hj]
      have step : ∀ x, pt c (k + 1) x = if x = i then j + 1 else pt c k x := fun x => by rw [pt_step h0, ← hi, ← hj]
      have skip : ex τ i j = 0 → ∀ x, x < c → s.2 45 x = smq τ 1 x (pt c (k + 1) x) ∧ s.2 45 (8 + x) = smq τ 2 x (pt c (k + 1) x) := fun he x hx => by
        rw [step]
        by_cases e : x = i
        · subst e
          rw [if_pos rfl, smq, smq, he, show ((0 : Int32).toInt64) = 0 from rfl, Int64.zero_mul, Int64.zero_mul, Int64.add_zero, Int64.add_zero, ← ptk]
          exact h2 x hx
        · rw [if_neg e]; exact h2 x hx
      have d1 : nI k / nI c = nI i := by rw [hi]; exact pk_div (by omega) h0 (by omega)
      have d2 : nI k - nI i * nI c = nI j := by rw [hj, ← d1]; exact pk_rem (by omega) h0 (by omega)
      have hb : ((nI (hm τ c i) >>> (nI j &&& 31)) &&& (1 : Int32)) = if lk τ i j then 1 else 0 := by
        rw [b_bit (Nat.lt_trans (hm_lt hc _) (by decide)) (by omega), hm_tb]; simp [jc]
      cases hlk : lk τ i j
      · refine ⟨s, ?_, h1, skip (by unfold ex; rw [hlk]; rfl)⟩
        simp only [mL_settle_L8, c40, if_false, r40, m40, m2]
        rw [if_neg (nI_ge hk (by omega)), if_neg (nI_ne0 h0 (by omega)), d1, b1s, d2, b1s, k_heard hw hgs ic, b1s, hb, hlk, if_neg (show ¬ (if false = true then (1 : Int32) else 0) = 1 by decide), nI_1]
      · have hij : i ≠ j := (lk_lt hw (by omega) (by omega) hlk).2.2
        have hpr := pr_lt i (by omega) j (by omega)
        have w42 : s.1 42 (pr i j) = if τ.1 (10 + i) j = -1 then 0 else τ.1 (10 + i) j := by rw [h1]; exact hl.at hw (by omega) (by omega) hij
        rcases hn.2 i j (by omega) (by omega) with e | ⟨q, z1, z2, e⟩
        · refine ⟨s, ?_, h1, skip (by unfold ex; rw [hlk, if_pos rfl, if_pos e])⟩
          simp only [mL_settle_L8, c40, if_false, r40, m40, m2]
          rw [if_neg (nI_ge hk (by omega)), if_neg (nI_ne0 h0 (by omega)), d1, b1s, d2, b1s, k_heard hw hgs ic, b1s, hb, hlk, if_pos (show (if true = true then (1 : Int32) else 0) = 1 by decide), k_pair i (by omega) j (by omega), b1s]
          simp only [chk8 hpr (by decide), if_false]
          rw [rIn _ _ (by omega), w42, if_pos e, if_pos (by decide), nI_1]
        · have ne : ¬ nI q = -1 := fun w => by
            have := congrArg Int32.toInt w
            rw [nI_toInt (by omega)] at this
            have h2 : (-1 : Int32).toInt = -1 := by decide
            omega
          have hex : ex τ i j = sq τ i j - nI q := by unfold ex; rw [hlk, if_pos rfl, e, if_neg ne]
          obtain ⟨a1, a2, -⟩ := hgs.2.2.2.1 i ic
          obtain ⟨b1, b2, -⟩ := hgs.2.2.2.1 j jc
          obtain ⟨g1, g2⟩ := h2 i ic
          rw [ptk] at g1 g2
          refine ⟨fm_wl (fm_wl s 45 i (smq τ 1 i (j + 1))) 45 (8 + i) (smq τ 2 i (j + 1)), ?_, h1, fun x hx => ?_⟩
          · simp only [mL_settle_L8, c40, if_false, r40, m40, m2]
            rw [if_neg (nI_ge hk (by omega)), if_neg (nI_ne0 h0 (by omega)), d1, b1s, d2, b1s, k_heard hw hgs ic, b1s, hb, hlk, if_pos (show (if true = true then (1 : Int32) else 0) = 1 by decide), k_pair i (by omega) j (by omega), b1s]
            have o8 : (8 : Int32) + nI i = nI (8 + i) := nI_add 8 i
            simp only [ix8', o8_1, o8, chk8 hpr (by decide), chk8 (show i < 16 by omega) (by decide), chk8 (show 8 + i < 16 by omega) (by decide), chk8 (show 8 * i < 48 by omega) (by decide), chk8 (show 8 * j < 48 by omega) (by decide), chk8 (show 8 * i + 1 < 48 by omega) (by decide), chk8 (show 8 * j + 1 < 48 by omega) (by decide), if_false, rIn _ _ (show pr i j < 2 ^ 31 by omega), rIn _ _ (show 8 * i < 2 ^ 31 by omega), rIn _ _ (show 8 * j < 2 ^ 31 by omega), rIn _ _ (show 8 * i + 1 < 2 ^ 31 by omega), rIn _ _ (show 8 * j + 1 < 2 ^ 31 by omega), rLn _ _ (show i < 2 ^ 31 by omega), rLn _ _ (show 8 + i < 2 ^ 31 by omega), sLn _ _ _ (show i < 2 ^ 31 by omega), sLn _ _ _ (show 8 + i < 2 ^ 31 by omega), wl1, w42, a1, a2, b1, b2]
            rw [e, if_neg ne, if_neg (show ¬ nI q ≤ 0 from nI_ge (a := 0) (by omega) (by omega)), k_squareL hgs ic jc, b1s, b1s]
            simp only [chk8 hpr (by decide), if_false, rIn _ _ (show pr i j < 2 ^ 31 by omega), w42]
            rw [b1s, b1s, b1s, e, if_neg ne]
            rw [wlN _ _ (by omega), g1, g2, smq, smq, hex, wl1, a2, b2]
          · rw [step]
            by_cases ex' : x = i
            · subst ex'
              rw [if_pos rfl]
              exact ⟨by rw [wlN _ _ (by omega), wlS], wlS _ _ _ _⟩
            · rw [if_neg ex', wlN _ _ (by omega), wlN _ _ (by omega), wlN _ _ (by omega), wlN _ _ (by omega)]
              exact h2 x hx)
    fG 0 (fm_zl σ 45) (Nat.zero_le _) (by unfold fG; omega) ⟨rfl, fun i hi => by
      have : pt c 0 i = 0 := by
        unfold pt
        rw [Nat.zero_div, Nat.zero_mod]; split
        · omega
        · split <;> rfl
      rw [this]
      exact ⟨by simp [fm_zl, smq], by simp [fm_zl, smq]⟩⟩
  have e1 : mL_settle_L8 fG 0 (fm_zl σ 45) = some s := e1
  refine ⟨s, e1, q1, fun i hi => ?_⟩
  have := q2 i hi
  have hp : pt c (c * c) i = c := by unfold pt; rw [Nat.mul_div_cancel_left _ h0, if_pos hi]
  rw [hp] at this
  exact this
def setE (σ σ' : fm_S) : Prop := ∀ a b, ¬ (a = 40 ∧ b < 40 ∧ b % 8 ≤ 1) → σ'.1 a b = σ.1 a b
theorem k_settleL {σ τ : fm_S} {c : Nat} (hw : WF τ c) (hg : GE σ τ c) (hl : LW σ τ) (hn : NP τ c) (h0 : 0 < c) : ∃ σ', mL_settle σ = some σ' ∧ setE σ σ' ∧ ∀ i, i < c → σ'.1 40 (8 * i) = nw τ c 1 i ∧ σ'.1 40 (8 * i + 1) = nw τ c 2 i := by
  have hc := hg.1
  obtain ⟨s1, e1, p1, p2⟩ := k_pushL hw hg hl hn h0
  obtain ⟨s2, e2, q1, q2, q3, q4⟩ := lpU (fun n x4 (s : fm_S) => mL_settle_L157 n x4 s) c
    (fun i s => setE σ s ∧ s.2 = s1.2 ∧ (∀ x, x < i → s.1 40 (8 * x) = nw τ c 1 x ∧ s.1 40 (8 * x + 1) = nw τ c 2 x) ∧ ∀ x, i ≤ x → x < c → s.1 40 (8 * x) = τ.1 1 x ∧ s.1 40 (8 * x + 1) = τ.1 2 x)
    (fun s => setE σ s ∧ s.2 = s1.2 ∧ (∀ x, x < c → s.1 40 (8 * x) = nw τ c 1 x ∧ s.1 40 (8 * x + 1) = nw τ c 2 x) ∧ ∀ x, c ≤ x → x < c → s.1 40 (8 * x) = τ.1 1 x ∧ s.1 40 (8 * x + 1) = τ.1 2 x)
    (fun n s hs => ⟨s, by
      have m40 : s.1 40 40 = nI c := (hs.1 40 40 (by omega)).trans hg.2.1
      simp only [mL_settle_L157, c40, if_false, r40, m40]
      rw [if_pos (nI_le (Nat.le_refl _) (by omega))], hs⟩)
    (fun n i s hi hs => by
      obtain ⟨h1, h2, h3, h4⟩ := hs
      have m40 : s.1 40 40 = nI c := (h1 40 40 (by omega)).trans hg.2.1
      obtain ⟨a1, a2⟩ := h4 i (Nat.le_refl _) hi
      obtain ⟨b1, b2⟩ := p2 i hi
      have o8 : (8 : Int32) + nI i = nI (8 + i) := nI_add 8 i
      refine ⟨fm_wr (fm_wr s 40 (8 * i) (nw τ c 1 i)) 40 (8 * i + 1) (nw τ c 2 i), ?_, fun a b h => ?_, h2, fun x hx => ?_, fun x hx1 hx2 => ?_⟩
      · simp only [mL_settle_L157, c40, if_false, r40, m40]
        rw [if_neg (nI_ge hi (by omega))]
        simp only [ix8', o8_1, o8, chk8 (show i < 16 by omega) (by decide), chk8 (show 8 + i < 16 by omega) (by decide), chk8 (show 8 * i < 48 by omega) (by decide), chk8 (show 8 * i + 1 < 48 by omega) (by decide), if_false, rIn _ _ (show 8 * i < 2 ^ 31 by omega), rLn _ _ (show i < 2 ^ 31 by omega), sIn _ _ _ (show 8 * i < 2 ^ 31 by omega), h2, a1, b1]
        rw [(k_nw hn hc (Or.inl rfl) hi).1, b1s, b1s]
        simp only [rIn _ _ (show 8 * i + 1 < 2 ^ 31 by omega), rLn _ _ (show 8 + i < 2 ^ 31 by omega), sIn _ _ _ (show 8 * i + 1 < 2 ^ 31 by omega)]
        rw [wrN _ _ (show (40 : Nat) ≠ 40 ∨ 8 * i + 1 ≠ 8 * i by omega), a2, show (fm_wr s 40 (8 * i) (nw τ c 1 i)).2 = s1.2 from h2, b2, (k_nw hn hc (Or.inr rfl) hi).1, b1s, b1s]
      · rw [wrN _ _ (by omega), wrN _ _ (by omega)]; exact h1 a b h
      · by_cases e : x = i
        · subst e; exact ⟨by rw [wrN _ _ (by omega), wrS], wrS _ _ _ _⟩
        · rw [wrN _ _ (by omega), wrN _ _ (by omega), wrN _ _ (by omega), wrN _ _ (by omega)]; exact h3 x (by omega)
      · rw [wrN _ _ (by omega), wrN _ _ (by omega), wrN _ _ (by omega), wrN _ _ (by omega)]; exact h4 x (by omega) hx2)
    fG 0 s1 (Nat.zero_le _) (by unfold fG; omega) ⟨fun a b _ => by rw [p1], rfl, fun x hx => absurd hx (by omega), fun x _ hx => by rw [p1]; exact ⟨(hg.2.2.2.1 x hx).1, (hg.2.2.2.1 x hx).2.1⟩⟩
  have e2 : mL_settle_L157 fG 0 s1 = some s2 := e2
  exact ⟨s2, by rw [mL_settle, e1, b1s, e2, b1s], q1, q3⟩
end PVY
