section PVO
/-- the law's picture of the numbers -/
def LR (σ τ : fm_S) (c : Nat) : Prop := ∀ i, i < c → σ.1 40 (8 * i + 3) = τ.1 4 i ∧ σ.1 40 (8 * i + 4) = τ.1 5 i ∧ σ.1 40 (8 * i + 5) = τ.1 6 i ∧ σ.1 40 (8 * i + 6) = τ.1 7 i ∧ σ.1 40 (8 * i + 7) = τ.1 8 i + 1
theorem scr_lr {τ τ1 : fm_S} {c : Nat} (h : scr τ τ1) (hg : LR τ τ c) : LR τ1 τ1 c := fun i hi => by
  obtain ⟨a1, a2, a3, a4, a5⟩ := hg i hi
  rw [h 40 _ (by omega), h 40 _ (by omega), h 40 _ (by omega), h 40 _ (by omega), h 40 _ (by omega), h 4 _ (by omega), h 5 _ (by omega), h 6 _ (by omega), h 7 _ (by omega), h 8 _ (by omega)]
  exact ⟨a1, a2, a3, a4, a5⟩
/-- the leader so far -/
def LD (y : Nat) (p : Nat → Int32) (j : Nat) (a : Int32) : Prop := (a = -1 ∧ ∀ i, i < j → y.testBit i = false) ∨ ∃ q, q < j ∧ a = nI q ∧ y.testBit q = true ∧ ∀ i, i < j → y.testBit i = true → p i < p q ∨ (p i = p q ∧ q ≤ i)
theorem LD_s {σ : fm_S} {y : Nat} (hy : y < 2 ^ 5) {p : Nat → Int32} {j c : Nat} (hj : j < c) (hc : c ≤ 5) (hp : ∀ i, i < c → σ.1 40 (8 * i + 3) = p i) {a : Int32} (h : LD y p j a) : ∃ a', (if ((nI y >>> (nI j &&& 31)) &&& (1 : Int32)) = (1 : Int32) then if a < 0 then some (nI j) else
      if ((((8 : Int32) * nI j) + (3 : Int32)) < 0 ∨ 48 ≤ (((8 : Int32) * nI j) + (3 : Int32)).toNatClampNeg) then none else
      if ((((8 : Int32) * a) + (3 : Int32)) < 0 ∨ 48 ≤ (((8 : Int32) * a) + (3 : Int32)).toNatClampNeg) then none else
      if (rI σ 40 (((8 : Int32) * nI j) + (3 : Int32))) ≤ (rI σ 40 (((8 : Int32) * a) + (3 : Int32))) then some a else some (nI j) else some a) = some a' ∧ LD y p (j + 1) a' := by
  rw [b_bit (by omega) (by omega)]
  by_cases hb : y.testBit j = true
  · rw [if_pos ((i01 _).mpr hb)]
    rcases h with ⟨rfl, h⟩ | ⟨q, q1, rfl, q3, q4⟩
    · rw [if_pos (by decide)]
      refine ⟨nI j, rfl, Or.inr ⟨j, by omega, rfl, hb, fun i hi hbi => ?_⟩⟩
      by_cases e : i = j
      · subst e; exact Or.inr ⟨rfl, Nat.le_refl _⟩
      · rw [h i (by omega)] at hbi; cases hbi
    · rw [if_neg (nI_pos (by omega))]
      simp only [ix8', o8_3, chk8 (show 8 * j + 3 < 48 by omega) (by decide), chk8 (show 8 * q + 3 < 48 by omega) (by decide), if_false, rIn _ _ (show 8 * j + 3 < 2 ^ 31 by omega), rIn _ _ (show 8 * q + 3 < 2 ^ 31 by omega)]
      rw [hp j hj, hp q (by omega)]
      by_cases hle : p j ≤ p q
      · rw [if_pos hle]
        refine ⟨nI q, rfl, Or.inr ⟨q, by omega, rfl, q3, fun i hi hbi => ?_⟩⟩
        by_cases e : i = j
        · subst e
          by_cases e2 : p i = p q
          · exact Or.inr ⟨e2, by omega⟩
          · exact Or.inl (Int32.lt_of_le_of_ne hle e2)
        · exact q4 i (by omega) hbi
      · rw [if_neg hle]
        have hlt : p q < p j := Int32.not_le.mp hle
        refine ⟨nI j, rfl, Or.inr ⟨j, by omega, rfl, hb, fun i hi hbi => ?_⟩⟩
        by_cases e : i = j
        · subst e; exact Or.inr ⟨rfl, Nat.le_refl _⟩
        · rcases q4 i (by omega) hbi with w | ⟨w, -⟩
          · exact Or.inl (Int32.lt_trans w hlt)
          · rw [w]; exact Or.inl hlt
  · rw [if_neg (fun q => hb ((i01 _).mp q))]
    refine ⟨a, rfl, ?_⟩
    rcases h with ⟨rfl, h⟩ | ⟨q, q1, rfl, q3, q4⟩
    · refine Or.inl ⟨rfl, fun i hi => ?_⟩
      by_cases e : i = j
      · subst e; exact Bool.eq_false_iff.mpr hb
      · exact h i (by omega)
    · refine Or.inr ⟨q, by omega, rfl, q3, fun i hi hbi => ?_⟩
      by_cases e : i = j
      · subst e; exact absurd hbi hb
      · exact q4 i (by omega) hbi
theorem k_inL {τ : fm_S} {c : Nat} (hw : WF τ c) (hg : GE τ τ c) (hl : LR τ τ c) {k y : Nat} (hk : k < c) (hy : y < 2 ^ 5) {s0 : fm_S} (h0 : scr τ s0) : ∃ a s', mL_isLinked_L127 fG 1 (nI k) (nI (hm τ c k)) (-1) (nI y) 0 s0 = some (1, a, s') ∧ scr τ s' ∧ LD y (τ.1 4) c a := by
  have hc := hg.1
  have hh := hm_lt (τ := τ) hc k
  obtain ⟨t, e1, a, s', e2, e3, e4⟩ := lpU (fun n x10 (st : Int32 × fm_S) => mL_isLinked_L127 n 1 (nI k) (nI (hm τ c k)) st.1 (nI y) x10 st.2) c (fun j st => scr τ st.2 ∧ LD y (τ.1 4) j st.1) (fun t => ∃ a s', t = (1, a, s') ∧ scr τ s' ∧ LD y (τ.1 4) c a)
    (fun n st hP => ⟨(1, st.1, st.2), by
      have m40 : st.2.1 40 40 = nI c := (hP.1 40 40 (by omega)).trans hg.2.1
      simp only [mL_isLinked_L127, c40, if_false, r40, m40]
      rw [if_pos (nI_le (Nat.le_refl _) (by omega))], st.1, st.2, rfl, hP.1, hP.2⟩)
    (fun n j st hj hP => by
      obtain ⟨a, s⟩ := st
      obtain ⟨p1, p2⟩ := hP
      have m40 : s.1 40 40 = nI c := (p1 40 40 (by omega)).trans hg.2.1
      obtain ⟨a', f1, f2⟩ := LD_s (σ := s) hy hj hc (fun i hi => by rw [p1 40 _ (by omega)]; exact (hl i hi).1) p2
      refine ⟨(a', s), ?_, p1, f2⟩
      simp only [mL_isLinked_L127, c40, if_false, r40, m40]
      rw [if_neg (nI_ge hj (by omega)), f1, b1s, if_neg (show ¬ (1 : Int32) = 0 by decide), k_areLinkedC (p1.wf hw) hk hj, b2s, b_bit (by omega) (by omega), hm_tb, scr_lk p1, nI_1]
      have hjc : decide (j < c) = true := by simp [hj]
      rw [hjc, Bool.true_and]
      cases lk τ k j
      · rw [if_neg (show ¬ (if false = true then (1 : Int32) else 0) = 1 by decide), b1s, if_pos (show (if false = true then (1 : Int32) else 0) = 0 by decide)]
      · rw [if_pos (show (if true = true then (1 : Int32) else 0) = 1 by decide), b1s, if_pos (show (if true = true then (1 : Int32) else 0) = 1 by decide)])
    fG 0 (-1, s0) (Nat.zero_le _) (by unfold fG; omega) ⟨h0, Or.inl ⟨rfl, fun i hi => absurd hi (by omega)⟩⟩
  subst e2
  exact ⟨a, s', e1, e3, e4⟩
theorem low_bits {y k : Nat} : y % 2 ^ k = 0 ↔ ∀ b, b < k → y.testBit b = false := by
  constructor
  · intro h b hb
    have := Nat.testBit_mod_two_pow y k b
    rw [h, Nat.zero_testBit] at this
    simpa [hb] using this.symm
  · intro h
    apply Nat.eq_of_testBit_eq
    intro b
    rw [Nat.testBit_mod_two_pow, Nat.zero_testBit]
    by_cases hb : b < k
    · rw [h b hb]; simp
    · simp [hb]
theorem b3s {α β δ γ : Type} {a : α} {b : β} {d : δ} {f : α → β → δ → Option γ} : mb3 (some (a, b, d)) f = f a b d := rfl
/-- the group that the law takes: none of one that is down -/
def gy (τ : fm_S) (c k : Nat) : Nat := if up τ k then gN (LK τ c) k else 0
theorem gy_lt {τ : fm_S} {c k : Nat} (hk : k < 5) : gy τ c k < 2 ^ 5 := by
  unfold gy; split
  · exact gN_lt _ hk
  · decide
theorem k_linkedStep {τ : fm_S} {c : Nat} (hw : WF τ c) (hg : GE τ τ c) (hl : LR τ τ c) {k : Nat} (hk : k < c) {s : fm_S} (hs : scr τ s) (n : Nat) : ∃ s', mL_isLinked_L41 (n + 1) (nI (LK τ c)) (gc τ k) 1 (nI k) s = mL_isLinked_L41 n (nI (LK τ c)) (gc τ (k + 1)) 1 (nI (k + 1)) s' ∧ scr τ s' := by
  have hc := hg.1
  have hws := hs.wf hw
  have hgs := scr_ge2 hs hg
  have m40 : s.1 40 40 = nI c := hgs.2.1
  have hLK := LK_lt τ c
  have hgl := gy_lt (τ := τ) (c := c) (k := k) (by omega)
  obtain ⟨-, -, d3⟩ := hgs.2.2.2.1 k hk
  have d3 : s.1 40 (8 * k + 2) = if τ.1 3 k = 0 then 1 else 0 := by rw [d3, hs 3 k (by omega)]
  have hm' : hm s c k = hm τ c k := msk_congr c (fun b _ => by rw [scr_lk hs])
  have hv6 : (if rI s 40 (((8 : Int32) * nI k) + (2 : Int32)) = (1 : Int32) then some (0 : Int32) else mb1 (mL_group (nI (LK τ c)) (nI k)) fun r87 => some r87) = some (nI (gy τ c k)) := by
    rw [ix8', o8_2, rIn _ _ (by omega), d3]
    unfold gy up
    by_cases e : τ.1 3 k = 0
    · rw [if_pos e, if_pos rfl]; simp [e]; rfl
    · rw [if_neg e, if_neg (by decide), k_groupL (by omega) (by omega), b1s]; simp [e]
  have hv8 : (if rI s 40 (((8 : Int32) * nI k) + (2 : Int32)) = 0 then if ((1 : Int32) <<< (nI k &&& 31)) = 0 then none else if (nI (gy τ c k) - nI (gy τ c k) / ((1 : Int32) <<< (nI k &&& 31)) * ((1 : Int32) <<< (nI k &&& 31))) = 0 then some (1 : Int32) else some (0 : Int32) else some (0 : Int32)) = some (gc τ (k + 1) - gc τ k) := by
    have p31 : 2 ^ k < 2 ^ 31 := Nat.pow_lt_pow_right (by decide) (by omega)
    rw [ix8', o8_2, rIn _ _ (by omega), d3, b_shl1 k (by omega)]
    have hlt : gy τ c k % 2 ^ k < 2 ^ 31 := Nat.lt_of_le_of_lt (Nat.mod_le _ _) (by omega)
    obtain ⟨g1, g2⟩ := gc_s τ k
    by_cases e : τ.1 3 k = 0
    · rw [if_pos e, if_neg (by decide), g2 (fun q => q.1 e), Int32.sub_self]
    · rw [if_neg e, if_pos rfl, if_neg (nI_ne0 (Nat.two_pow_pos k) p31), pk_rem (by omega) (Nat.two_pow_pos k) p31]
      have hu : up τ k = true := by simp [up, e]
      have hiff : gy τ c k % 2 ^ k = 0 ↔ fst τ k := by
        rw [low_bits]
        unfold gy
        rw [if_pos hu]
        constructor
        · intro q
          refine ⟨e, fun b hb hG => ?_⟩
          have := (gN_Gr hw hc hk (show b < 8 by omega)).mpr hG
          rw [q b hb] at this; cases this
        · intro q b hb
          cases hx : (gN (LK τ c) k).testBit b
          · rfl
          · exact absurd ((gN_Gr hw hc hk (show b < 8 by omega)).mp hx) (q.2 b hb)
      have e1 : ∀ x : Int32, x + 1 - x = 1 := fun x => by rw [Int32.add_comm, Int32.add_sub_cancel]
      by_cases q : gy τ c k % 2 ^ k = 0
      · rw [q, if_pos nI_0, g1 (hiff.mp q), e1]
      · rw [if_neg (nI_ne0 (by omega) hlt), g2 (fun w => q (hiff.mpr w)), Int32.sub_self]
  obtain ⟨a, s1, i1, i2, i3⟩ := k_inL hw hg hl hk hgl hs
  obtain ⟨s2, j1, j2⟩ := k_degreeC (i2.wf hw) hk
  have i4 := i2.trans j2
  obtain ⟨r, s3, l1, l2, l3⟩ := k_leaderC (i4.wf hw) hk
  have i5 := i4.trans l2
  obtain ⟨x1, x2, x3, x4, x5⟩ := k_xOfC (i5.wf hw) hk
  have hw5 := i5.wf hw
  have hge5 := scr_ge2 i5 hg
  have hlr5 := scr_lr i5 hl
  obtain ⟨c1, c2, -⟩ := hge5.2.2.2.1 k hk
  obtain ⟨-, c4, c5, c6, -⟩ := hlr5 k hk
  have hdeg : deg s1 k = cnt (hm τ c k).testBit 5 := by
    have hd : deg s1 k = deg τ k := by unfold deg; rw [scr_lk i2]
    rw [hd]
    unfold deg
    rw [← cnt8, cnt_hi (c := 5) (fun j h1 h2 => by rw [lk_symm hw (by omega) h2]; exact lk_hi hw h2 (by omega)) 8 (by omega) (by omega)]
    refine cnt_congr 5 (fun j hj => ?_)
    rw [hm_tb]
    by_cases q : j < c
    · simp [q]
    · rw [lk_symm hw (by omega) (by omega), lk_hi hw (by omega) (by omega)]; simp
  have hlead : r = a := by
    rw [scr_up i4] at l3
    rcases l3 with ⟨u1, rfl⟩ | ⟨u1, q, q1, rfl, q3⟩
    · rcases i3 with ⟨rfl, -⟩ | ⟨q, q1, q2, q3, -⟩
      · rfl
      · unfold gy at q3
        rw [u1] at q3; simp at q3
    · have hyb : ∀ j, j < 8 → ((gy τ c k).testBit j = true ↔ Gr τ k j) := fun j hj => by
        unfold gy; rw [if_pos u1]; exact gN_Gr hw hc hk hj
      have hGr : ∀ j, Gr s2 k j ↔ Gr τ k j := fun j => by unfold Gr; rw [scr_lk i4]
      have hp4 : s2.1 4 = τ.1 4 := funext fun b => i4 4 b (by omega)
      rw [hp4] at q3
      rcases i3 with ⟨rfl, w⟩ | ⟨q', w1, rfl, w3, w4⟩
      · have := (hyb k (by omega)).mpr (Gr_self τ k)
        rw [w k hk] at this; cases this
      · have h2 : Ld (fun j => Gr s2 k j) (τ.1 4) q' := ⟨(hGr q').mpr ((hyb q' (by omega)).mp w3), fun j hj => by
          have hj' := (hGr j).mp hj
          have hjc := Gr_c hw hk hj'
          exact w4 j hjc ((hyb j (by omega)).mpr hj')⟩
        rw [Ld_un q3 h2]
  refine ⟨s3, ?_, i5⟩
  simp only [mL_isLinked_L41]
  simp only [c40, if_false, r40, m40]
  rw [if_neg (nI_ge hk (by omega)), if_neg (show ¬ (1 : Int32) = 0 by decide), k_heard hws hgs hk, hm', b1s]
  rw [hv6, b1s, hv8, b1s]
  simp only [ix8', o8_1, o8_2, o8_4, o8_5, o8_6, chk8 (show 8 * k < 48 by omega) (by decide), chk8 (show 8 * k + 1 < 48 by omega) (by decide), chk8 (show 8 * k + 2 < 48 by omega) (by decide), chk8 (show 8 * k + 4 < 48 by omega) (by decide), chk8 (show 8 * k + 5 < 48 by omega) (by decide), chk8 (show 8 * k + 6 < 48 by omega) (by decide), if_false]
  have eg : gc τ k + (gc τ (k + 1) - gc τ k) = gc τ (k + 1) := by rw [Int32.add_comm, Int32.sub_add_cancel]
  rw [eg, b1s, i1, b3s, if_neg (show ¬ (1 : Int32) = 0 by decide), j1, b2s, k_ones (n := 5) (hm_lt hc k) (by decide), b1s, hdeg, if_pos rfl, l1, b2s, hlead, if_pos rfl, x1, b2s, rIn _ _ (by omega), c1, if_pos rfl, x2, b2s, rIn _ _ (by omega), c2, if_pos rfl, x3, b2s, rIn _ _ (by omega), c4, if_pos rfl, x4, b2s, rIn _ _ (by omega), c5, if_pos rfl, x5, b2s, rIn _ _ (by omega), c6, if_pos rfl]
theorem k_isLinked {τ : fm_S} {c : Nat} (hw : WF τ c) (hg : GE τ τ c) (hl : LR τ τ c) : ∃ τ', mL_isLinked τ = some (1, τ') ∧ scr τ τ' := by
  have hc := hg.1
  obtain ⟨τ1, e1, s1⟩ := k_linksC hw
  have hLK := LK_lt τ c
  have hc25 := cnt_le (LK τ c).testBit 25
  have e2 : nI (tot τ 8) / 2 = nI (cnt (LK τ c).testBit 25) := by
    rw [hands hw hc, show (2 : Int32) = nI 2 from rfl, pk_div (by omega) (by decide) (by decide)]
    congr 1; omega
  have m40 : τ1.1 40 40 = nI c := (s1 40 40 (by omega)).trans hg.2.1
  obtain ⟨t, f1, s', f2, f3⟩ := lpU (fun n x6 (st : Int32 × fm_S) => mL_isLinked_L41 n (nI (LK τ c)) st.1 1 x6 st.2) c (fun k st => scr τ st.2 ∧ st.1 = gc τ k) (fun t => ∃ s', t = (gc τ c, 1, s') ∧ scr τ s')
    (fun n st hP => ⟨(st.1, 1, st.2), by
      have m40 : st.2.1 40 40 = nI c := (hP.1 40 40 (by omega)).trans hg.2.1
      simp only [mL_isLinked_L41, c40, if_false, r40, m40]
      rw [if_pos (nI_le (Nat.le_refl _) (by omega))], st.2, by rw [hP.2], hP.1⟩)
    (fun n k st hk hP => by
      obtain ⟨a, s⟩ := st
      obtain ⟨p1, rfl⟩ := hP
      obtain ⟨s2, q1, q2⟩ := k_linkedStep hw hg hl hk p1 n
      exact ⟨(gc τ (k + 1), s2), q1, q2, rfl⟩)
    fG 0 (0, τ1) (Nat.zero_le _) (by unfold fG; omega) ⟨s1, rfl⟩
  subst f2
  obtain ⟨τ3, g1, g2⟩ := k_groupsC (f3.wf hw)
  refine ⟨τ3, ?_, f3.trans g2⟩
  have eg : gc s' c = gc τ c := by
    obtain ⟨F, hF, hn⟩ := gc_n τ
    obtain ⟨F', hF', hn'⟩ := gc_n s'
    have : ∀ i, F' i = F i := fun i => by
      have h1 : fst s' i ↔ fst τ i := by
        unfold fst Gr
        rw [scr_lk f3, f3 3 i (by omega)]
      cases h : F i
      · cases h' : F' i
        · rfl
        · have := (hF i).mpr (h1.mp ((hF' i).mp h'))
          rw [h] at this; cases this
      · exact (hF' i).mpr (h1.mpr ((hF i).mp h))
    rw [hn, hn', cnt_congr c (fun j _ => this j)]
  have f1 : mL_isLinked_L41 fG (nI (LK τ c)) 0 1 0 τ1 = some (gc τ c, 1, s') := f1
  have em : mX4_members τ1 = some (nI c) := by rw [mX4_members, (s1.wf hw).2.1]
  rw [mL_isLinked, k_links hw hg, b1s, e1, b2s, k_ones (n := 25) hLK (by decide), b1s, e2, if_pos rfl, em, b1s]
  simp only [c40, if_false, r40, m40]
  rw [if_pos trivial, b1s, f1, b3s, if_neg (show ¬ (1 : Int32) = 0 by decide), g1, b2s, eg, if_pos rfl]
end PVO
