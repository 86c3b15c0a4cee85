section LVE
theorem c_toggle {τ : fm_S} (h : RR τ) (x1 : Int32) : OZ (mL_toggle x1 τ) (mX5_toggle x1) := by
  obtain ⟨c, hw, hv⟩ := h
  have hc := hw.1
  rcases k_req hw x1 with ⟨⟨j, hj, rfl⟩, e1⟩ | ⟨h1, e1⟩
  · have hj8 : j < 8 := by omega
    obtain ⟨v, hv0⟩ : ∃ v : Bool, v = decide (τ.1 3 j = 0) := ⟨_, rfl⟩
    obtain ⟨τ1, d1⟩ : ∃ z, z = fm_wr τ 3 j (bI v) := ⟨_, rfl⟩
    have r1 : ∀ a b, a ≠ 3 → τ1.1 a b = τ.1 a b := fun a b hab => by rw [d1, wrN _ _ (by omega)]
    have hv1 : MV (sL τ1 55 (0 : Int32) (if v then 1 else 0)) τ c := hv.sig (fun a b hab => by rw [st55a, r1 a b (by omega)])
    have w1 : WF τ1 c := by
      obtain ⟨a1, a2, a3, a4, a5, a6, a7, a8⟩ := hw
      refine ⟨a1, by rw [r1 _ _ (by omega)]; exact a2, fun i hi => ?_, fun i hi hi' => ?_, fun i hi => by rw [r1 _ _ (by omega)]; exact a5 i hi, fun i hi k hk => by rw [r1 _ _ (by omega), r1 _ _ (by omega)]; exact a6 i hi k hk, fun i hi k hk => by rw [r1 _ _ (by omega), r1 _ _ (by omega)]; exact a7 i hi k hk, fun i hi => by rw [r1 _ _ (by omega)]; exact a8 i hi⟩
      · by_cases e : i = j
        · subst e; rw [d1, wrS]; cases v <;> simp [bI]
        · rw [d1, wrN _ _ (by omega)]; exact a3 i hi
      · rw [d1, wrN _ _ (by omega)]; exact a4 i hi hi'
    rcases k_is hw hv1 (nI j) with ⟨-, f1⟩ | ⟨n1, -⟩
    · obtain ⟨σ1, d2⟩ : ∃ z, z = sL τ1 55 (0 : Int32) (if v then 1 else 0) := ⟨_, rfl⟩
      rw [← d2] at f1 hv1
      have m43 : (fm_wr σ1 61 2 0).1 43 j = bI v := by
        rw [wrN _ _ (by omega), hv1.2.2.2.1 j hj8, hv0]
        by_cases q : τ.1 3 j = 0 <;> simp [q, hj, bI]
      refine ⟨0, σ1, bI v, fm_wr (fm_wr σ1 61 2 0) 43 j (bI (!v)), ?_, ?_, ?_, ?_, ?_⟩
      · rw [mL_toggle, h2o (r := bI v) (σ := τ1)]
        · rw [d2]; cases v <;> simp [chk1, b1s, bI]
        · rw [mX4_toggle, e1, xo]
          simp only [chk8 hj8 (by decide), if_false]
          rw [rIn _ _ (by omega)]
          have e3 : (if τ.1 3 j = 0 then some (1 : Int32) else some 0) = some (bI v) := by
            rw [hv0]; by_cases q : τ.1 3 j = 0 <;> simp [q, bI]
          rw [e3, b1s]
          have e4 : vp_nar .boolean (bI v) = bI v := nar01 v
          rw [e4, sIn _ _ _ (by omega), ← d1, rIn _ _ (by omega)]
          have e5 : τ1.1 3 j = bI v := by rw [d1, wrS]
          rw [e5, e4]; simp
      · rw [mX5_toggle, f1, b1s]
        rw [show (1 : Int32) = bI true from rfl, k_goes, b2s, if_neg (by decide)]
        simp only [chk8 hj8 (by decide), if_false, if_true]
        rw [rIn _ _ (by omega), m43]
        have e3 : (if bI v = 0 then some (bI true) else some (0 : Int32)) = some (bI (!v)) := by cases v <;> rfl
        rw [e3, b1s, show vp_nar .boolean (bI (!v)) = bI (!v) from nar01 _, sIn _ _ _ (by omega), rIn _ _ (by omega), wrS]
        cases v <;> rfl
      · rw [k_thrown, wrN _ _ (by omega), wrS]
      · intro _; rw [wL, wL, d2, st55]; cases v <;> rfl
      · refine fin (τ := τ1) w1 ?_ (fun a b hab => by rw [wrN _ _ (by omega), wrN _ _ (by omega), d2, st55a])
        obtain ⟨h1, h2, h3, h4, h5, h6⟩ := hv1
        have r3 : ∀ a b, a ≠ 43 → (a = 61 → b ≠ 2) → (fm_wr (fm_wr σ1 61 2 0) 43 j (bI (!v))).1 a b = σ1.1 a b := fun a b hab hb => by rw [wrN _ _ (by omega), wrN _ _ (by omega)]
        refine ⟨by rw [r3 _ _ (by omega) (by omega)]; exact h1, by rw [r3 _ _ (by omega) (by omega), r1 _ _ (by omega)]; exact h2, fun i hi => ?_, fun i hi => ?_, fun i hi k hk => by rw [r3 _ _ (by omega) (by omega), r1 _ _ (by omega)]; exact h5 i hi k hk, fun i hi k hk => by rw [r3 _ _ (by omega) (by omega), r1 _ _ (by omega)]; exact h6 i hi k hk⟩
        · rw [r3 41 i (by omega) (by omega), r3 42 i (by omega) (by omega), r3 44 i (by omega) (by omega), r3 45 i (by omega) (by omega), r3 46 i (by omega) (by omega), r3 47 i (by omega) (by omega), r3 48 i (by omega) (by omega), r1 1 i (by omega), r1 2 i (by omega), r1 4 i (by omega), r1 5 i (by omega), r1 6 i (by omega), r1 7 i (by omega), r1 8 i (by omega)]
          exact h3 i hi
        · by_cases e : i = j
          · subst e; rw [wrS, d1, wrS]; cases v <;> simp [bI, hj]
          · rw [wrN _ _ (by omega), wrN _ _ (by omega), h4 i hi, d1, wrN _ _ (by omega)]
    · exact absurd ⟨j, hj, rfl⟩ n1
  · rcases k_is hw hv x1 with ⟨n1, -⟩ | ⟨-, f1⟩
    · exact absurd n1 h1
    · refine ⟨1, τ, 0, fm_wr τ 61 2 1, ?_, ?_, (bad hw hv 1).1, fun q => absurd q (by decide), (bad hw hv 1).2⟩
      · rw [mL_toggle, h2e (σ := τ) (E := "java/lang/IndexOutOfBoundsException")]
        · rfl
        · rw [mX4_toggle, e1, xe]
      · rw [mX5_toggle, f1, b1s]
        rw [show (1 : Int32) = bI true from rfl, k_goes, b2s]; rfl
theorem k_unlike {τ : fm_S} {c : Nat} (hw : WF τ c) (x1 x2 : Int32) : (mem x1 c ∧ mem x2 c ∧ x1 ≠ x2 ∧ mX4_requireUnlike x1 x2 τ = some (.ok τ)) ∨ (¬ (mem x1 c ∧ mem x2 c) ∧ mX4_requireUnlike x1 x2 τ = some (.error ("java/lang/IndexOutOfBoundsException", τ))) ∨ (mem x1 c ∧ mem x2 c ∧ x1 = x2 ∧ mX4_requireUnlike x1 x2 τ = some (.error ("java/lang/IllegalArgumentException", τ))) := by
  rw [mX4_requireUnlike]
  rcases k_req hw x1 with ⟨h1, e1⟩ | ⟨h1, e1⟩
  · rw [e1, xo]
    rcases k_req hw x2 with ⟨h2, e2⟩ | ⟨h2, e2⟩
    · rw [e2, xo]
      by_cases e : x1 = x2
      · right; right; exact ⟨h1, h2, e, by rw [if_pos e]⟩
      · left; exact ⟨h1, h2, e, by rw [if_neg e]⟩
    · rw [e2, xe]; right; left; exact ⟨fun q => h2 q.2, rfl⟩
  · rw [e1, xe]; right; left; exact ⟨fun q => h1 q.1, rfl⟩
theorem k_flip {s : fm_S} {i j : Nat} (hi : i < 8) (hj : j < 8) (hij : i ≠ j) (hm : ∀ a, a < 8 → m8 (s.1 19 a)) (hs : mk (s.1 19 j) i = mk (s.1 19 i) j) : ∃ s', (if mk (s.1 19 i) j then mX1_cut18 (nI i) (nI j) s else mX1_join18 (nI i) (nI j) s) = some s' ∧ rowE 19 s s' ∧ ∀ a, a < 8 → m8 (s'.1 19 a) ∧ ∀ b, b < 8 → mk (s'.1 19 a) b = if (a = i ∧ b = j) ∨ (a = j ∧ b = i) then !(mk (s.1 19 i) j) else mk (s.1 19 a) b := by
  by_cases hb : mk (s.1 19 i) j = true
  · rw [if_pos hb]
    obtain ⟨y, e1, y1, y2⟩ := q_without (hm i hi) hj
    obtain ⟨z, e2, z1, z2⟩ := q_without (hm j hj) hi
    have hz : (fm_wr s 19 i y).1 19 j = s.1 19 j := wrN _ _ (Or.inr (fun q => hij q.symm))
    refine ⟨fm_wr (fm_wr s 19 i y) 19 j z, ?_, (rowE.rfl.wr i y).wr j z, fun a ha => ?_⟩
    · rw [mX1_cut18]
      simp only [chk8 hi (by decide), chk8 hj (by decide), if_false, rIn _ _ (show i < 2 ^ 31 by omega), rIn _ _ (show j < 2 ^ 31 by omega), sIn _ _ _ (show i < 2 ^ 31 by omega), sIn _ _ _ (show j < 2 ^ 31 by omega)]
      rw [e1, b1s, hz, e2, b1s]
    · by_cases h1 : a = j
      · subst h1
        rw [wrS]
        refine ⟨z1, fun b hb' => ?_⟩
        rw [z2 b hb', hb]
        by_cases e : b = i
        · subst e; simp
        · have : ¬ ((a = i ∧ b = a) ∨ (a = a ∧ b = i)) := by omega
          rw [if_neg this]; simp [e]
      · rw [wrN _ _ (Or.inr h1)]
        by_cases h2 : a = i
        · subst h2
          rw [wrS]
          refine ⟨y1, fun b hb' => ?_⟩
          rw [y2 b hb', hb]
          by_cases e : b = j
          · subst e; simp
          · have : ¬ ((a = a ∧ b = j) ∨ (a = j ∧ b = a)) := by omega
            rw [if_neg this]; simp [e]
        · rw [wrN _ _ (Or.inr h2)]
          exact ⟨hm a ha, fun b _ => by rw [if_neg (by omega)]⟩
  · rw [if_neg hb]
    have hb0 : mk (s.1 19 i) j = false := Bool.eq_false_iff.mpr hb
    obtain ⟨y, e1, y1, y2⟩ := q_with (hm i hi) hj
    obtain ⟨z, e2, z1, z2⟩ := q_with (hm j hj) hi
    have hz : (fm_wr s 19 i y).1 19 j = s.1 19 j := wrN _ _ (Or.inr (fun q => hij q.symm))
    refine ⟨fm_wr (fm_wr s 19 i y) 19 j z, ?_, (rowE.rfl.wr i y).wr j z, fun a ha => ?_⟩
    · rw [mX1_join18]
      simp only [chk8 hi (by decide), chk8 hj (by decide), if_false, rIn _ _ (show i < 2 ^ 31 by omega), rIn _ _ (show j < 2 ^ 31 by omega), sIn _ _ _ (show i < 2 ^ 31 by omega), sIn _ _ _ (show j < 2 ^ 31 by omega)]
      rw [e1, b1s, hz, e2, b1s]
    · by_cases h1 : a = j
      · subst h1
        rw [wrS]
        refine ⟨z1, fun b hb' => ?_⟩
        rw [z2 b hb', hb0]
        by_cases e : b = i
        · subst e; simp
        · have : ¬ ((a = i ∧ b = a) ∨ (a = a ∧ b = i)) := by omega
          rw [if_neg this]; simp [e]
      · rw [wrN _ _ (Or.inr h1)]
        by_cases h2 : a = i
        · subst h2
          rw [wrS]
          refine ⟨y1, fun b hb' => ?_⟩
          rw [y2 b hb', hb0]
          by_cases e : b = j
          · subst e; simp
          · have : ¬ ((a = a ∧ b = j) ∨ (a = j ∧ b = a)) := by omega
            rw [if_neg this]; simp [e]
        · rw [wrN _ _ (Or.inr h2)]
          exact ⟨hm a ha, fun b _ => by rw [if_neg (by omega)]⟩
theorem two_false {σ τ : fm_S} {c : Nat} (hw : WF τ c) (h : MV σ τ c) {x1 x2 : Int32} (hn : ¬ (mem x1 c ∧ mem x2 c)) : ∃ p q : Bool, mX5_is x1 σ = some (bI p) ∧ (p = true → mX5_is x2 σ = some (bI q)) ∧ (p && q) = false := by
  obtain ⟨p, q, e1, ep, e2, eq⟩ := k_is2 hw h x1 x2
  refine ⟨p, q, e1, e2, ?_⟩
  cases p
  · rfl
  · cases q
    · rfl
    · exact absurd ⟨ep.mp rfl, eq.mp rfl⟩ hn
theorem two_true {σ τ : fm_S} {c : Nat} (hw : WF τ c) (h : MV σ τ c) {x1 x2 : Int32} (h1 : mem x1 c) (h2 : mem x2 c) : mX5_is x1 σ = some (bI true) ∧ (true = true → mX5_is x2 σ = some (bI true)) := by
  obtain ⟨p, q, e1, ep, e2, eq⟩ := k_is2 hw h x1 x2
  have hp := ep.mpr h1
  have hq := eq.mpr h2
  subst hp; subst hq
  exact ⟨e1, e2⟩
set_option maxHeartbeats 1000000 in
theorem c_block {τ : fm_S} (h : RR τ) (x1 x2 : Int32) : OZ (mL_block x1 x2 τ) (mX5_block x1 x2) := by
  obtain ⟨c, hw, hv⟩ := h
  have hc := hw.1
  rcases k_unlike hw x1 x2 with ⟨⟨i, hi, rfl⟩, ⟨j, hj, rfl⟩, hne, e1⟩ | ⟨hn, e1⟩ | ⟨hm, hn, he, e1⟩
  · have hi8 : i < 8 := by omega
    have hj8 : j < 8 := by omega
    have hij : i ≠ j := fun q => hne (by rw [q])
    obtain ⟨w1, w2, w3, w4, w5, w6, w7, w8⟩ := id hw
    obtain ⟨τ1, f1, f2, f3⟩ := k_flip hi8 hj8 hij w5 (w6 j hj8 i hi8)
    obtain ⟨v, hb⟩ : ∃ v, v = mk (τ.1 19 i) j := ⟨_, rfl⟩
    rw [← hb] at f1 f3
    obtain ⟨σ1, d2⟩ : ∃ z, z = sL τ1 55 (0 : Int32) (if v then 0 else 1) := ⟨_, rfl⟩
    have hv1 : MV σ1 τ c := hv.sig (fun a b hab => by rw [d2, st55a, f2.1 a b (by omega)])
    obtain ⟨t1, t2⟩ := two_true hw hv1 ⟨i, hi, rfl⟩ ⟨j, hj, rfl⟩
    have m49 : (fm_wr σ1 61 2 0).1 49 (8 * i + j) = bI v := by rw [wrN _ _ (by omega), hv1.2.2.2.2.1 i hi8 j hj8, ← hb]; rfl
    refine ⟨0, σ1, bI (!v), fm_wr (fm_wr (fm_wr σ1 61 2 0) 49 (8 * i + j) (bI (!v))) 49 (8 * j + i) (bI (!v)), ?_, ?_, ?_, ?_, ?_⟩
    · rw [mL_block, h2o (r := bI (!v)) (σ := τ1)]
      · rw [d2]; cases v <;> simp [chk1, b1s, bI]
      · rw [mX4_block, e1, xo, k_joins18 (w5 i hi8) hi8 hj8, b1s, ← hb]
        cases v
        · simp only [Bool.false_eq_true, if_false, if_true] at f1 ⊢; rw [f1]; rfl
        · simp only [if_true] at f1 ⊢; rw [if_neg (by decide), f1]; rfl
    · rw [mX5_block, k_two t1 t2, if_neg hne, b1s, show (true && true) = true from rfl, show (1 : Int32) = bI true from rfl, k_goes, b2s, if_neg (by decide)]
      simp only [ix8, chk8 (show 8 * i + j < 64 by omega) (by decide), chk8 (show 8 * j + i < 64 by omega) (by decide), if_false, if_true]
      rw [rIn _ _ (by omega), m49]
      have e3 : (if bI v = 0 then some (bI true) else some (0 : Int32)) = some (bI (!v)) := by cases v <;> rfl
      rw [e3, b1s, show vp_nar .boolean (bI (!v)) = bI (!v) from nar01 _, sIn _ _ _ (by omega), sIn _ _ _ (by omega)]
      simp
    · rw [k_thrown, wrN _ _ (by omega), wrN _ _ (by omega), wrS]
    · intro _; rw [wL, wL, wL, d2, st55]; cases v <;> rfl
    · have u1 : WF τ1 c := by
        refine ⟨w1, by rw [f2.1 _ _ (by omega)]; exact w2, fun i hi => by rw [f2.1 _ _ (by omega)]; exact w3 i hi, fun i hi hi' => by rw [f2.1 _ _ (by omega)]; exact w4 i hi hi', fun i hi => (f3 i hi).1, fun a ha k hk => ?_, fun i hi k hk => by rw [f2.1 _ _ (by omega), f2.1 _ _ (by omega)]; exact w7 i hi k hk, fun i hi => by rw [f2.1 _ _ (by omega)]; exact w8 i hi⟩
        rw [(f3 a ha).2 k hk, (f3 k hk).2 a ha, w6 a ha k hk]
        by_cases q : (a = i ∧ k = j) ∨ (a = j ∧ k = i)
        · rw [if_pos q, if_pos (by omega)]
        · rw [if_neg q, if_neg (by omega)]
      refine fin (τ := τ1) u1 ?_ (fun a b hab => by rw [wrN _ _ (by omega), wrN _ _ (by omega), wrN _ _ (by omega), d2, st55a])
      obtain ⟨h1, h2, h3, h4, h5, h6⟩ := hv1
      have r3 : ∀ a d : Nat, a ≠ 49 → (a = 61 → d ≠ 2) → (fm_wr (fm_wr (fm_wr σ1 61 2 0) 49 (8 * i + j) (bI (!v))) 49 (8 * j + i) (bI (!v))).1 a d = σ1.1 a d := fun a d hab hd => by rw [wrN _ _ (by omega), wrN _ _ (by omega), wrN _ _ (by omega)]
      refine ⟨by rw [r3 _ _ (by omega) (by omega)]; exact h1, by rw [r3 _ _ (by omega) (by omega), f2.1 _ _ (by omega)]; exact h2, fun i hi => ?_, fun i hi => ?_, fun a ha k hk => ?_, fun i hi k hk => by rw [r3 _ _ (by omega) (by omega), f2.1 _ _ (by omega)]; exact h6 i hi k hk⟩
      · rw [r3 41 i (by omega) (by omega), r3 42 i (by omega) (by omega), r3 44 i (by omega) (by omega), r3 45 i (by omega) (by omega), r3 46 i (by omega) (by omega), r3 47 i (by omega) (by omega), r3 48 i (by omega) (by omega), f2.1 1 i (by omega), f2.1 2 i (by omega), f2.1 4 i (by omega), f2.1 5 i (by omega), f2.1 6 i (by omega), f2.1 7 i (by omega), f2.1 8 i (by omega)]
        exact h3 i hi
      · rw [r3 43 i (by omega) (by omega), f2.1 3 i (by omega)]; exact h4 i hi
      · rw [(f3 a ha).2 k hk]
        by_cases q : (a = i ∧ k = j) ∨ (a = j ∧ k = i)
        · rw [if_pos q]
          by_cases q2 : 8 * a + k = 8 * j + i
          · rw [q2, wrS]; rfl
          · rw [wrN _ _ (Or.inr q2), show 8 * a + k = 8 * i + j by omega, wrS]; rfl
        · rw [if_neg q, wrN _ _ (by omega), wrN _ _ (by omega), wrN _ _ (by omega)]
          exact h5 a ha k hk
  · obtain ⟨p, q, g1, g2, g3⟩ := two_false hw hv hn
    refine ⟨1, τ, 0, fm_wr τ 61 2 1, ?_, ?_, (bad hw hv 1).1, fun q => absurd q (by decide), (bad hw hv 1).2⟩
    · rw [mL_block, h2e (σ := τ) (E := "java/lang/IndexOutOfBoundsException")]
      · rfl
      · rw [mX4_block, e1, xe]
    · rw [mX5_block, k_two g1 g2, g3]
      by_cases e : x1 = x2
      · rw [if_pos e, b1s, show mX5_goes (bI false) (0 : Int32) τ = _ from k_goes false false τ, b2s]; rfl
      · rw [if_neg e, b1s, show mX5_goes (bI false) (1 : Int32) τ = _ from k_goes false true τ, b2s]; rfl
  · obtain ⟨t1, t2⟩ := two_true hw hv hm hn
    refine ⟨2, τ, 0, fm_wr τ 61 2 2, ?_, ?_, (bad hw hv 2).1, fun q => absurd q (by decide), (bad hw hv 2).2⟩
    · rw [mL_block, h2e (σ := τ) (E := "java/lang/IllegalArgumentException")]
      · rfl
      · rw [mX4_block, e1, xe]
    · rw [mX5_block, k_two t1 t2, if_pos he, b1s, show mX5_goes (bI (true && true)) (0 : Int32) τ = _ from k_goes true false τ, b2s]; rfl
end LVE
