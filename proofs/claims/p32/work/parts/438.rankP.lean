section LVBD
theorem gFree_swap {x y : Nat} {S : List (Nat × Nat)} : gFree ((x, y) :: S) ↔ gFree ((y, x) :: S) := by
  have h : ∀ V, gCn V ((x, y) :: S) = gCn V ((y, x) :: S) := fun V => by rw [gCn_cons, gCn_cons, Bool.and_comm]
  unfold gFree
  constructor
  · intro q V hV; rw [← h V]; exact q V hV
  · intro q V hV; rw [h V]; exact q V hV
theorem gInv_swap {p : Nat → Nat} {a : Nat → Nat → Bool} {x y : Nat} {S : List (Nat × Nat)} (hx : x < 8) (hy : y < 8) (hne : x ≠ y) (h : gInv p a ((x, y) :: S)) : gInv p a ((y, x) :: S) := by
  obtain ⟨h1, h2, h3, h4⟩ := h
  refine ⟨h1, fun V => ?_, gFree_swap.mp h3, fun e he => ?_⟩
  · rw [← h2 V, gCn_cons, gCn_cons, Bool.and_comm]
  · rcases List.mem_cons.mp he with rfl | he
    · exact ⟨hy, hx, fun q => hne q.symm⟩
    · exact h4 e (List.mem_cons_of_mem _ he)
theorem gInv_nil : gInv (fun _ => 2) (fun _ _ => false) [] := by
  refine ⟨fun v _ => ?_, fun V => ?_, gFree_nil, fun e h => by (cases h)⟩
  · have : gOut (fun _ _ => false) v = 0 := by
      unfold gOut
      rw [gSm_congr (g := fun _ => 0) (fun w _ => by simp), gSm_zero]
    rw [this]
  · have : gArc (fun _ _ => false) V = 0 := by
      unfold gArc
      rw [gSm_congr (g := fun _ => 0) (fun v _ => by
        unfold gRow
        rw [gSm_congr (g := fun _ => 0) (fun w _ => by simp), gSm_zero]), gSm_zero]
    rw [this] <;> rfl
/-- the pairs before (i, j) in the class's order, of any net -/
def lP (L : Nat → Nat → Bool) (i j : Nat) (e : Nat × Nat) : Prop := e.1 < e.2 ∧ e.2 < 8 ∧ (e.2 < i ∨ (e.2 = i ∧ e.1 < j)) ∧ L e.1 e.2 = true
theorem lP_ok (L : Nat → Nat → Bool) : ∀ e, lP L 8 0 e → e.1 < 8 ∧ e.2 < 8 ∧ e.1 ≠ e.2 := fun e h => ⟨by have := h.1; have := h.2.1; omega, h.2.1, by have := h.1; omega⟩
/-- the rank by pebbles -/
theorem k_pebblesC {s : fm_S} {L : Nat → Nat → Bool} (hL : ∀ i, i < 8 → ∀ j, j < 8 → L i j = L j i) (hn : NV s L) : ∃ s' I, mX2_rankOf s = some (nI I.length, s') ∧ pgE s s' ∧ gMax (lP L 8 0) I := by
  obtain ⟨s0, e0, r0, z0⟩ := k_fill 25 2 s (by decide)
  obtain ⟨s1, e1, r1, z1⟩ := k_fill 26 0 s0 (by decide)
  have g1 : pgE s s1 := (pgE.row r0 (by decide)).trans (pgE.row r1 (by decide))
  have pa1 : PA s1 (fun _ => 2) (fun _ _ => false) := ⟨fun v hv => ⟨by rw [r1.1 25 v (by omega)]; exact z0 v hv, Nat.le_refl _⟩, fun v hv => by
    have : s1.1 26 v = 0 := z1 v hv
    rw [this]
    exact ⟨m80, fun w _ => mk0 w⟩⟩
  have inner : ∀ i, i < 8 → ∀ (x : Int32) (u : fm_S), (∃ I p a, pgE s u ∧ x = nI I.length ∧ gMax (lP L i 0) I ∧ PA u p a ∧ gInv p a I) → ∃ y v, mX2_rankOf_L29 fF x (nI i) 0 u = some (y, v) ∧ ∃ I p a, pgE s v ∧ y = nI I.length ∧ gMax (lP L (i + 1) 0) I ∧ PA v p a ∧ gInv p a I := by
    intro i hi x u hu
    obtain ⟨⟨y, v⟩, e2, hq⟩ := lpU (fun n x4 (c : Int32 × fm_S) => mX2_rankOf_L29 n c.1 (nI i) x4 c.2) i
      (fun j c => ∃ I p a, pgE s c.2 ∧ c.1 = nI I.length ∧ gMax (lP L i j) I ∧ PA c.2 p a ∧ gInv p a I) (fun c => ∃ I p a, pgE s c.2 ∧ c.1 = nI I.length ∧ gMax (lP L (i + 1) 0) I ∧ PA c.2 p a ∧ gInv p a I)
      (fun n c ⟨I, p, a, q1, q2, q3, q4, q5⟩ => ⟨c, by simp only [mX2_rankOf_L29]; rw [if_pos (nI_le (Nat.le_refl _) (by omega))], I, p, a, q1, q2, gMax_iff q3 (fun e => by
        unfold lP
        constructor
        · rintro ⟨w1, w2, w3, w4⟩; exact ⟨w1, w2, by omega, w4⟩
        · rintro ⟨w1, w2, w3, w4⟩; exact ⟨w1, w2, by omega, w4⟩), q4, q5⟩)
      (fun n j c hj ⟨I, p, a, q1, q2, q3, q4, q5⟩ => by
        have hj8 : j < 8 := by omega
        have hnt : NV c.2 L := fun b hb => by rw [q1 21 b (by omega)]; exact hn b hb
        have hj0 := k_joins20 (hnt i hi).1 hi hj8
        rw [(hnt i hi).2 j hj8] at hj0
        cases hl : L i j
        · rw [hl, if_neg (by decide)] at hj0
          refine ⟨c, ?_, I, p, a, q1, q2, gMax_iff q3 (fun e => ?_), q4, q5⟩
          · simp only [mX2_rankOf_L29]
            rw [if_neg (nI_ge hj (by omega)), hj0, b1s, if_pos rfl, nI_1]
          · unfold lP
            constructor
            · rintro ⟨w1, w2, w3, w4⟩
              refine ⟨w1, w2, ?_, w4⟩
              apply Classical.byContradiction
              intro z
              have z1 : e.2 = i ∧ e.1 = j := by omega
              rw [z1.1, z1.2, hL j hj8 i hi, hl] at w4; cases w4
            · rintro ⟨w1, w2, w3, w4⟩; exact ⟨w1, w2, by omega, w4⟩
        · rw [hl, if_pos rfl] at hj0
          have hl2 : L j i = true := by rw [hL j hj8 i hi]; exact hl
          have P' : ∀ x, lP L i (j + 1) x ↔ lP L i j x ∨ x = (j, i) := fun x => by
            unfold lP
            constructor
            · rintro ⟨w1, w2, w3, w4⟩
              by_cases z : x.2 = i ∧ x.1 = j
              · right; exact Prod.ext z.2 z.1
              · exact Or.inl ⟨w1, w2, by omega, w4⟩
            · rintro (⟨w1, w2, w3, w4⟩ | rfl)
              · exact ⟨w1, w2, by omega, w4⟩
              · exact ⟨hj, hi, by show i < i ∨ (i = i ∧ j < j + 1); omega, hl2⟩
          have hne : i ≠ j := by omega
          obtain ⟨b, s', p', a', f1, f2, f3, f4, f5, f6⟩ := k_gather q4 q5 hi hj8 hne
          cases b
          · have nf : ¬ gFree ((j, i) :: I) := fun z => f6 rfl (gFree_swap.mp z)
            refine ⟨(c.1, s'), ?_, I, p', a', q1.trans f2, q2, gMax_skip q3 P' nf, f3, f4⟩
            simp only [mX2_rankOf_L29]
            rw [if_neg (nI_ge hj (by omega)), hj0, b1s, if_neg (by decide), f1, b2s, if_pos (by decide), nI_1]
          · obtain ⟨h1, h2⟩ := gAccept f4 hi hj8 hne (f5 rfl)
            have ep : rI s' 25 (nI i) - 1 = nI (p' i - 1) := by
              have b1 := (f3.1 i hi)
              have b2 := (f3.1 j hj8).2
              have b3 := f5 rfl
              rw [rIn _ _ (by omega), b1.1]
              obtain ⟨z, hz⟩ : ∃ z, p' i = z + 1 := ⟨p' i - 1, by omega⟩
              rw [hz]; exact nI_pred z
            obtain ⟨y, y1, y2, y3⟩ := q_with (f3.2 i hi).1 hj8
            refine ⟨(c.1 + 1, fm_wr (fm_wr s' 25 i (nI (p' i - 1))) 26 i y), ?_, (j, i) :: I, fun v => if v = i then p' v - 1 else p' v, gUp a' i j true, (q1.trans f2).trans ((pgE.rfl.wr (by decide) _ _).wr (by decide) _ _), by show c.1 + 1 = _; rw [q2]; exact nI_1 _, gMax_add q3 ⟨hj8, hi, fun q => hne q.symm⟩ P' (gFree_swap.mp h1), ⟨fun v hv => ?_, fun v hv => ?_⟩, gInv_swap hi hj8 hne h2⟩
            · simp only [mX2_rankOf_L29]
              rw [if_neg (nI_ge hj (by omega)), hj0, b1s, if_neg (by decide), f1, b2s, if_neg (by decide)]
              simp only [chk8 hi (by decide), if_false]
              rw [ep, sIn _ _ _ (by omega), rIn _ _ (by omega), wrN _ _ (by omega), y1, b1s, sIn _ _ _ (by omega), nI_1]
            · have b1 := f3.1 v hv
              rw [wrN _ _ (by omega)]
              show _ = nI (if v = i then p' v - 1 else p' v) ∧ (if v = i then p' v - 1 else p' v) ≤ 2
              by_cases e : v = i
              · rw [if_pos e, e, wrS]
                have b2 := b1.2
                rw [e] at b2
                exact ⟨rfl, by omega⟩
              · rw [if_neg e, wrN _ _ (Or.inr e)]; exact b1
            · by_cases e : v = i
              · subst e
                rw [wrS]
                refine ⟨y2, fun w hw => ?_⟩
                rw [y3 w hw, (f3.2 v hv).2 w hw]
                unfold gUp
                by_cases e2 : w = j
                · subst e2; simp
                · simp [e2]
              · rw [wrN _ _ (Or.inr e), wrN _ _ (Or.inl (by omega))]
                refine ⟨(f3.2 v hv).1, fun w hw => ?_⟩
                rw [(f3.2 v hv).2 w hw]
                unfold gUp
                simp [e])
      fF 0 (x, u) (Nat.zero_le _) (by unfold fF; omega) hu
    exact ⟨y, v, e2, hq⟩
  obtain ⟨⟨y, v⟩, e2, I, b1, b2, b3⟩ := lpU (fun n x3 (c : Int32 × fm_S) => mX2_rankOf_L20 n c.1 x3 c.2) 8
    (fun i c => ∃ I p a, pgE s c.2 ∧ c.1 = nI I.length ∧ gMax (lP L i 0) I ∧ PA c.2 p a ∧ gInv p a I) (fun c => ∃ I : List (Nat × Nat), pgE s c.2 ∧ c.1 = nI I.length ∧ gMax (lP L 8 0) I)
    (fun n c ⟨I, p, a, q1, q2, q3, _⟩ => ⟨c, by simp only [mX2_rankOf_L20]; rw [show (8 : Int32) = nI 8 from rfl, if_pos (nI_le (Nat.le_refl _) (by decide))], I, q1, q2, q3⟩)
    (fun n i c hi hc => by
      obtain ⟨y, v, g1, g2⟩ := inner i hi c.1 c.2 hc
      refine ⟨(y, v), ?_, g2⟩
      simp only [mX2_rankOf_L20]
      rw [show (8 : Int32) = nI 8 from rfl, if_neg (nI_ge hi (by decide)), g1, b2s, nI_1])
    fF 0 (0, s1) (Nat.zero_le _) (by unfold fF; omega) ⟨[], _, _, g1, rfl, gMax_none (fun e he => by have := he.2.2.1; omega), pa1, gInv_nil⟩
  have e2 : mX2_rankOf_L20 fF 0 0 s1 = some (y, v) := e2
  dsimp only at b1 b2
  exact ⟨v, I, by rw [mX2_rankOf, e0, b1s, e1, b1s, e2, b2s, b2], b1, b3⟩
theorem pgE.scr {τ τ' : fm_S} (h : pgE τ τ') : scr τ τ' := fun a b hab => h a b (by omega)
end LVBD
