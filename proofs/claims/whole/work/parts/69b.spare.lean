section LVBF
def exf (i j k : Nat) : Bool := (k / 8 == i && k % 8 == j) || (k / 8 == j && k % 8 == i)
theorem hx_pair : ∀ i, i < 8 → ∀ j, j < 8 → ∀ k, k < 64 → (if nI (k / 8) = nI i then (if nI (k % 8) = nI j then some (1 : Int32) else if nI (k / 8) = nI j then (if nI (k % 8) = nI i then some 1 else some 0) else some 0) else if nI (k / 8) = nI j then (if nI (k % 8) = nI i then some 1 else some 0) else some 0) = some (bI (exf i j k)) := by decide +kernel
/-- a net less a pair -/
def lkx (L : Nat → Nat → Bool) (i j : Nat) : Nat → Nat → Bool := fun a b => L a b && !((a == i && b == j) || (a == j && b == i))
theorem k_cut20 {s : fm_S} {L : Nat → Nat → Bool} (hn : NV s L) {i j : Nat} (hi : i < 8) (hj : j < 8) (hij : i ≠ j) : ∃ s', mX1_cut20 (nI i) (nI j) s = some s' ∧ rowE 21 s s' ∧ NV s' (lkx L i j) := by
  obtain ⟨y, e1, y1, y2⟩ := q_without (hn i hi).1 hj
  obtain ⟨z, e2, z1, z2⟩ := q_without (hn j hj).1 hi
  have hz : (fm_wr s 21 i y).1 21 j = s.1 21 j := wrN _ _ (Or.inr (fun q => hij q.symm))
  refine ⟨fm_wr (fm_wr s 21 i y) 21 j z, ?_, (rowE.rfl.wr i y).wr j z, fun a ha => ?_⟩
  · rw [mX1_cut20]
    simp only [chk8 hi (by decide), chk8 hj (by decide), if_false, rIn _ _ (show i < 2 ^ 31 by omega), rIn _ _ (show j < 2 ^ 31 by omega), sIn _ _ _ (show i < 2 ^ 31 by omega), sIn _ _ _ (show j < 2 ^ 31 by omega)]
    rw [e1, b1s, hz, e2, b1s]
  · have hne : (i == j) = false := by simp [hij]
    have hne2 : (j == i) = false := beq_false_of_ne (fun q => hij q.symm)
    by_cases h1 : a = j
    · subst h1
      rw [wrS]
      refine ⟨z1, fun b hb => ?_⟩
      rw [z2 b hb, (hn a ha).2 b hb]
      unfold lkx
      rw [hne2]; simp
    · rw [wrN _ _ (Or.inr h1)]
      have h1' : (a == j) = false := by simp [h1]
      by_cases h2 : a = i
      · subst h2
        rw [wrS]
        refine ⟨y1, fun b hb => ?_⟩
        rw [y2 b hb, (hn a ha).2 b hb]
        unfold lkx
        rw [hne]; simp
      · rw [wrN _ _ (Or.inr h2)]
        have h2' : (a == i) = false := by simp [h2]
        refine ⟨(hn a ha).1, fun b hb => ?_⟩
        rw [(hn a ha).2 b hb]
        unfold lkx
        rw [h1', h2']; simp
theorem P_pair (τ : fm_S) (i j : Nat) (e : Nat × Nat) : rP τ (exf i j) 64 e ↔ lP (lkx (lk τ) i j) 8 0 e := by
  unfold rP lP lkx exf
  constructor
  · rintro ⟨w1, w2, w3, w4, w5⟩
    rw [show (8 * e.1 + e.2) / 8 = e.1 by omega, show (8 * e.1 + e.2) % 8 = e.2 by omega] at w5
    exact ⟨w1, w2, by omega, by rw [w4, w5] <;> rfl⟩
  · rintro ⟨w1, w2, w3, w4⟩
    rw [show (8 * e.1 + e.2) / 8 = e.1 by omega, show (8 * e.1 + e.2) % 8 = e.2 by omega]
    rw [Bool.and_eq_true, Bool.not_eq_true'] at w4
    exact ⟨w1, w2, by omega, w4.1, w4.2⟩
theorem lkx_symm {L : Nat → Nat → Bool} (hL : ∀ i, i < 8 → ∀ j, j < 8 → L i j = L j i) (i j : Nat) : ∀ a, a < 8 → ∀ b, b < 8 → lkx L i j a b = lkx L i j b a := by
  intro a ha b hb
  unfold lkx
  rw [hL a ha b hb, Bool.or_comm, Bool.and_comm (a == j), Bool.and_comm (a == i)]
set_option maxHeartbeats 1000000 in
theorem c_isSpare {τ : fm_S} (h : RR τ) (x1 x2 : Int32) : OZ (mL_isSpare x1 x2 τ) (mX5_isSpare x1 x2) := by
  obtain ⟨c, hw, hv⟩ := h
  have hc := hw.1
  have fail : ∀ E (r : Int32), mX4_isSpare x1 x2 τ = some (.error (E, τ)) → (E = "java/lang/IndexOutOfBoundsException" ∧ r = 1 ∨ E = "java/util/NoSuchElementException" ∧ r = 2) → mX5_isSpare x1 x2 τ = some (0, fm_wr τ 61 2 r) → OZ (mL_isSpare x1 x2 τ) (mX5_isSpare x1 x2) := by
    rintro E r e1 e2 e3
    refine ⟨r, τ, 0, fm_wr τ 61 2 r, ?_, e3, (bad hw hv r).1, fun q => ?_, (bad hw hv r).2⟩
    · rw [mL_isSpare, h2e (σ := τ) (E := E) e1]
      rcases e2 with ⟨rfl, rfl⟩ | ⟨rfl, rfl⟩ <;> rfl
    · rcases e2 with ⟨_, rfl⟩ | ⟨_, rfl⟩
      · exact absurd q (by decide)
      · exact absurd q (by decide)
  have fail1 : ¬ (mem x1 c ∧ mem x2 c) → mX4_isSpare x1 x2 τ = some (.error ("java/lang/IndexOutOfBoundsException", τ)) → OZ (mL_isSpare x1 x2 τ) (mX5_isSpare x1 x2) := fun hn e => by
    obtain ⟨p, q, g1, g2, g3⟩ := two_false hw hv hn
    refine fail _ 1 e (Or.inl ⟨rfl, rfl⟩) ?_
    rw [mX5_isSpare, k_two g1 g2, g3, if_pos (show bI false = 0 from rfl), b1s, show mX5_goes (bI false) (0 : Int32) τ = _ from k_goes false false τ, b2s] <;> rfl
  rcases k_req hw x1 with ⟨hm, f1⟩ | ⟨hm, f1⟩
  · rcases k_req hw x2 with ⟨hn, f2⟩ | ⟨hn, f2⟩
    · obtain ⟨i, hi, rfl⟩ := hm
      obtain ⟨j, hj, rfl⟩ := hn
      have hi8 : i < 8 := by omega
      have hj8 : j < 8 := by omega
      have hh := k_hears hw hi8 hj8
      cases hl : lk τ i j
      · rw [hl, if_neg (by decide)] at hh
        obtain ⟨t1, t2⟩ := two_true hw hv ⟨i, hi, rfl⟩ ⟨j, hj, rfl⟩
        refine fail _ 2 ?_ (Or.inr ⟨rfl, rfl⟩) ?_
        · rw [mX4_isSpare, f1, xo, f2, xo, hh, b1s, if_pos rfl]
        · rw [mX5_isSpare, k_two t1 t2, if_neg (by decide), k_linked hw hv hi hj, hl, if_neg (by decide), b1s, if_pos rfl, b1s, show mX5_goes (bI (true && true)) (0 : Int32) τ = _ from k_goes true false τ, b2s] <;> rfl
      · rw [hl, if_pos rfl] at hh
        have hij : i ≠ j := (lk_lt hw hi8 hj8 hl).2.2
        have hL : ∀ i, i < 8 → ∀ j, j < 8 → lk τ i j = lk τ j i := fun i hi j hj => lk_symm hw hi hj
        obtain ⟨τ1, e1, r1, n1⟩ := k_draw hw
        obtain ⟨τ2, I, e2, r2, g2⟩ := k_pebblesC hL n1
        obtain ⟨τ3, e3, r3, n3⟩ := k_cut20 (s := τ2) (L := lk τ) (fun b hb => by rw [r2 21 b (by omega)]; exact n1 b hb) hi8 hj8 hij
        obtain ⟨τ4, I', e4, r4, g4⟩ := k_pebblesC (lkx_symm hL i j) n3
        obtain ⟨v, hvv⟩ : ∃ v : Int64, v = if I'.length = I.length then 1 else 0 := ⟨_, rfl⟩
        have s1 : scr τ (sL τ4 55 (0 : Int32) v) := ((((scr.row r1 (by decide)).trans r2.scr).trans (scr.row r3 (by decide))).trans r4.scr).st v
        have hv1 := s1.mv hv
        have m2 := msc.last (sL τ4 55 (0 : Int32) v) 0
        have hv2 := m2.mv hv1
        obtain ⟨t1, t2⟩ := two_true hw hv1 ⟨i, hi, rfl⟩ ⟨j, hj, rfl⟩
        obtain ⟨σ3, J', d3, w3, g3⟩ := k_ranksM0 hw hv2 (hx_pair i hi8 j hj8)
        have m3 : msc _ σ3 := ⟨fun a b h1 _ => w3.1 a b (by omega), fun b => by rw [w3.2]⟩
        obtain ⟨σ4, J, d4, w4, g5⟩ := k_ranksM0 hw (m3.mv hv2) hx_none
        have m4 : msc σ3 σ4 := ⟨fun a b h1 _ => w4.1 a b (by omega), fun b => by rw [w4.2]⟩
        have l1 : I.length = J.length := gMax_eq (P_ok τ) g2 (gMax_iff g5 (fun e => (P_same τ e).symm))
        have l2 : I'.length = J'.length := gMax_eq (lP_ok _) g4 (gMax_iff g3 (fun e => (P_pair τ i j e).symm))
        have b1 := gMax_len g2
        have b2 := gMax_len g4
        have eqn : nI I'.length = nI I.length ↔ I'.length = I.length := nI_eq (by omega) (by omega)
        refine ⟨0, sL τ4 55 (0 : Int32) v, if I'.length = I.length then 1 else 0, σ4, ?_, ?_, ?_, ?_, ro hw hv s1 ((m2.trans m3).trans m4)⟩
        · rw [mL_isSpare, h2o (r := if I'.length = I.length then 1 else 0) (σ := τ4)]
          · by_cases q : I'.length = I.length
            · rw [if_pos q] at hvv
              rw [if_pos q, if_neg (by decide), b1s, hvv]; simp only [chk1, if_false]
            · rw [if_neg q] at hvv
              rw [if_neg q, if_pos rfl, b1s, hvv]; simp only [chk1, if_false]
          · rw [mX4_isSpare, f1, xo, f2, xo, hh, b1s, if_neg (by decide), e1, b1s, e2, b2s, e3, b1s, e4, b2s]
            by_cases q : I'.length = I.length
            · rw [if_pos (eqn.mpr q), if_pos q]
            · rw [if_neg (fun w => q (eqn.mp w)), if_neg q]
        · rw [mX5_isSpare, k_two t1 t2, if_neg (by decide), k_linked hw hv1 hi hj, hl, if_pos rfl, b1s, if_neg (by decide), b1s, show mX5_goes (bI (true && true)) (1 : Int32) (sL τ4 55 (0 : Int32) v) = _ from k_goes true true _, b2s, if_neg (by decide)]
          show mb2 (mX5_ranks (nI i) (nI j) (fm_wr (sL τ4 55 (0 : Int32) v) 61 2 0)) _ = _
          rw [d3, b2s, d4, b2s, ← l1, ← l2]
          by_cases q : I'.length = I.length
          · rw [if_pos (eqn.mpr q), if_pos q]
          · rw [if_neg (fun w => q (eqn.mp w)), if_neg q]
        · rw [k_thrown, w4.1 61 2 (by omega), w3.1 61 2 (by omega), wrS]
        · intro _
          rw [m4.r55, m3.r55, m2.r55, st55, hvv]
          by_cases q : I'.length = I.length
          · rw [if_pos q, if_pos q] <;> rfl
          · rw [if_neg q, if_neg q] <;> rfl
    · refine fail1 (fun q => hn q.2) (by rw [mX4_isSpare, f1, xo, f2, xe])
  · refine fail1 (fun q => hm q.1) (by rw [mX4_isSpare, f1, xe])
end LVBF
