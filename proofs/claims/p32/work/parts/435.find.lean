section LVBA
theorem q_m1 : ∀ j, j < 8 → Nat.testBit 4294967295 j = true := by decide +kernel
/-- a set less another -/
theorem q_andn {x y : Int32} (hx : m8 x) (hy : m8 y) : m8 (x &&& (y ^^^ (-1 : Int32))) ∧ ∀ j, j < 8 → mk (x &&& (y ^^^ (-1 : Int32))) j = (mk x j && !(mk y j)) := by
  obtain ⟨m, hm, rfl⟩ := hx
  obtain ⟨n, hn, rfl⟩ := hy
  have h1 : (-1 : Int32).toBitVec.toNat = 4294967295 := by decide
  have h2 : m &&& (n ^^^ 4294967295) < 256 := Nat.lt_of_le_of_lt Nat.and_le_left hm
  have h3 : nI m &&& (nI n ^^^ (-1 : Int32)) = nI (m &&& (n ^^^ 4294967295)) := by
    apply Int32.toBitVec_inj.mp
    apply BitVec.eq_of_toNat_eq
    rw [Int32.toBitVec_and, Int32.toBitVec_xor, BitVec.toNat_and, BitVec.toNat_xor, h1, pk_tn (by omega), pk_tn (by omega), pk_tn (by omega)]
  rw [h3]
  refine ⟨⟨_, h2, rfl⟩, fun j hj => ?_⟩
  rw [mkn (by omega), mkn (by omega), mkn (by omega), Nat.testBit_and, Nat.testBit_xor, q_m1 j hj]
  cases m.testBit j <;> cases n.testBit j <;> rfl
theorem k_note {s : fm_S} {fr : Int32} (hf : m8 fr) (x : Int32) : ∃ s', mX2_noteWay x fr s = some s' ∧ rowE 27 s s' ∧ ∀ v, v < 8 → s'.1 27 v = if mk fr v = true then x else s.1 27 v := by
  obtain ⟨t, e1, t1, t2⟩ := lpU (fun n x3 u => mX2_noteWay_L2 n x fr x3 u) 8 (fun k u => rowE 27 s u ∧ ∀ v, v < 8 → u.1 27 v = if v < k ∧ mk fr v = true then x else s.1 27 v) (fun u => rowE 27 s u ∧ ∀ v, v < 8 → u.1 27 v = if v < 8 ∧ mk fr v = true then x else s.1 27 v)
    (fun n u hu => ⟨u, by simp only [mX2_noteWay_L2]; rw [show (8 : Int32) = nI 8 from rfl, if_pos (nI_le (Nat.le_refl _) (by decide))], hu⟩)
    (fun n k u hk hu => by
      have hh := q_holds hf hk
      cases z : mk fr k
      · rw [z, if_neg (by decide)] at hh
        refine ⟨u, ?_, hu.1, fun v hv => ?_⟩
        · simp only [mX2_noteWay_L2]
          rw [show (8 : Int32) = nI 8 from rfl, if_neg (nI_ge hk (by decide)), hh, b1s, if_pos rfl, nI_1]
        · rw [hu.2 v hv]
          by_cases w : v < k ∧ mk fr v = true
          · rw [if_pos w, if_pos ⟨by omega, w.2⟩]
          · rw [if_neg w, if_neg (fun q => by
              by_cases e : v = k
              · rw [e, z] at q; cases q.2
              · exact w ⟨by omega, q.2⟩)]
      · rw [z, if_pos rfl] at hh
        refine ⟨fm_wr u 27 k x, ?_, hu.1.wr _ _, fun v hv => ?_⟩
        · simp only [mX2_noteWay_L2]
          rw [show (8 : Int32) = nI 8 from rfl, if_neg (nI_ge hk (by decide)), hh, b1s, if_neg (by decide)]
          simp only [chk8 hk (by decide), if_false]
          rw [sIn _ _ _ (by omega), nI_1]
        · by_cases e : v = k
          · subst e; rw [wrS, if_pos ⟨by omega, z⟩]
          · rw [wrN _ _ (Or.inr e), hu.2 v hv]
            by_cases w : v < k ∧ mk fr v = true
            · rw [if_pos w, if_pos ⟨by omega, w.2⟩]
            · rw [if_neg w, if_neg (fun q => w ⟨by omega, q.2⟩)])
    fF 0 s (Nat.zero_le _) (by unfold fF; omega) ⟨rowE.rfl, fun v _ => by rw [if_neg (fun q => by omega)]⟩
  have e1 : mX2_noteWay_L2 fF x fr 0 s = some t := e1
  refine ⟨t, by rw [mX2_noteWay, e1, b1s], t1, fun v hv => ?_⟩
  rw [t2 v hv]
  by_cases w : mk fr v = true
  · rw [if_pos w, if_pos ⟨hv, w⟩]
  · rw [if_neg w, if_neg (fun q => w q.2)]
/-- the pebbles and the arcs of a store -/
def PA (s : fm_S) (p : Nat → Nat) (a : Nat → Nat → Bool) : Prop := (∀ v, v < 8 → s.1 25 v = nI (p v) ∧ p v ≤ 2) ∧ ∀ v, v < 8 → m8 (s.1 26 v) ∧ ∀ w, w < 8 → mk (s.1 26 v) w = a v w
theorem PA.of {s s' : fm_S} {p : Nat → Nat} {a : Nat → Nat → Bool} (h : PA s p a) (e : rowE 27 s s') : PA s' p a :=
  ⟨fun v hv => by rw [e.1 25 v (by omega)]; exact h.1 v hv, fun v hv => by rw [e.1 26 v (by omega)]; exact h.2 v hv⟩
theorem k_holder {s : fm_S} {p : Nat → Nat} {a : Nat → Nat → Bool} (hs : PA s p a) {x : Int32} (hx : m8 x) : ∃ r, mX2_holderAmong x s = some r ∧ ((∃ h, h < 8 ∧ r = nI h ∧ mk x h = true ∧ 0 < p h) ∨ (r = -1 ∧ ∀ v, v < 8 → mk x v = true → p v = 0)) := by
  obtain ⟨t, e1, t1⟩ := lpE (fun n x2 (_ : Unit) => mX2_holderAmong_L2 n x x2 s) 8 (fun k _ => ∀ v, v < k → mk x v = true → p v = 0)
    (fun t => (∃ h, h < 8 ∧ t = .error (nI h) ∧ mk x h = true ∧ 0 < p h) ∨ (t = .ok () ∧ ∀ v, v < 8 → mk x v = true → p v = 0))
    (fun n _ hu => ⟨.ok (), by simp only [mX2_holderAmong_L2]; rw [show (8 : Int32) = nI 8 from rfl, if_pos (nI_le (Nat.le_refl _) (by decide))], Or.inr ⟨rfl, hu⟩⟩)
    (fun n k _ hk hu => by
      have hh := q_holds hx hk
      obtain ⟨hp1, hp2⟩ := hs.1 k hk
      cases z : mk x k
      · rw [z, if_neg (by decide)] at hh
        left
        refine ⟨(), ?_, fun v hv hm => ?_⟩
        · simp only [mX2_holderAmong_L2]
          rw [show (8 : Int32) = nI 8 from rfl, if_neg (nI_ge hk (by decide)), hh, b1s, if_pos rfl, nI_1]
        · by_cases e : v = k
          · rw [e, z] at hm; cases hm
          · exact hu v (by omega) hm
      · rw [z, if_pos rfl] at hh
        by_cases q : p k = 0
        · left
          refine ⟨(), ?_, fun v hv hm => ?_⟩
          · simp only [mX2_holderAmong_L2]
            rw [show (8 : Int32) = nI 8 from rfl, if_neg (nI_ge hk (by decide)), hh, b1s, if_neg (by decide)]
            simp only [chk8 hk (by decide), if_false]
            rw [rIn _ _ (by omega), hp1, q, if_pos (by decide), nI_1]
          · by_cases e : v = k
            · rw [e]; exact q
            · exact hu v (by omega) hm
        · right
          refine ⟨.error (nI k), ?_, Or.inl ⟨k, hk, rfl, z, by omega⟩⟩
          simp only [mX2_holderAmong_L2]
          rw [show (8 : Int32) = nI 8 from rfl, if_neg (nI_ge hk (by decide)), hh, b1s, if_neg (by decide)]
          simp only [chk8 hk (by decide), if_false]
          rw [rIn _ _ (by omega), hp1, if_neg (nI_nle (by omega) (by omega))])
    fF 0 () (Nat.zero_le _) (by unfold fF; omega) (fun v hv => absurd hv (by omega))
  have e1 : mX2_holderAmong_L2 fF x 0 s = some t := e1
  rw [mX2_holderAmong, e1]
  rcases t1 with ⟨h, h1, rfl, h2, h3⟩ | ⟨rfl, h⟩
  · exact ⟨nI h, rfl, Or.inl ⟨h, h1, rfl, h2, h3⟩⟩
  · exact ⟨-1, rfl, Or.inr ⟨rfl, h⟩⟩
/-- the ways back, by legs -/
def WY (s : fm_S) (a : Nat → Nat → Bool) (x : Nat) (r : Nat → Nat) : Prop := ∀ v, v < 8 → (r v = 0 → s.1 27 v = -1) ∧ (0 < r v → ∃ u, u < 8 ∧ s.1 27 v = nI u ∧ a u v = true ∧ r u < r v ∧ (r u = 0 → u = x))
/-- while a leg is walked: x6 is what it reached so far, from the edge's members below k -/
def LG (s0 : fm_S) (p : Nat → Nat) (a : Nat → Nat → Bool) (x y l : Nat) (sn ed : Int32) (k : Nat) (x6 : Int32) (s : fm_S) : Prop :=
  rowE 27 s0 s ∧ m8 x6 ∧ (∀ v, v < 8 → (mk x6 v = true ↔ mk sn v = false ∧ ∃ u, u < k ∧ mk ed u = true ∧ a u v = true)) ∧
  ∃ r : Nat → Nat, WY s a x r ∧ (∀ v, v < 8 → r v ≤ l) ∧ (∀ v, v < 8 → 0 < r v → mk sn v = true ∨ mk x6 v = true) ∧ (∀ u, u < 8 → mk ed u = true → r u < l ∧ (r u = 0 → u = x)) ∧ (∀ v, v < 8 → mk x6 v = true → r v = l) ∧ r x = 0 ∧ r y = 0
theorem k_leg {s0 s : fm_S} {p : Nat → Nat} {a : Nat → Nat → Bool} (hs : PA s0 p a) {x y l : Nat} (hx : x < 8) (hy : y < 8) (hl : 0 < l) {sn ed : Int32} (hsn : m8 sn) (hed : m8 ed) (hxs : mk sn x = true) (hys : mk sn y = true) (hes : ∀ v, v < 8 → mk ed v = true → mk sn v = true)
    (h0 : LG s0 p a x y l sn ed 0 0 s) : ∃ x6 s', mX2_findPebble_L41 fF sn ed 0 0 s = some (x6, s') ∧ LG s0 p a x y l sn ed 8 x6 s' := by
  obtain ⟨⟨x6, s'⟩, e1, t1⟩ := lpU (fun n x7 (u : Int32 × fm_S) => mX2_findPebble_L41 n sn ed u.1 x7 u.2) 8 (fun k u => LG s0 p a x y l sn ed k u.1 u.2) (fun u => LG s0 p a x y l sn ed 8 u.1 u.2)
    (fun n u hu => ⟨u, by simp only [mX2_findPebble_L41]; rw [show (8 : Int32) = nI 8 from rfl, if_pos (nI_le (Nat.le_refl _) (by decide))], hu⟩)
    (fun n k u hk hu => by
      have hh := q_holds hed hk
      obtain ⟨b1, b2, b3, r, c1, c2, c3, c4, c5, c6, c7⟩ := hu
      cases z : mk ed k
      · rw [z, if_neg (by decide)] at hh
        refine ⟨u, ?_, b1, b2, fun v hv => (b3 v hv).trans ?_, r, c1, c2, c3, c4, c5, c6, c7⟩
        · simp only [mX2_findPebble_L41]
          rw [show (8 : Int32) = nI 8 from rfl, if_neg (nI_ge hk (by decide)), hh, b1s, if_pos rfl, nI_1]
        · constructor
          · rintro ⟨q1, w, q2, q3, q4⟩; exact ⟨q1, w, by omega, q3, q4⟩
          · rintro ⟨q1, w, q2, q3, q4⟩
            refine ⟨q1, w, ?_, q3, q4⟩
            by_cases e : w = k
            · rw [e, z] at q3; cases q3
            · omega
      · rw [z, if_pos rfl] at hh
        obtain ⟨ha1, ha2⟩ := (hs.of b1).2 k hk
        obtain ⟨f1, f2⟩ := q_andn ha1 hsn
        obtain ⟨g1, g2⟩ := q_andn f1 b2
        obtain ⟨F, hfr⟩ : ∃ F, ((u.2.1 26 k &&& (sn ^^^ (-1 : Int32))) &&& (u.1 ^^^ (-1 : Int32))) = F := ⟨_, rfl⟩
        rw [hfr] at g1 g2
        obtain ⟨s2, n1, n2, n3⟩ := k_note (s := u.2) g1 (nI k)
        obtain ⟨o1, o2⟩ := q_or2 b2 g1
        have fr : ∀ v, v < 8 → mk F v = (a k v && !(mk sn v) && !(mk u.1 v)) := fun v hv => by rw [g2 v hv, f2 v hv, ha2 v hv]
        have r0 : ∀ v, v < 8 → mk F v = true → r v = 0 := fun v hv hm => by
          rw [fr v hv] at hm
          simp only [Bool.and_eq_true, Bool.not_eq_true'] at hm
          apply Classical.byContradiction
          intro q
          rcases c3 v hv (by omega) with w | w
          · rw [w] at hm; cases hm.1.2
          · rw [w] at hm; cases hm.2
        have nx : ∀ v, mk sn v = true → v < 8 → ¬ mk F v = true := fun v hm hv q => by
          rw [fr v hv, hm] at q
          simp at q
        refine ⟨(u.1 ||| F, s2), ?_, b1.trans n2, o1, fun v hv => ?_, fun v => if mk F v = true then l else r v, fun v hv => ?_, fun v hv => ?_, fun v hv h => ?_, fun w hw h => ?_, fun v hv h => ?_, ?_, ?_⟩
        · simp only [mX2_findPebble_L41]
          rw [show (8 : Int32) = nI 8 from rfl, if_neg (nI_ge hk (by decide)), hh, b1s, if_neg (by decide)]
          simp only [chk8 hk (by decide), if_false]
          rw [rIn _ _ (by omega), hfr, n1, b1s, nI_1]
        · show mk (u.1 ||| F) v = true ↔ mk sn v = false ∧ ∃ w, w < k + 1 ∧ mk ed w = true ∧ a w v = true
          rw [o2 v, Bool.or_eq_true, b3 v hv, fr v hv]
          simp only [Bool.and_eq_true, Bool.not_eq_true']
          constructor
          · rintro (⟨q1, w, q2, q3, q4⟩ | ⟨⟨q1, q2⟩, q3⟩)
            · exact ⟨q1, w, by omega, q3, q4⟩
            · exact ⟨q2, k, by omega, z, q1⟩
          · rintro ⟨q1, w, q2, q3, q4⟩
            by_cases e : mk u.1 v = true
            · exact Or.inl ((b3 v hv).mp e)
            · by_cases e2 : w = k
              · subst e2; exact Or.inr ⟨⟨q4, q1⟩, Bool.eq_false_iff.mpr e⟩
              · exact Or.inl ⟨q1, w, by omega, q3, q4⟩
        · show ((if mk F v = true then l else r v) = 0 → s2.1 27 v = -1) ∧ (0 < (if mk F v = true then l else r v) → ∃ w, w < 8 ∧ s2.1 27 v = nI w ∧ a w v = true ∧ (if mk F w = true then l else r w) < (if mk F v = true then l else r v) ∧ ((if mk F w = true then l else r w) = 0 → w = x))
          rw [n3 v hv]
          by_cases e : mk F v = true
          · simp only [if_pos e]
            refine ⟨fun q => absurd q (by omega), fun _ => ⟨k, hk, rfl, ?_, ?_⟩⟩
            · rw [fr v hv] at e
              simp only [Bool.and_eq_true] at e
              exact e.1.1
            · rw [if_neg (nx k (hes k hk z) hk)]
              exact c4 k hk z
          · simp only [if_neg e]
            refine ⟨(c1 v hv).1, fun q => ?_⟩
            obtain ⟨w, w1, w2, w3, w4, w5⟩ := (c1 v hv).2 q
            have nw : ¬ mk F w = true := fun h => by
              have := w5 (r0 w w1 h)
              rw [this] at h
              exact nx x hxs hx h
            refine ⟨w, w1, w2, w3, ?_⟩
            rw [if_neg nw]
            exact ⟨w4, w5⟩
        · by_cases e : mk F v = true
          · exact Nat.le_of_eq (if_pos e)
          · exact Nat.le_trans (Nat.le_of_eq (if_neg e)) (c2 v hv)
        · show mk sn v = true ∨ mk (u.1 ||| F) v = true
          have h : 0 < (if mk F v = true then l else r v) := h
          rw [o2 v, Bool.or_eq_true]
          by_cases e : mk F v = true
          · exact Or.inr (Or.inr e)
          · rw [if_neg e] at h
            rcases c3 v hv h with q | q
            · exact Or.inl q
            · exact Or.inr (Or.inl q)
        · show (if mk F w = true then l else r w) < l ∧ ((if mk F w = true then l else r w) = 0 → w = x)
          rw [if_neg (nx w (hes w hw h) hw)]; exact c4 w hw h
        · have h : mk (u.1 ||| F) v = true := h
          rw [o2 v, Bool.or_eq_true] at h
          by_cases e : mk F v = true
          · exact if_pos e
          · exact (if_neg e).trans (c5 v hv (h.elim id (fun q => absurd q e)))
        · exact (if_neg (nx x hxs hx)).trans c6
        · exact (if_neg (nx y hys hy)).trans c7)
    fF 0 (0, s) (Nat.zero_le _) (by unfold fF; omega) h0
  exact ⟨x6, s', e1, t1⟩
end LVBA
