section LVBC
/-- the arcs of a store -/
def AR (s : fm_S) (a : Nat → Nat → Bool) : Prop := ∀ v, v < 8 → m8 (s.1 26 v) ∧ ∀ w, w < 8 → mk (s.1 26 v) w = a v w
theorem AR.turn {s : fm_S} {a : Nat → Nat → Bool} (h : AR s a) {u t : Nat} (hu : u < 8) (ht : t < 8) (hne : u ≠ t) : ∃ y z, mX1_without (s.1 26 u) (nI t) = some y ∧ mX1_with (s.1 26 t) (nI u) = some z ∧ AR (fm_wr (fm_wr s 26 u y) 26 t z) (gUp (gUp a u t false) t u true) := by
  obtain ⟨y, y1, y2, y3⟩ := q_without (h u hu).1 ht
  obtain ⟨z, z1, z2, z3⟩ := q_with (h t ht).1 hu
  refine ⟨y, z, y1, z1, fun v hv => ?_⟩
  by_cases e : v = t
  · subst e
    rw [wrS]
    refine ⟨z2, fun w hw => ?_⟩
    rw [z3 w hw, (h v hv).2 w hw]
    unfold gUp
    by_cases e2 : w = u
    · subst e2; simp
    · have : ¬ v = u := fun q => hne q.symm
      simp [e2, this]
  · rw [wrN _ _ (Or.inr e)]
    by_cases e2 : v = u
    · subst e2
      rw [wrS]
      refine ⟨y2, fun w hw => ?_⟩
      rw [y3 w hw, (h v hv).2 w hw]
      unfold gUp
      by_cases e3 : w = t
      · subst e3; simp [e]
      · simp [e3, e]
    · rw [wrN _ _ (Or.inr e2)]
      refine ⟨(h v hv).1, fun w hw => ?_⟩
      rw [(h v hv).2 w hw]
      unfold gUp
      simp [e, e2]
theorem k_turn {s : fm_S} {p : Nat → Nat} {a : Nat → Nat → Bool} {S : List (Nat × Nat)} {t en : Nat} {r : Nat → Nat} (ha : AR s a) (hg : gTurn p a S t en) (hw : WY s a en r) (ht : t < 8) (h7 : r t ≤ 7) (h0 : 0 < r t) : ∃ s' a', mX2_turnArcs (nI t) s = some s' ∧ rowE 26 s s' ∧ AR s' a' ∧ gInv p a' S := by
  obtain ⟨q, e1, s', a', q1, q2, q3, q4⟩ := lpE (fun n x3 (u : Int32 × fm_S) => mX2_turnArcs_L4 n u.1 x3 u.2) 8
    (fun l u => ∃ t b, t < 8 ∧ u.1 = nI t ∧ rowE 26 s u.2 ∧ AR u.2 b ∧ gTurn p b S t en ∧ r t + l ≤ 8 ∧ (r t = 0 → t = en) ∧ ∀ v, v < 8 → r v ≤ r t → (r v = 0 → s.1 27 v = -1) ∧ (0 < r v → ∃ u, u < 8 ∧ s.1 27 v = nI u ∧ b u v = true ∧ r u < r v ∧ (r u = 0 → u = en)))
    (fun q => ∃ s' a', (q = .ok s' ∨ q = .error s') ∧ rowE 26 s s' ∧ AR s' a' ∧ gInv p a' S)
    (fun n u ⟨t, b, b1, b2, b3, b4, b5, b6, b7, b8⟩ => by
      have := b7 (by omega)
      subst this
      exact ⟨.ok u.2, by simp only [mX2_turnArcs_L4]; rw [show (8 : Int32) = nI 8 from rfl, if_pos (nI_le (Nat.le_refl _) (by decide))], u.2, b, Or.inl rfl, b3, b4, gTurn_end b5⟩)
    (fun n l u hl ⟨t, b, b1, b2, b3, b4, b5, b6, b7, b8⟩ => by
      have e27 : rI u.2 27 (nI t) = s.1 27 t := by rw [rIn _ _ (by omega)]; exact b3.1 27 t (by omega)
      by_cases z : r t = 0
      · right
        have := b7 z
        subst this
        refine ⟨.error u.2, ?_, u.2, b, Or.inr rfl, b3, b4, gTurn_end b5⟩
        simp only [mX2_turnArcs_L4]
        rw [show (8 : Int32) = nI 8 from rfl, if_neg (nI_ge hl (by decide)), b2]
        simp only [chk8 b1 (by decide), if_false]
        rw [e27, (b8 _ b1 (Nat.le_refl _)).1 z, if_neg (by decide)]
      · left
        obtain ⟨w, w1, w2, w3, w4, w5⟩ := (b8 t b1 (Nat.le_refl _)).2 (by omega)
        have hne : w ≠ t := fun q => by rw [q] at w4; omega
        obtain ⟨y, z2, y1, z1, hA⟩ := b4.turn w1 b1 hne
        have hz : (fm_wr u.2 26 w y).1 26 t = u.2.1 26 t := wrN _ _ (Or.inr (fun q => hne q.symm))
        refine ⟨(nI w, fm_wr (fm_wr u.2 26 w y) 26 t z2), ?_, w, _, w1, rfl, (b3.wr _ _).wr _ _, hA, gTurn_step b5 w1 b1 w3, by omega, w5, fun v hv hv2 => ⟨(b8 v hv (by omega)).1, fun h => ?_⟩⟩
        · simp only [mX2_turnArcs_L4]
          rw [show (8 : Int32) = nI 8 from rfl, if_neg (nI_ge hl (by decide)), b2]
          simp only [chk8 b1 (by decide), if_false]
          rw [e27, w2, if_pos (nI_pos' (by omega))]
          simp only [chk8 w1 (by decide), if_false]
          simp only [rIn _ _ (show w < 2 ^ 31 by omega), rIn _ _ (show t < 2 ^ 31 by omega), sIn _ _ _ (show w < 2 ^ 31 by omega), sIn _ _ _ (show t < 2 ^ 31 by omega)]
          rw [y1, b1s, hz, z1, b1s, nI_1]
        · obtain ⟨u2, k1, k2, k3, k4, k5⟩ := (b8 v hv (by omega)).2 h
          refine ⟨u2, k1, k2, ?_, k4, k5⟩
          unfold gUp
          rw [if_neg (fun q => by have := q.1; have q2 := q.2; subst q2; subst this; omega), if_neg (fun q => by have q2 := q.2; subst q2; omega)]
          exact k3)
    fF 1 (nI t, s) (by omega) (by unfold fF; omega) ⟨t, a, ht, rfl, rowE.rfl, ha, hg, by omega, fun q => by omega, fun v hv _ => hw v hv⟩
  have e1 : mX2_turnArcs_L4 fF (nI t) 1 s = some q := e1
  refine ⟨s', a', ?_, q2, q3, q4⟩
  rw [mX2_turnArcs, e1]
  rcases q1 with rfl | rfl <;> rfl
def pgE (σ σ' : fm_S) : Prop := ∀ a b, a < 25 ∨ 27 < a → σ'.1 a b = σ.1 a b
theorem pgE.rfl {σ : fm_S} : pgE σ σ := fun _ _ _ => Eq.refl _
theorem pgE.trans {a b c : fm_S} (h : pgE a b) (h' : pgE b c) : pgE a c := fun x y z => (h' x y z).trans (h x y z)
theorem pgE.row {σ σ' : fm_S} {q : Nat} (h : rowE q σ σ') (hq : 25 ≤ q ∧ q ≤ 27) : pgE σ σ' := fun a b hab => h.1 a b (by omega)
theorem pgE.wr {σ s : fm_S} (h : pgE σ s) {q : Nat} (hq : 25 ≤ q ∧ q ≤ 27) (i : Nat) (v : Int32) : pgE σ (fm_wr s q i v) := fun a b hab => by rw [wrN _ _ (by omega)]; exact h a b hab
theorem k_fetch {s : fm_S} {p : Nat → Nat} {a : Nat → Nat → Bool} {S : List (Nat × Nat)} (hs : PA s p a) (hg : gInv p a S) {x y : Nat} (hx : x < 8) (hy : y < 8) (hne : x ≠ y) : ∃ r s', mX2_fetchPebble (nI x) (nI y) s = some (r, s') ∧ pgE s s' ∧ ((r = 1 ∧ ∃ p' a', PA s' p' a' ∧ gInv p' a' S ∧ p' x = p x + 1 ∧ p' y = p y) ∨ (r = 0 ∧ PA s' p a ∧ FN p a x y)) := by
  obtain ⟨r, s1, e1, r1, h1⟩ := k_find hs hx hy hne
  rcases h1 with ⟨h, rfl, h8, hhx, hhy, hp, k, k1, k2, k3, k4⟩ | ⟨rfl, hn⟩
  · have hs1 := hs.of r1
    obtain ⟨p1, p2⟩ := hs1.1 h h8
    obtain ⟨x1, x2⟩ := hs1.1 x hx
    have hT := gTurn_start hg (t := h) (en := x) hhx hp
    have ep : s1.1 25 h - 1 = nI (p h - 1) := by
      obtain ⟨z, hz⟩ : ∃ z, p h = z + 1 := ⟨p h - 1, by omega⟩
      rw [p1, hz]; exact nI_pred z
    have ex : (fm_wr s1 25 h (nI (p h - 1))).1 25 x = nI (p x) := by rw [wrN _ _ (Or.inr (fun q => hhx q.symm))]; exact x1
    obtain ⟨s', a', t1, t2, t3, t4⟩ := k_turn (s := fm_wr (fm_wr s1 25 h (nI (p h - 1))) 25 x (nI (p x + 1))) (a := a) (r := k) (fun v hv => hs1.2 v hv) hT (fun v hv => k1 v hv) h8 k2 k3
    refine ⟨1, s', ?_, ((pgE.row r1 (by decide)).trans ((pgE.rfl.wr (by decide) _ _).wr (by decide) _ _)).trans (pgE.row t2 (by decide)), Or.inl ⟨rfl, fun v => if v = x then p v + 1 else if v = h then p v - 1 else p v, a', ⟨fun v hv => ?_, t3⟩, t4, ?_, ?_⟩⟩
    · rw [mX2_fetchPebble, e1, b2s, if_pos (nI_pos' (by omega))]
      simp only [chk8 h8 (by decide), chk8 hx (by decide), if_false]
      simp only [rIn _ _ (show h < 2 ^ 31 by omega), rIn _ _ (show x < 2 ^ 31 by omega), sIn _ _ _ (show h < 2 ^ 31 by omega), sIn _ _ _ (show x < 2 ^ 31 by omega)]
      rw [ep, ex, nI_1, t1, b1s]
    · have hv2 := t4.1 v hv
      refine ⟨?_, Nat.le.intro hv2⟩
      rw [t2.1 25 v (by omega)]
      show _ = nI (if v = x then p v + 1 else if v = h then p v - 1 else p v)
      by_cases e : v = x
      · rw [if_pos e, e, wrS]
      · rw [if_neg e, wrN _ _ (Or.inr e)]
        by_cases e2 : v = h
        · rw [if_pos e2, e2, wrS]
        · rw [if_neg e2, wrN _ _ (Or.inr e2)]; exact (hs1.1 v hv).1
    · show (if x = x then p x + 1 else if x = h then p x - 1 else p x) = _
      rw [if_pos rfl]
    · show (if y = x then p y + 1 else if y = h then p y - 1 else p y) = _
      rw [if_neg (fun q => hne q.symm), if_neg (fun q => hhy q.symm)]
  · refine ⟨0, s1, ?_, pgE.row r1 (by decide), Or.inr ⟨rfl, hs.of r1, hn⟩⟩
    rw [mX2_fetchPebble, e1, b2s, if_neg (by decide)]
theorem k_gather {s : fm_S} {p : Nat → Nat} {a : Nat → Nat → Bool} {S : List (Nat × Nat)} (hs : PA s p a) (hg : gInv p a S) {x y : Nat} (hx : x < 8) (hy : y < 8) (hne : x ≠ y) : ∃ (b : Bool) (s' : fm_S) (p' : Nat → Nat) (a' : Nat → Nat → Bool), mX2_gatherPebbles (nI x) (nI y) s = some (bI b, s') ∧ pgE s s' ∧ PA s' p' a' ∧ gInv p' a' S ∧ (b = true → p' x + p' y = 4) ∧ (b = false → ¬ gFree ((x, y) :: S)) := by
  have ge : ∀ (u : fm_S) (p : Nat → Nat) (a : Nat → Nat → Bool), PA u p a → rI u 25 (nI x) + rI u 25 (nI y) = nI (p x + p y) := fun u p a h => by
    rw [rIn _ _ (by omega), rIn _ _ (by omega), (h.1 x hx).1, (h.1 y hy).1, nI_add]
  obtain ⟨q, e1, q1⟩ := lpE (fun n x3 (u : fm_S) => mX2_gatherPebbles_L2 n (nI x) (nI y) x3 u) 4
    (fun l u => ∃ p a, pgE s u ∧ PA u p a ∧ gInv p a S ∧ l ≤ p x + p y)
    (fun q => (∃ u p a, q = .ok u ∧ pgE s u ∧ PA u p a ∧ gInv p a S ∧ 4 ≤ p x + p y) ∨ ∃ (b : Bool) (u : fm_S) (p : Nat → Nat) (a : Nat → Nat → Bool), q = .error (bI b, u) ∧ pgE s u ∧ PA u p a ∧ gInv p a S ∧ (b = true → 4 ≤ p x + p y) ∧ (b = false → ¬ gFree ((x, y) :: S)))
    (fun n u ⟨p, a, b1, b2, b3, b4⟩ => ⟨.ok u, by simp only [mX2_gatherPebbles_L2]; rw [show (4 : Int32) = nI 4 from rfl, if_pos (nI_le (Nat.le_refl _) (by decide))], Or.inl ⟨u, p, a, rfl, b1, b2, b3, b4⟩⟩)
    (fun n l u hl ⟨p, a, b1, b2, b3, b4⟩ => by
      have px := (b2.1 x hx).2
      have py := (b2.1 y hy).2
      by_cases z : p x + p y < 4
      · have st : ∀ T, mX2_gatherPebbles_L2 (n + 1) (nI x) (nI y) (nI l) u = T ↔ (mb2 (mX2_fetchPebble (nI x) (nI y) u) fun r29 σ29 => if r29 = 0 then mb2 (mX2_fetchPebble (nI y) (nI x) σ29) fun r38 σ38 => if r38 = 0 then some (.error ((0 : Int32), σ38)) else mX2_gatherPebbles_L2 n (nI x) (nI y) (nI l + 1) σ38 else mX2_gatherPebbles_L2 n (nI x) (nI y) (nI l + 1) σ29) = T := fun T => by
          simp only [mX2_gatherPebbles_L2]
          rw [show (4 : Int32) = nI 4 from rfl, if_neg (nI_ge hl (by decide))]
          simp only [chk8 hx (by decide), chk8 hy (by decide), if_false]
          rw [ge u p a b2, if_pos (nI_lt z (by decide))]
        obtain ⟨r, s1, f1, f2, f3⟩ := k_fetch b2 b3 hx hy hne
        rcases f3 with ⟨rfl, p', a', g1, g2, g3, g4⟩ | ⟨rfl, g1, V, v1, v2, v3, v4⟩
        · left
          refine ⟨s1, ?_, p', a', b1.trans f2, g1, g2, by omega⟩
          refine (st _).mpr ?_
          rw [f1, b2s, if_neg (by decide), nI_1]
        · obtain ⟨r, s2, f4, f5, f6⟩ := k_fetch g1 b3 hy hx (fun q => hne q.symm)
          rcases f6 with ⟨rfl, p', a', g5, g2, g3, g4⟩ | ⟨rfl, g2, W, w1, w2, w3, w4⟩
          · left
            refine ⟨s2, ?_, p', a', (b1.trans f2).trans f5, g5, g2, by omega⟩
            refine (st _).mpr ?_
            rw [f1, b2s, if_pos rfl, f4, b2s, if_neg (by decide), nI_1]
          · right
            refine ⟨.error (bI false, s2), ?_, Or.inr ⟨false, s2, p, a, rfl, (b1.trans f2).trans f5, g2, b3, fun q => (by cases q), fun _ => ?_⟩⟩
            · refine (st _).mpr ?_
              rw [f1, b2s, if_pos rfl, f4, b2s, if_pos rfl] <;> rfl
            · refine gReject b3 hx hy hne (V := fun v => V v || W v) (by omega) (by show (V x || W x) = true; rw [v1] <;> rfl) (by show (V y || W y) = true; rw [v2] <;> rfl) (fun v hv h1 h2 h3 => ?_) (fun v hv h1 w hw h2 => ?_)
              · rcases (Bool.or_eq_true _ _).mp h1 with h | h
                · exact v3 v hv h h2 h3
                · exact w3 v hv h h3 h2
              · show (V w || W w) = true
                rw [Bool.or_eq_true]
                by_cases ey : v = y
                · subst ey; exact Or.inr (w4 v hv w1 (fun q => hne q.symm) w hw h2)
                · rcases (Bool.or_eq_true _ _).mp h1 with h | h
                  · exact Or.inl (v4 v hv h ey w hw h2)
                  · by_cases ex : v = x
                    · subst ex; exact Or.inl (v4 v hv v1 ey w hw h2)
                    · exact Or.inr (w4 v hv h ex w hw h2)
      · right
        refine ⟨.error (bI true, u), ?_, Or.inr ⟨true, u, p, a, rfl, b1, b2, b3, fun _ => by omega, fun q => (by cases q)⟩⟩
        simp only [mX2_gatherPebbles_L2]
        rw [show (4 : Int32) = nI 4 from rfl, if_neg (nI_ge hl (by decide))]
        simp only [chk8 hx (by decide), chk8 hy (by decide), if_false]
        rw [ge u p a b2, if_neg (nI_nlt (by omega) (by omega))] <;> rfl)
    fF 0 s (by omega) (by unfold fF; omega) ⟨p, a, pgE.rfl, hs, hg, Nat.zero_le _⟩
  have e1 : mX2_gatherPebbles_L2 fF (nI x) (nI y) 0 s = some q := e1
  rw [mX2_gatherPebbles, e1]
  rcases q1 with ⟨u, p', a', rfl, c1, c2, c3, c4⟩ | ⟨b, u, p', a', rfl, c1, c2, c3, c4, c5⟩
  · have px := (c2.1 x hx).2
    have py := (c2.1 y hy).2
    refine ⟨true, u, p', a', ?_, c1, c2, c3, fun _ => by omega, fun q => (by cases q)⟩
    rw [l1o]
    simp only [chk8 hx (by decide), chk8 hy (by decide), if_false]
    rw [ge u p' a' c2, show (4 : Int32) = nI 4 from rfl, if_neg (nI_nlt (by omega) (by omega))] <;> rfl
  · have px := (c2.1 x hx).2
    have py := (c2.1 y hy).2
    exact ⟨b, u, p', a', rfl, c1, c2, c3, fun h => by have := c4 h; omega, c5⟩
end LVBC
