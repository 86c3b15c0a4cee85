section LVH
def smq (τ : fm_S) (q i : Nat) : Nat → Int64
  | 0 => 0
  | n + 1 => smq τ q i n + (ex τ i n).toInt64 * (τ.1 q i - τ.1 q n).toInt64
def stp (y : Int64) : Int32 := (if (if (y / (1000000 : Int64)) < (50 : Int64) then (y / (1000000 : Int64)) else (50 : Int64)) < (-50 : Int64) then (-50 : Int64) else (if (y / (1000000 : Int64)) < (50 : Int64) then (y / (1000000 : Int64)) else (50 : Int64))).toInt32
def kp (x : Int32) : Int32 := if (-1000 : Int32) < (if x < (1000 : Int32) then x else (1000 : Int32)) then (if x < (1000 : Int32) then x else (1000 : Int32)) else (-1000 : Int32)
theorem k_kept (x : Int32) : mX4_keptOnPlane x = some (kp x) := rfl
theorem k_stepC {τ s : fm_S} {c : Nat} (hw : WF τ c) (hn : NV s (lk τ)) (he : ∀ a b, a < 20 ∨ a = 60 → s.1 a b = τ.1 a b) {q i : Nat} (hq : q = 1 ∨ q = 2) (hi : i < c) : mX4_stepOf q (nI i) s = some (stp (smq τ q i c)) := by
  have hc := hw.1
  have hl : fm_len q = 8 := by rcases hq with rfl | rfl <;> rfl
  obtain ⟨t, e1, e2⟩ := lpU (fun n x5 (a : Int64) => mX4_stepOf_L5 q n (nI i) a x5 s) c (fun j a => a = smq τ q i j) (fun t => t = smq τ q i c)
    (fun n a ha => ⟨a, by simp only [mX4_stepOf_L5]; rw [he 60 0 (by omega), hw.2.1, if_pos (nI_le (Nat.le_refl _) (by omega))], ha⟩)
    (fun n j a hj ha => ⟨smq τ q i (j + 1), by
      simp only [mX4_stepOf_L5, hl]
      rw [he 60 0 (by omega), hw.2.1, if_neg (nI_ge hj (by omega))]
      simp only [chk8 (show i < 8 by omega) (by decide), chk8 (show j < 8 by omega) (by decide), if_false]
      rw [k_exc hn he (by omega) (by omega), b1s, rIn _ _ (by omega), rIn _ _ (by omega), he q i (by omega), he q j (by omega), nI_1, ha]; rfl, rfl⟩)
    fF 0 0 (Nat.zero_le _) (by unfold fF; omega) rfl
  rw [mX4_stepOf]
  have e1 : mX4_stepOf_L5 q fF (nI i) 0 0 s = some t := e1
  rw [e1, b1s, e2]; rfl
/-- where a round of settling brings a member -/
def nw (τ : fm_S) (c q i : Nat) : Int32 := kp (τ.1 q i - stp (smq τ q i c))
theorem cl_round {τ : fm_S} {c : Nat} (hw : WF τ c) : ∃ τ', mX4_stepTogether τ = some τ' ∧ (∀ a b, ¬ (20 ≤ a ∧ a < 40) → a ≠ 1 → a ≠ 2 → τ'.1 a b = τ.1 a b) ∧ ∀ i, (τ'.1 1 i = if i < c then nw τ c 1 i else τ.1 1 i) ∧ (τ'.1 2 i = if i < c then nw τ c 2 i else τ.1 2 i) := by
  have hc := hw.1
  obtain ⟨τ1, e1, r1, n1⟩ := k_draw hw
  obtain ⟨τ2, e2, p1, p2⟩ := lpU (fun n x s => mX4_stepTogether_L6 n x s) c (fun i s => (∀ a b, a ≠ 22 → a ≠ 23 → s.1 a b = τ1.1 a b) ∧ ∀ j, j < i → s.1 22 j = stp (smq τ 1 j c) ∧ s.1 23 j = stp (smq τ 2 j c)) (fun s => (∀ a b, a ≠ 22 → a ≠ 23 → s.1 a b = τ1.1 a b) ∧ ∀ j, j < c → s.1 22 j = stp (smq τ 1 j c) ∧ s.1 23 j = stp (smq τ 2 j c))
    (fun n s hs => ⟨s, by simp only [mX4_stepTogether_L6]; rw [hs.1 60 0 (by omega) (by omega), r1.1 60 0 (by omega), hw.2.1, if_pos (nI_le (Nat.le_refl _) (by omega))], hs⟩)
    (fun n i s hi hs => by
      have g1 := k_stepC (s := s) (q := 1) (i := i) hw (fun a ha => by rw [hs.1 21 a (by omega) (by omega)]; exact n1 a ha) (fun a b hab => by rw [hs.1 a b (by omega) (by omega)]; exact r1.1 a b (by omega)) (Or.inl rfl) hi
      have g2 := k_stepC (s := fm_wr s 22 i (stp (smq τ 1 i c))) (q := 2) (i := i) hw (fun a ha => by rw [wrN _ _ (by omega), hs.1 21 a (by omega) (by omega)]; exact n1 a ha) (fun a b hab => by rw [wrN _ _ (by omega), hs.1 a b (by omega) (by omega)]; exact r1.1 a b (by omega)) (Or.inr rfl) hi
      refine ⟨fm_wr (fm_wr s 22 i (stp (smq τ 1 i c))) 23 i (stp (smq τ 2 i c)), ?_, fun a b h1 h2 => by rw [wrN _ _ (by omega), wrN _ _ (by omega)]; exact hs.1 a b h1 h2, fun j hj => ?_⟩
      · simp only [mX4_stepTogether_L6]
        rw [hs.1 60 0 (by omega) (by omega), r1.1 60 0 (by omega), hw.2.1, if_neg (nI_ge hi (by omega)), g1, b1s]
        simp only [chk8 (show i < 8 by omega) (by decide), if_false]
        rw [sIn _ _ _ (by omega), g2, b1s, sIn _ _ _ (by omega), nI_1]
      · by_cases e : j = i
        · subst e; exact ⟨by rw [wrN _ _ (by omega), wrS], wrS _ _ _ _⟩
        · rw [wrN _ _ (by omega), wrN _ _ (by omega), wrN _ _ (by omega), wrN _ _ (by omega)]; exact hs.2 j (by omega))
    fF 0 τ1 (Nat.zero_le _) (by unfold fF; omega) ⟨fun _ _ _ _ => rfl, fun j hj => absurd hj (by omega)⟩
  have b0 : ∀ a b, a < 20 ∨ a = 60 → τ2.1 a b = τ.1 a b := fun a b hab => by rw [p1 a b (by omega) (by omega)]; exact r1.1 a b (by omega)
  obtain ⟨τ3, e3, q1, q2⟩ := lpU (fun n x s => mX4_stepTogether_L52 n x s) c (fun i s => (∀ a b, a ≠ 1 → a ≠ 2 → s.1 a b = τ2.1 a b) ∧ ∀ j, (s.1 1 j = if j < i then nw τ c 1 j else τ.1 1 j) ∧ (s.1 2 j = if j < i then nw τ c 2 j else τ.1 2 j)) (fun s => (∀ a b, a ≠ 1 → a ≠ 2 → s.1 a b = τ2.1 a b) ∧ ∀ j, (s.1 1 j = if j < c then nw τ c 1 j else τ.1 1 j) ∧ (s.1 2 j = if j < c then nw τ c 2 j else τ.1 2 j))
    (fun n s hs => ⟨s, by simp only [mX4_stepTogether_L52]; rw [hs.1 60 0 (by omega) (by omega), b0 60 0 (by omega), hw.2.1, if_pos (nI_le (Nat.le_refl _) (by omega))], hs⟩)
    (fun n i s hi hs => by
      have x1 : s.1 1 i = τ.1 1 i := by rw [(hs.2 i).1, if_neg (by omega)]
      have x2 : s.1 2 i = τ.1 2 i := by rw [(hs.2 i).2, if_neg (by omega)]
      have x3 : s.1 22 i = stp (smq τ 1 i c) := by rw [hs.1 22 i (by omega) (by omega)]; exact (p2 i hi).1
      have x4 : s.1 23 i = stp (smq τ 2 i c) := by rw [hs.1 23 i (by omega) (by omega)]; exact (p2 i hi).2
      refine ⟨fm_wr (fm_wr s 1 i (nw τ c 1 i)) 2 i (nw τ c 2 i), ?_, fun a b h1 h2 => by rw [wrN _ _ (by omega), wrN _ _ (by omega)]; exact hs.1 a b h1 h2, fun j => ?_⟩
      · simp only [mX4_stepTogether_L52]
        rw [hs.1 60 0 (by omega) (by omega), b0 60 0 (by omega), hw.2.1, if_neg (nI_ge hi (by omega))]
        simp only [chk8 (show i < 8 by omega) (by decide), if_false]
        rw [rIn _ _ (by omega), rIn _ _ (by omega), x1, x3, k_kept, b1s]
        have ew : sI s 1 (nI i) (kp (τ.1 1 i - stp (smq τ 1 i c))) = fm_wr s 1 i (nw τ c 1 i) := sIn _ _ _ (by omega)
        rw [ew, rIn _ _ (by omega), rIn _ _ (by omega), wrN _ _ (by omega), wrN _ _ (by omega), x2, x4, k_kept, b1s, sIn _ _ _ (by omega), nI_1]; rfl
      · by_cases e : j = i
        · subst e
          rw [if_pos (by omega), if_pos (by omega)]
          exact ⟨by rw [wrN _ _ (by omega), wrS], wrS _ _ _ _⟩
        · rw [wrN _ _ (by omega), wrN _ _ (by omega), wrN _ _ (by omega), wrN _ _ (by omega)]
          obtain ⟨y1, y2⟩ := hs.2 j
          rw [y1, y2]
          by_cases q : j < i
          · rw [if_pos q, if_pos q, if_pos (by omega), if_pos (by omega)]; exact ⟨rfl, rfl⟩
          · rw [if_neg q, if_neg q, if_neg (by omega), if_neg (by omega)]; exact ⟨rfl, rfl⟩)
    fF 0 τ2 (Nat.zero_le _) (by unfold fF; omega) ⟨fun _ _ _ _ => rfl, fun j => by rw [if_neg (by omega), if_neg (by omega)]; exact ⟨b0 1 j (by omega), b0 2 j (by omega)⟩⟩
  refine ⟨τ3, ?_, fun a b h0 h1 h2 => ?_, q2⟩
  · rw [mX4_stepTogether, e1, b1s]
    have e2 : mX4_stepTogether_L6 fF 0 τ1 = some τ2 := e2
    have e3 : mX4_stepTogether_L52 fF 0 τ2 = some τ3 := e3
    rw [e2, b1s, e3, b1s]
  · rw [q1 a b h1 h2, p1 a b (by omega) (by omega)]; exact r1.1 a b (by omega)
end LVH
