section LVH
def smq (τ : fm_S) (q i : Nat) : Nat → Int64
  | 0 => 0
  | n + 1 => smq τ q i n + (ex τ i n).toInt64 * (τ.1 q i - τ.1 q n).toInt64
def stp (y : Int64) : Int32 := (if (if (y / (1000000 : Int64)) < (50 : Int64) then (y / (1000000 : Int64)) else (50 : Int64)) < (-50 : Int64) then (-50 : Int64) else (if (y / (1000000 : Int64)) < (50 : Int64) then (y / (1000000 : Int64)) else (50 : Int64))).toInt32
def kp (x : Int32) : Int32 := if (-1000 : Int32) < (if x < (1000 : Int32) then x else (1000 : Int32)) then (if x < (1000 : Int32) then x else (1000 : Int32)) else (-1000 : Int32)
theorem k_step (y : Int64) : mX5_step y = some (stp y) := by
  unfold mX5_step stp
  generalize y / (1000000 : Int64) = z
  by_cases h1 : 0 ≤ lg_cmp z (-50)
  · rw [if_pos h1]
    have h1' := (lg_cmp_ge z (-50)).mp h1
    by_cases h2 : lg_cmp z 50 ≤ 0
    · rw [if_pos h2]
      have h2' := (lg_cmp_le z 50).mp h2
      by_cases h3 : z < 50
      · rw [if_pos h3, if_neg (Int64.not_lt.mpr h1')]
      · have h4 : z = 50 := Int64.le_antisymm h2' (Int64.not_lt.mp h3)
        subst h4; rfl
    · rw [if_neg h2]
      have h2' : ¬ z ≤ 50 := fun q => h2 ((lg_cmp_le z 50).mpr q)
      have h3 : ¬ z < 50 := fun q => h2' (Int64.le_of_lt q)
      rw [if_neg h3]; rfl
  · rw [if_neg h1]
    have h1' : ¬ -50 ≤ z := fun q => h1 ((lg_cmp_ge z (-50)).mpr q)
    have h2 : z < -50 := Int64.not_le.mp h1'
    have h3 : z < 50 := Int64.lt_trans h2 (by decide)
    rw [if_pos h3, if_pos h2]; rfl
theorem k_within (x : Int32) : mX5_within x = some (kp x) := by
  unfold mX5_within kp
  by_cases h1 : -1000 ≤ x
  · rw [if_pos h1]
    by_cases h2 : x ≤ 1000
    · rw [if_pos h2]
      by_cases h3 : x < 1000
      · rw [if_pos h3]
        by_cases h4 : -1000 < x
        · rw [if_pos h4]
        · rw [if_neg h4]
          have : x = -1000 := Int32.le_antisymm (Int32.not_lt.mp h4) h1
          rw [this]
      · have h4 : x = 1000 := Int32.le_antisymm h2 (Int32.not_lt.mp h3)
        subst h4; rfl
    · rw [if_neg h2]
      have h3 : ¬ x < 1000 := fun q => h2 (Int32.le_of_lt q)
      rw [if_neg h3]; rfl
  · rw [if_neg h1]
    have h2 : x < -1000 := Int32.not_le.mp h1
    have h3 : x < 1000 := Int32.lt_trans h2 (by decide)
    rw [if_pos h3, if_neg (fun q => h1 (Int32.le_of_lt q))]
theorem k_kept (x : Int32) : mX4_keptOnPlane x = some (kp x) := rfl
theorem k_stepC {τ s : fm_S} {c : Nat} (hw : WF τ c) (hn : NV s (lk τ)) (he : ∀ a b, a < 20 ∨ a = 60 → s.1 a b = τ.1 a b) {q i : Nat} (hq : q = 1 ∨ q = 2) (hi : i < c) : mX4_stepOf q (nI i) s = some (stp (smq τ q i c)) := by
  have hc := hw.1
  have hl : fm_len q = 8 := by rcases hq with rfl | rfl <;> rfl
  obtain ⟨t, e1, e2⟩ := lpU (fun n x5 (a : Int64) => mX4_stepOf_L5 q n (nI i) a x5 s) c (fun j a => a = smq τ q i j) (fun t => t = smq τ q i c)
    (fun n a ha => ⟨a, by simp only [mX4_stepOf_L5]; rw [he 60 0 (by omega), hw.2.1, if_pos (nI_le (Nat.le_refl _) (by omega))], ha⟩)
    (fun n j a hj ha => ⟨smq τ q i (j + 1), by
      simp only [mX4_stepOf_L5, hl]
      rw [he 60 0 (by omega), hw.2.1, if_neg (nI_ge hj (by omega))]
      simp only [chk8 (show i < 8 by omega) (by decide), chk8 (show j < 8 by omega) (by decide), if_false]
      rw [k_exc hn he (by omega) (by omega), b1s, rIn _ _ (by omega), rIn _ _ (by omega), he q i (by omega), he q j (by omega), nI_1, ha]; rfl, rfl⟩)
    fF 0 0 (Nat.zero_le _) (by unfold fF; omega) rfl
  rw [mX4_stepOf]
  have e1 : mX4_stepOf_L5 q fF (nI i) 0 0 s = some t := e1
  rw [e1, b1s, e2]; rfl
/-- where a round of settling brings a member -/
def nw (τ : fm_S) (c q i : Nat) : Int32 := kp (τ.1 q i - stp (smq τ q i c))
theorem cl_round {τ : fm_S} {c : Nat} (hw : WF τ c) : ∃ τ', mX4_stepTogether τ = some τ' ∧ (∀ a b, ¬ (20 ≤ a ∧ a < 40) → a ≠ 1 → a ≠ 2 → τ'.1 a b = τ.1 a b) ∧ ∀ i, (τ'.1 1 i = if i < c then nw τ c 1 i else τ.1 1 i) ∧ (τ'.1 2 i = if i < c then nw τ c 2 i else τ.1 2 i) := by
  have hc := hw.1
  obtain ⟨τ1, e1, r1, n1⟩ := k_draw hw
  obtain ⟨τ2, e2, p1, p2⟩ := lpU (fun n x s => mX4_stepTogether_L6 n x s) c (fun i s => (∀ a b, a ≠ 22 → a ≠ 23 → s.1 a b = τ1.1 a b) ∧ ∀ j, j < i → s.1 22 j = stp (smq τ 1 j c) ∧ s.1 23 j = stp (smq τ 2 j c)) (fun s => (∀ a b, a ≠ 22 → a ≠ 23 → s.1 a b = τ1.1 a b) ∧ ∀ j, j < c → s.1 22 j = stp (smq τ 1 j c) ∧ s.1 23 j = stp (smq τ 2 j c))
    (fun n s hs => ⟨s, by simp only [mX4_stepTogether_L6]; rw [hs.1 60 0 (by omega) (by omega), r1.1 60 0 (by omega), hw.2.1, if_pos (nI_le (Nat.le_refl _) (by omega))], hs⟩)
    (fun n i s hi hs => by
      have g1 := k_stepC (s := s) (q := 1) (i := i) hw (fun a ha => by rw [hs.1 21 a (by omega) (by omega)]; exact n1 a ha) (fun a b hab => by rw [hs.1 a b (by omega) (by omega)]; exact r1.1 a b (by omega)) (Or.inl rfl) hi
      have g2 := k_stepC (s := fm_wr s 22 i (stp (smq τ 1 i c))) (q := 2) (i := i) hw (fun a ha => by rw [wrN _ _ (by omega), hs.1 21 a (by omega) (by omega)]; exact n1 a ha) (fun a b hab => by rw [wrN _ _ (by omega), hs.1 a b (by omega) (by omega)]; exact r1.1 a b (by omega)) (Or.inr rfl) hi
      refine ⟨fm_wr (fm_wr s 22 i (stp (smq τ 1 i c))) 23 i (stp (smq τ 2 i c)), ?_, fun a b h1 h2 => by rw [wrN _ _ (by omega), wrN _ _ (by omega)]; exact hs.1 a b h1 h2, fun j hj => ?_⟩
      · simp only [mX4_stepTogether_L6]
        rw [hs.1 60 0 (by omega) (by omega), r1.1 60 0 (by omega), hw.2.1, if_neg (nI_ge hi (by omega)), g1, b1s]
        simp only [chk8 (show i < 8 by omega) (by decide), if_false]
        rw [sIn _ _ _ (by omega), g2, b1s, sIn _ _ _ (by omega), nI_1]
      · by_cases e : j = i
        · subst e; exact ⟨by rw [wrN _ _ (by omega), wrS], wrS _ _ _ _⟩
        · rw [wrN _ _ (by omega), wrN _ _ (by omega), wrN _ _ (by omega), wrN _ _ (by omega)]; exact hs.2 j (by omega))
    fF 0 τ1 (Nat.zero_le _) (by unfold fF; omega) ⟨fun _ _ _ _ => rfl, fun j hj => absurd hj (by omega)⟩
  have b0 : ∀ a b, a < 20 ∨ a = 60 → τ2.1 a b = τ.1 a b := fun a b hab => by rw [p1 a b (by omega) (by omega)]; exact r1.1 a b (by omega)
  obtain ⟨τ3, e3, q1, q2⟩ := lpU (fun n x s => mX4_stepTogether_L52 n x s) c (fun i s => (∀ a b, a ≠ 1 → a ≠ 2 → s.1 a b = τ2.1 a b) ∧ ∀ j, (s.1 1 j = if j < i then nw τ c 1 j else τ.1 1 j) ∧ (s.1 2 j = if j < i then nw τ c 2 j else τ.1 2 j)) (fun s => (∀ a b, a ≠ 1 → a ≠ 2 → s.1 a b = τ2.1 a b) ∧ ∀ j, (s.1 1 j = if j < c then nw τ c 1 j else τ.1 1 j) ∧ (s.1 2 j = if j < c then nw τ c 2 j else τ.1 2 j))
    (fun n s hs => ⟨s, by simp only [mX4_stepTogether_L52]; rw [hs.1 60 0 (by omega) (by omega), b0 60 0 (by omega), hw.2.1, if_pos (nI_le (Nat.le_refl _) (by omega))], hs⟩)
    (fun n i s hi hs => by
      have x1 : s.1 1 i = τ.1 1 i := by rw [(hs.2 i).1, if_neg (by omega)]
      have x2 : s.1 2 i = τ.1 2 i := by rw [(hs.2 i).2, if_neg (by omega)]
      have x3 : s.1 22 i = stp (smq τ 1 i c) := by rw [hs.1 22 i (by omega) (by omega)]; exact (p2 i hi).1
      have x4 : s.1 23 i = stp (smq τ 2 i c) := by rw [hs.1 23 i (by omega) (by omega)]; exact (p2 i hi).2
      refine ⟨fm_wr (fm_wr s 1 i (nw τ c 1 i)) 2 i (nw τ c 2 i), ?_, fun a b h1 h2 => by rw [wrN _ _ (by omega), wrN _ _ (by omega)]; exact hs.1 a b h1 h2, fun j => ?_⟩
      · simp only [mX4_stepTogether_L52]
        rw [hs.1 60 0 (by omega) (by omega), b0 60 0 (by omega), hw.2.1, if_neg (nI_ge hi (by omega))]
        simp only [chk8 (show i < 8 by omega) (by decide), if_false]
        rw [rIn _ _ (by omega), rIn _ _ (by omega), x1, x3, k_kept, b1s]
        have ew : sI s 1 (nI i) (kp (τ.1 1 i - stp (smq τ 1 i c))) = fm_wr s 1 i (nw τ c 1 i) := sIn _ _ _ (by omega)
        rw [ew, rIn _ _ (by omega), rIn _ _ (by omega), wrN _ _ (by omega), wrN _ _ (by omega), x2, x4, k_kept, b1s, sIn _ _ _ (by omega), nI_1]; rfl
      · by_cases e : j = i
        · subst e
          rw [if_pos (by omega), if_pos (by omega)]
          exact ⟨by rw [wrN _ _ (by omega), wrS], wrS _ _ _ _⟩
        · rw [wrN _ _ (by omega), wrN _ _ (by omega), wrN _ _ (by omega), wrN _ _ (by omega)]
          obtain ⟨y1, y2⟩ := hs.2 j
          rw [y1, y2]
          by_cases q : j < i
          · rw [if_pos q, if_pos q, if_pos (by omega), if_pos (by omega)]; exact ⟨rfl, rfl⟩
          · rw [if_neg q, if_neg q, if_neg (by omega), if_neg (by omega)]; exact ⟨rfl, rfl⟩)
    fF 0 τ2 (Nat.zero_le _) (by unfold fF; omega) ⟨fun _ _ _ _ => rfl, fun j => by rw [if_neg (by omega), if_neg (by omega)]; exact ⟨b0 1 j (by omega), b0 2 j (by omega)⟩⟩
  refine ⟨τ3, ?_, fun a b h0 h1 h2 => ?_, q2⟩
  · rw [mX4_stepTogether, e1, b1s]
    have e2 : mX4_stepTogether_L6 fF 0 τ1 = some τ2 := e2
    have e3 : mX4_stepTogether_L52 fF 0 τ2 = some τ3 := e3
    rw [e2, b1s, e3, b1s]
  · rw [q1 a b h1 h2, p1 a b (by omega) (by omega)]; exact r1.1 a b (by omega)
theorem md_round {σ τ : fm_S} {c : Nat} (hw : WF τ c) (hv : MV σ τ c) : ∃ σ', mX5_settles σ = some σ' ∧ (∀ a b, ¬ (51 ≤ a ∧ a ≤ 54) → a ≠ 41 → a ≠ 42 → σ'.1 a b = σ.1 a b) ∧ (∀ b, σ'.2 55 b = σ.2 55 b) ∧ ∀ i, i < 8 → (σ'.1 41 i = if i < c then nw τ c 1 i else τ.1 1 i) ∧ (σ'.1 42 i = if i < c then nw τ c 2 i else τ.1 2 i) := by
  have hc := hw.1
  have sums : ∀ s, msc σ s → ∀ i, i < c → mX5_settles_L18 fF (nI i) 0 0 0 s = some (smq τ 1 i c, smq τ 2 i c) := by
    intro s hs i hi
    have hvs := hs.mv hv
    obtain ⟨t, e1, e2⟩ := lpU (fun n x6 (a : Int64 × Int64) => mX5_settles_L18 n (nI i) a.1 a.2 x6 s) c (fun j a => a = (smq τ 1 i j, smq τ 2 i j)) (fun t => t = (smq τ 1 i c, smq τ 2 i c))
      (fun n a ha => ⟨a, by simp only [mX5_settles_L18]; rw [hvs.1, if_pos (nI_le (Nat.le_refl _) (by omega))], ha⟩)
      (fun n j a hj ha => ⟨(smq τ 1 i (j + 1), smq τ 2 i (j + 1)), by
        obtain ⟨a1, a2, -⟩ := hvs.2.2.1 i (by omega)
        obtain ⟨b1, b2, -⟩ := hvs.2.2.1 j (by omega)
        simp only [mX5_settles_L18]
        rw [hvs.1, if_neg (nI_ge hj (by omega)), k_above hw hvs hi hj, b1s]
        simp only [chk8 (show i < 8 by omega) (by decide), chk8 (show j < 8 by omega) (by decide), if_false]
        rw [rIn _ _ (by omega), rIn _ _ (by omega), rIn _ _ (by omega), rIn _ _ (by omega), a1, a2, b1, b2, nI_1, ha]; rfl, rfl⟩)
      fF 0 (0, 0) (Nat.zero_le _) (by unfold fF; omega) rfl
    have e1 : mX5_settles_L18 fF (nI i) 0 0 0 s = some t := e1
    rw [e1, e2]
  obtain ⟨σ2, e2, p1, p2⟩ := lpU (fun n x s => mX5_settles_L2 n x s) c (fun i s => (msc σ s ∧ s.2 = σ.2 ∧ (∀ a b, a ≠ 51 → a ≠ 52 → s.1 a b = σ.1 a b)) ∧ ∀ j, j < i → s.1 51 j = stp (smq τ 1 j c) ∧ s.1 52 j = stp (smq τ 2 j c)) (fun s => (msc σ s ∧ s.2 = σ.2 ∧ (∀ a b, a ≠ 51 → a ≠ 52 → s.1 a b = σ.1 a b)) ∧ ∀ j, j < c → s.1 51 j = stp (smq τ 1 j c) ∧ s.1 52 j = stp (smq τ 2 j c))
    (fun n s hs => ⟨s, by simp only [mX5_settles_L2]; rw [(hs.1.1.mv hv).1, if_pos (nI_le (Nat.le_refl _) (by omega))], hs⟩)
    (fun n i s hi hs => by
      refine ⟨fm_wr (fm_wr s 51 i (stp (smq τ 1 i c))) 52 i (stp (smq τ 2 i c)), ?_, ⟨(hs.1.1.trans (msc.wr _ (by omega) _ _)).trans (msc.wr _ (by omega) _ _), hs.1.2.1, fun a b h1 h2 => by rw [wrN _ _ (by omega), wrN _ _ (by omega)]; exact hs.1.2.2 a b h1 h2⟩, fun j hj => ?_⟩
      · simp only [mX5_settles_L2]
        rw [(hs.1.1.mv hv).1, if_neg (nI_ge hi (by omega)), sums s hs.1.1 i hi, b2s, k_step, b1s]
        simp only [chk8 (show i < 8 by omega) (by decide), if_false]
        rw [k_step, b1s, sIn _ _ _ (by omega), sIn _ _ _ (by omega), nI_1]
      · by_cases e : j = i
        · subst e; exact ⟨by rw [wrN _ _ (by omega), wrS], wrS _ _ _ _⟩
        · rw [wrN _ _ (by omega), wrN _ _ (by omega), wrN _ _ (by omega), wrN _ _ (by omega)]; exact hs.2 j (by omega))
    fF 0 σ (Nat.zero_le _) (by unfold fF; omega) ⟨⟨msc.rfl, rfl, fun _ _ _ _ => rfl⟩, fun j hj => absurd hj (by omega)⟩
  obtain ⟨σ3, e3, q1, q2⟩ := lpU (fun n x s => mX5_settles_L117 n x s) c (fun i s => (s.2 = σ.2 ∧ ∀ a b, a ≠ 41 → a ≠ 42 → s.1 a b = σ2.1 a b) ∧ ∀ j, j < 8 → (s.1 41 j = if j < i then nw τ c 1 j else τ.1 1 j) ∧ (s.1 42 j = if j < i then nw τ c 2 j else τ.1 2 j)) (fun s => (s.2 = σ.2 ∧ ∀ a b, a ≠ 41 → a ≠ 42 → s.1 a b = σ2.1 a b) ∧ ∀ j, j < 8 → (s.1 41 j = if j < c then nw τ c 1 j else τ.1 1 j) ∧ (s.1 42 j = if j < c then nw τ c 2 j else τ.1 2 j))
    (fun n s hs => ⟨s, by simp only [mX5_settles_L117]; rw [hs.1.2 61 0 (by omega) (by omega), (p1.1.mv hv).1, if_pos (nI_le (Nat.le_refl _) (by omega))], hs⟩)
    (fun n i s hi hs => by
      have x1 : s.1 41 i = τ.1 1 i := by rw [(hs.2 i (by omega)).1, if_neg (by omega)]
      have x2 : s.1 42 i = τ.1 2 i := by rw [(hs.2 i (by omega)).2, if_neg (by omega)]
      have x3 : s.1 51 i = stp (smq τ 1 i c) := by rw [hs.1.2 51 i (by omega) (by omega)]; exact (p2 i hi).1
      have x4 : s.1 52 i = stp (smq τ 2 i c) := by rw [hs.1.2 52 i (by omega) (by omega)]; exact (p2 i hi).2
      refine ⟨fm_wr (fm_wr s 41 i (nw τ c 1 i)) 42 i (nw τ c 2 i), ?_, ⟨hs.1.1, fun a b h1 h2 => by rw [wrN _ _ (by omega), wrN _ _ (by omega)]; exact hs.1.2 a b h1 h2⟩, fun j hj => ?_⟩
      · simp only [mX5_settles_L117]
        rw [hs.1.2 61 0 (by omega) (by omega), (p1.1.mv hv).1, if_neg (nI_ge hi (by omega))]
        simp only [chk8 (show i < 8 by omega) (by decide), if_false]
        rw [rIn _ _ (by omega), rIn _ _ (by omega), x1, x3, k_within, b1s]
        have ew : sI s 41 (nI i) (kp (τ.1 1 i - stp (smq τ 1 i c))) = fm_wr s 41 i (nw τ c 1 i) := sIn _ _ _ (by omega)
        rw [ew, rIn _ _ (by omega), rIn _ _ (by omega), wrN _ _ (by omega), wrN _ _ (by omega), x2, x4, k_within, b1s, sIn _ _ _ (by omega), nI_1]; rfl
      · by_cases e : j = i
        · subst e
          rw [if_pos (by omega), if_pos (by omega)]
          exact ⟨by rw [wrN _ _ (by omega), wrS], wrS _ _ _ _⟩
        · rw [wrN _ _ (by omega), wrN _ _ (by omega), wrN _ _ (by omega), wrN _ _ (by omega)]
          obtain ⟨y1, y2⟩ := hs.2 j hj
          rw [y1, y2]
          by_cases q : j < i
          · rw [if_pos q, if_pos q, if_pos (by omega), if_pos (by omega)]; exact ⟨rfl, rfl⟩
          · rw [if_neg q, if_neg q, if_neg (by omega), if_neg (by omega)]; exact ⟨rfl, rfl⟩)
    fF 0 σ2 (Nat.zero_le _) (by unfold fF; omega) ⟨⟨p1.2.1, fun _ _ _ _ => rfl⟩, fun j hj => by
      obtain ⟨a1, a2, -⟩ := (p1.1.mv hv).2.2.1 j hj
      rw [if_neg (by omega), if_neg (by omega)]; exact ⟨a1, a2⟩⟩
  refine ⟨σ3, ?_, fun a b h0 h1 h2 => ?_, fun b => by rw [q1.1], q2⟩
  · rw [mX5_settles]
    have e2 : mX5_settles_L2 fF 0 σ = some σ2 := e2
    have e3 : mX5_settles_L117 fF 0 σ2 = some σ3 := e3
    rw [e2, b1s, e3, b1s]
  · rw [q1.2 a b h1 h2]; exact p1.2.2 a b (by omega) (by omega)
end LVH
