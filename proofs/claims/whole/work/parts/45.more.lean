section LVF
def ON (cl : Option (Int32 × fm_S)) (md : fm_S → Option (Int32 × fm_S)) : Prop := ∃ r σ1 σ2, cl = some (r, σ1) ∧ md σ1 = some (r, σ2) ∧ RR σ2
/-- a call that only reads: scratch rows of the class, then of the model -/
def scr (τ τ1 : fm_S) : Prop := ∀ a b, ¬ (20 ≤ a ∧ a < 40) → τ1.1 a b = τ.1 a b
def msc (σ σ' : fm_S) : Prop := (∀ a b, ¬ (51 ≤ a ∧ a ≤ 54) → ¬ (a = 61 ∧ b = 2) → σ'.1 a b = σ.1 a b) ∧ ∀ b, σ'.2 55 b = σ.2 55 b
theorem scr.rfl {σ : fm_S} : scr σ σ := fun _ _ _ => Eq.refl _
theorem scr.trans {a b c : fm_S} (h : scr a b) (h' : scr b c) : scr a c := fun x y z => (h' x y z).trans (h x y z)
theorem scr.row {σ σ' : fm_S} {q : Nat} (h : rowE q σ σ') (hq : 20 ≤ q ∧ q < 40) : scr σ σ' := fun a b hab => h.1 a b (by omega)
theorem scr.st {σ σ' : fm_S} (h : scr σ σ') (v : Int64) : scr σ (sL σ' 55 (0 : Int32) v) := fun a b hab => h a b hab
theorem scr.wf {τ τ1 : fm_S} {c : Nat} (h : scr τ τ1) (hw : WF τ c) : WF τ1 c := hw.of (fun a b hab => h a b (by omega))
theorem scr.mv {τ τ1 : fm_S} {c : Nat} (h : scr τ τ1) (hv : MV τ τ c) : MV τ1 τ c := hv.of (fun a b hab => h a b (by omega)) (fun _ _ _ => Eq.refl _)
theorem scr.lk {τ τ1 : fm_S} (h : scr τ τ1) (i j : Nat) : lk τ1 i j = lk τ i j := lk_of (fun a b hab => h a b (by omega)) i j
theorem msc.rfl {σ : fm_S} : msc σ σ := ⟨fun _ _ _ _ => Eq.refl _, fun _ => Eq.refl _⟩
theorem msc.trans {a b c : fm_S} (h : msc a b) (h' : msc b c) : msc a c := ⟨fun x y z w => (h'.1 x y z w).trans (h.1 x y z w), fun y => (h'.2 y).trans (h.2 y)⟩
theorem msc.last (σ : fm_S) (v : Int32) : msc σ (fm_wr σ 61 2 v) := ⟨fun a b h1 h2 => wrN _ _ (by omega), fun _ => Eq.refl _⟩
theorem msc.wr (σ : fm_S) {q : Nat} (hq : 51 ≤ q ∧ q ≤ 54) (i : Nat) (v : Int32) : msc σ (fm_wr σ q i v) := ⟨fun a b h1 h2 => wrN _ _ (by omega), fun _ => Eq.refl _⟩
theorem msc.mv {σ σ' τ : fm_S} {c : Nat} (h : msc σ σ') (hv : MV σ τ c) : MV σ' τ c := hv.of (fun a b hab => h.1 a b (by omega) (by omega)) (fun _ _ _ => Eq.refl _)
theorem ro {τ τ1 σ2 : fm_S} {c : Nat} (hw : WF τ c) (hv : MV τ τ c) (s1 : scr τ τ1) (s2 : msc τ1 σ2) : RR σ2 :=
  fin hw (s2.mv (s1.mv hv)) (fun a b hab => (s2.1 a b (by omega) (by omega)).trans (s1 a b (by omega)))
theorem msc.r55 {σ σ' : fm_S} (h : msc σ σ') : rL σ' 55 (0 : Int32) = rL σ 55 (0 : Int32) := h.2 _
theorem c_members {τ : fm_S} (h : RR τ) : ∃ r σ2, mX4_members τ = some r ∧ mX5_members τ = some (r, σ2) ∧ RR σ2 := by
  obtain ⟨c, hw, hv⟩ := h
  refine ⟨nI c, fm_wr τ 61 2 0, by rw [mX4_members, hw.2.1], ?_, ro hw hv scr.rfl (msc.last τ 0)⟩
  rw [mX5_members, wrN _ _ (by omega), hv.1]
/-- how many below n -/
def cnt (P : Nat → Bool) : Nat → Nat
  | 0 => 0
  | n + 1 => cnt P n + (P n).toNat
theorem cnt8 (P : Nat → Bool) : cnt P 8 = cn8 P := by simp [cnt, cn8]
theorem cnt_hi {P : Nat → Bool} {c : Nat} (h : ∀ j, c ≤ j → j < 8 → P j = false) : ∀ n, c ≤ n → n ≤ 8 → cnt P n = cnt P c := by
  intro n
  induction n with
  | zero => intro h1 _; rw [show c = 0 by omega]
  | succ n ih =>
    intro h1 h2
    by_cases e : c = n + 1
    · rw [e]
    · rw [cnt, h n (by omega) (by omega), ih (by omega) (by omega)]; rfl
theorem cnt_le (P : Nat → Bool) : ∀ n, cnt P n ≤ n := by
  intro n
  induction n with
  | zero => exact Nat.le_refl _
  | succ n ih =>
    have h : ∀ b : Bool, b.toNat ≤ 1 := by decide
    have := h (P n)
    rw [cnt]; omega
def deg (τ : fm_S) (i : Nat) : Nat := cn8 (lk τ i)
def tot (τ : fm_S) : Nat → Nat
  | 0 => 0
  | n + 1 => tot τ n + deg τ n
theorem deg_hi {τ : fm_S} {c : Nat} (hw : WF τ c) {i : Nat} (h1 : c ≤ i) (h2 : i < 8) : deg τ i = 0 := by
  have h : ∀ j, j < 8 → lk τ i j = (fun _ => false) j := fun j _ => lk_hi hw h2 h1
  unfold deg
  rw [cn8_congr h]; rfl
theorem tot_hi {τ : fm_S} {c : Nat} (hw : WF τ c) : ∀ n, c ≤ n → n ≤ 8 → tot τ n = tot τ c := by
  intro n
  induction n with
  | zero => intro h1 _; rw [show c = 0 by omega]
  | succ n ih =>
    intro h1 h2
    by_cases e : c = n + 1
    · rw [e]
    · rw [tot, deg_hi hw (by omega) (by omega), ih (by omega) (by omega)]; rfl
theorem deg_le (τ : fm_S) (i : Nat) : deg τ i ≤ 8 := cn8_le _
theorem k_degM {σ τ : fm_S} {c : Nat} (hw : WF τ c) (h : MV σ τ c) {i : Nat} (hi : i < c) : mX5_degrees (nI i) σ = some (nI (deg τ i)) := by
  have hc := hw.1
  have hd : deg τ i = cnt (lk τ i) c := by
    unfold deg
    rw [← cnt8]
    exact cnt_hi (fun j h1 h2 => by rw [lk_symm hw (by omega) h2]; exact lk_hi hw h2 h1) 8 hc (Nat.le_refl _)
  obtain ⟨t, e1, e2⟩ := lpU (fun n x3 (s : Int32) => mX5_degrees_L4 n (nI i) s x3 σ) c (fun j s => s = nI (cnt (lk τ i) j)) (fun t => t = nI (cnt (lk τ i) c))
    (fun n s hs => ⟨s, by simp only [mX5_degrees_L4]; rw [h.1, if_pos (nI_le (Nat.le_refl _) (by omega))], hs⟩)
    (fun n j s hj hs => ⟨nI (cnt (lk τ i) (j + 1)), by
      simp only [mX5_degrees_L4]
      rw [h.1, if_neg (nI_ge hj (by omega)), k_linked hw h hi hj, b1s, hs, nI_1]
      have e3 : (if (if lk τ i j then (1 : Int32) else 0) = 0 then some (0 : Int32) else some 1) = some (nI (lk τ i j).toNat) := by cases lk τ i j <;> rfl
      rw [e3, b1s, nI_add]; rfl, rfl⟩)
    fF 0 0 (Nat.zero_le _) (by unfold fF; omega) rfl
  rw [mX5_degrees]
  have e1 : mX5_degrees_L4 fF (nI i) 0 0 σ = some t := e1
  rw [e1, b1s, e2, hd]
theorem k_degC {σ : fm_S} {L : Nat → Nat → Bool} (hn : NV σ L) {i : Nat} (hi : i < 8) : mX1_degreeOf20 (nI i) σ = some (nI (cn8 (L i))) := by
  rw [mX1_degreeOf20]
  simp only [chk8 hi (by decide), if_false]
  rw [rIn _ _ (by omega), q_cnt (hn i hi).1, b1s, cn8_congr (hn i hi).2]
theorem c_links {τ : fm_S} (h : RR τ) : ON (mX4_links τ) mX5_links := by
  obtain ⟨c, hw, hv⟩ := h
  have hc := hw.1
  obtain ⟨τ1, e1, r1, n1⟩ := k_draw hw
  have s1 : scr τ τ1 := scr.row r1 (by decide)
  have s2 := msc.last τ1 0
  have hv2 := s2.mv (s1.mv hv)
  obtain ⟨t, g1, g2⟩ := lpU (fun n x2 (s : Int32) => mX1_pairCount20_L4 n s x2 τ1) 8 (fun j s => s = nI (tot τ j)) (fun t => t = nI (tot τ 8))
    (fun n s hs => ⟨s, by simp only [mX1_pairCount20_L4]; rw [show (8 : Int32) = nI 8 from rfl, if_pos (nI_le (Nat.le_refl _) (by decide))], hs⟩)
    (fun n j s hj hs => ⟨nI (tot τ (j + 1)), by
      simp only [mX1_pairCount20_L4]
      rw [show (8 : Int32) = nI 8 from rfl, if_neg (nI_ge hj (by decide)), k_degC n1 hj, b1s, hs, nI_add, nI_1]; rfl, rfl⟩)
    fF 0 0 (Nat.zero_le _) (by unfold fF; omega) rfl
  obtain ⟨u, g3, g4⟩ := lpU (fun n x2 (s : Int32) => mX5_links_L9 n s x2 (fm_wr τ1 61 2 0)) c (fun j s => s = nI (tot τ j)) (fun t => t = nI (tot τ c))
    (fun n s hs => ⟨s, by simp only [mX5_links_L9]; rw [hv2.1, if_pos (nI_le (Nat.le_refl _) (by omega))], hs⟩)
    (fun n j s hj hs => ⟨nI (tot τ (j + 1)), by
      simp only [mX5_links_L9]
      rw [hv2.1, if_neg (nI_ge hj (by omega)), k_degM hw hv2 hj, b1s, hs, nI_add, nI_1]; rfl, rfl⟩)
    fF 0 0 (Nat.zero_le _) (by unfold fF; omega) rfl
  refine ⟨nI (tot τ 8) / 2, τ1, fm_wr τ1 61 2 0, ?_, ?_, ro hw hv s1 s2⟩
  · rw [mX4_links, e1, b1s, mX1_pairCount20]
    have g1 : mX1_pairCount20_L4 fF 0 0 τ1 = some t := g1
    rw [g1, b1s, b1s, g2]
  · rw [mX5_links]
    have g3 : mX5_links_L9 fF 0 0 (fm_wr τ1 61 2 0) = some u := g3
    rw [g3, b1s, g4, tot_hi hw 8 hc (Nat.le_refl _)]
theorem c_degree {τ : fm_S} (h : RR τ) (x1 : Int32) : OI (mL_degree x1 τ) (mX5_degree x1) := by
  obtain ⟨c, hw, hv⟩ := h
  have hc := hw.1
  rcases k_req hw x1 with ⟨⟨j, hj, rfl⟩, e1⟩ | ⟨h1, e1⟩
  · have hj8 : j < 8 := by omega
    obtain ⟨τ1, e2, r1, n1⟩ := k_draw hw
    have s1 : scr τ (sL τ1 55 (0 : Int32) (nI (deg τ j)).toInt64) := (scr.row r1 (by decide)).st _
    have s2 := msc.last (sL τ1 55 (0 : Int32) (nI (deg τ j)).toInt64) 0
    have hv1 := s1.mv hv
    have hv2 := s2.mv hv1
    rcases k_is hw hv1 (nI j) with ⟨-, f1⟩ | ⟨q1, -⟩
    · refine ⟨0, sL τ1 55 (0 : Int32) (nI (deg τ j)).toInt64, nI (deg τ j), fm_wr (sL τ1 55 (0 : Int32) (nI (deg τ j)).toInt64) 61 2 0, ?_, ?_, ?_, ?_, ro hw hv s1 s2⟩
      · rw [mL_degree, h2o (r := nI (deg τ j)) (σ := τ1)]
        · simp only [chk1, if_false]
        · rw [mX4_degree, e1, xo, e2, b1s, k_degC n1 hj8, b1s]; rfl
      · rw [mX5_degree, f1, b1s, show (1 : Int32) = bI true from rfl, k_goes, b2s, if_neg (by decide)]
        simp only [if_true]
        rw [k_degM hw hv2 hj, b1s]
      · rw [k_thrown, wrS]
      · intro _; rw [wL, st55]
    · exact absurd ⟨j, hj, rfl⟩ q1
  · rcases k_is hw hv x1 with ⟨n1, -⟩ | ⟨-, f1⟩
    · exact absurd n1 h1
    · refine ⟨1, τ, 0, fm_wr τ 61 2 1, ?_, ?_, (bad hw hv 1).1, fun q => absurd q (by decide), (bad hw hv 1).2⟩
      · rw [mL_degree, h2e (σ := τ) (E := "java/lang/IndexOutOfBoundsException")]
        · rfl
        · rw [mX4_degree, e1, xe]
      · rw [mX5_degree, f1, b1s, show (1 : Int32) = bI true from rfl, k_goes, b2s]; rfl
set_option maxHeartbeats 1000000 in
theorem c_want {τ : fm_S} (h : RR τ) (x1 x2 x3 : Int32) : OI (mL_want x1 x2 x3 τ) (mX5_want x1 x2 x3) := by
  obtain ⟨c, hw, hv⟩ := h
  have hc := hw.1
  obtain ⟨v, hvd⟩ : ∃ v : Bool, v = (decide (x3 = -1) || win x3 1 8000000) := ⟨_, rfl⟩
  have ev : (if x3 = -1 then some (1 : Int32) else mb1 (mX5_in x3 1 8000000) fun r14 => if r14 = 0 then some (0 : Int32) else some (1 : Int32)) = some (bI v) := by
    by_cases e : x3 = -1
    · rw [if_pos e, hvd]; simp [e, bI]
    · rw [if_neg e, k_in, b1s, hvd]; simp only [e, decide_false, Bool.false_or]
      cases win x3 1 8000000 <;> rfl
  rcases k_unlike hw x1 x2 with ⟨⟨i, hi, rfl⟩, ⟨j, hj, rfl⟩, hne, e1⟩ | ⟨hn, e1⟩ | ⟨hm, hn, he, e1⟩
  · have hi8 : i < 8 := by omega
    have hj8 : j < 8 := by omega
    have hij : i ≠ j := fun q => hne (by rw [q])
    by_cases hok : v = true
    · obtain ⟨τ1, d1⟩ : ∃ z, z = fm_wr (fm_wr τ (10 + i) j x3) (10 + j) i x3 := ⟨_, rfl⟩
      obtain ⟨σ1, d2⟩ : ∃ z, z = sL τ1 55 (0 : Int32) (τ.1 (10 + i) j).toInt64 := ⟨_, rfl⟩
      have r1 : ∀ a b, ¬ (10 ≤ a ∧ a < 18) → τ1.1 a b = τ.1 a b := fun a b hab => by rw [d1, wrN _ _ (by omega), wrN _ _ (by omega)]
      have rr : ∀ a, a < 8 → ∀ b, b < 8 → τ1.1 (10 + a) b = if (a = i ∧ b = j) ∨ (a = j ∧ b = i) then x3 else τ.1 (10 + a) b := fun a ha b hb => by
        rw [d1]
        by_cases q : a = j ∧ b = i
        · rw [if_pos (Or.inr q), q.1, q.2, wrS]
        · rw [wrN _ _ (by omega)]
          by_cases q2 : a = i ∧ b = j
          · rw [if_pos (Or.inl q2), q2.1, q2.2, wrS]
          · rw [wrN _ _ (by omega), if_neg (by omega)]
      have hv1 : MV σ1 τ c := hv.sig (fun a b hab => by rw [d2, st55a, r1 a b (by omega)])
      obtain ⟨t1, t2⟩ := two_true hw hv1 ⟨i, hi, rfl⟩ ⟨j, hj, rfl⟩
      have m50 : (fm_wr σ1 61 2 0).1 50 (8 * i + j) = τ.1 (10 + i) j := by rw [wrN _ _ (by omega)]; exact hv1.2.2.2.2.2 i hi8 j hj8
      have hcl : mX4_want (nI i) (nI j) x3 τ = some (.ok (τ.1 (10 + i) j, τ1)) := by
        rw [mX4_want, e1, xo]
        have ei : 9 + 1 + (nI i).toNatClampNeg = 10 + i := by rw [nI_clamp (by omega)]
        have ej : 9 + 1 + (nI j).toNatClampNeg = 10 + j := by rw [nI_clamp (by omega)]
        by_cases e : x3 = -1
        · rw [if_pos e]
          simp only [chk8 hi8 (by decide), chk8 hj8 (by decide), if_false, ei, ej]
          rw [rIn _ _ (by omega), sIn _ _ _ (by omega), sIn _ _ _ (by omega), ← d1]
        · rw [if_neg e]
          rcases k_win x3 1 8000000 τ with ⟨q1, q2⟩ | ⟨q1, q2⟩
          · rw [q2, xo]
            simp only [chk8 hi8 (by decide), chk8 hj8 (by decide), if_false, ei, ej]
            rw [rIn _ _ (by omega), sIn _ _ _ (by omega), sIn _ _ _ (by omega), ← d1]
          · rw [hok] at hvd; rw [q1] at hvd; simp [e] at hvd
      refine ⟨0, σ1, τ.1 (10 + i) j, fm_wr (fm_wr (fm_wr σ1 61 2 0) 50 (8 * i + j) x3) 50 (8 * j + i) x3, ?_, ?_, ?_, ?_, ?_⟩
      · rw [mL_want, h2o hcl]
        simp only [chk1, if_false]; rw [d2]
      · rw [mX5_want, if_neg hne, ev, b1s, k_two t1 t2, hok, k_goes, b2s, if_neg (by decide)]
        simp only [ix8, chk8 (show 8 * i + j < 64 by omega) (by decide), chk8 (show 8 * j + i < 64 by omega) (by decide), if_false, if_true, Bool.and_self]
        rw [rIn _ _ (by omega), m50, sIn _ _ _ (by omega), sIn _ _ _ (by omega)]
      · rw [k_thrown, wrN _ _ (by omega), wrN _ _ (by omega), wrS]
      · intro _; rw [wL, wL, wL, d2, st55]
      · obtain ⟨w1, w2, w3, w4, w5, w6, w7, w8⟩ := id hw
        have u1 : WF τ1 c := by
          refine ⟨w1, by rw [r1 _ _ (by omega)]; exact w2, fun i hi => by rw [r1 _ _ (by omega)]; exact w3 i hi, fun i hi hi' => by rw [r1 _ _ (by omega)]; exact w4 i hi hi', fun i hi => by rw [r1 _ _ (by omega)]; exact w5 i hi, fun a ha k hk => by rw [r1 _ _ (by omega), r1 _ _ (by omega)]; exact w6 a ha k hk, fun a ha k hk => ?_, fun i hi => by rw [r1 _ _ (by omega)]; exact w8 i hi⟩
          rw [rr a ha k hk, rr k hk a ha]
          by_cases q : (a = i ∧ k = j) ∨ (a = j ∧ k = i)
          · rw [if_pos q, if_pos (by omega)]
          · rw [if_neg q, if_neg (by omega)]; exact w7 a ha k hk
        refine fin (τ := τ1) u1 ?_ (fun a b hab => by rw [wrN _ _ (by omega), wrN _ _ (by omega), wrN _ _ (by omega), d2, st55a])
        obtain ⟨h1, h2, h3, h4, h5, h6⟩ := hv1
        have r3 : ∀ a d : Nat, a ≠ 50 → (a = 61 → d ≠ 2) → (fm_wr (fm_wr (fm_wr σ1 61 2 0) 50 (8 * i + j) x3) 50 (8 * j + i) x3).1 a d = σ1.1 a d := fun a d hab hd => by rw [wrN _ _ (by omega), wrN _ _ (by omega), wrN _ _ (by omega)]
        refine ⟨by rw [r3 _ _ (by omega) (by omega)]; exact h1, by rw [r3 _ _ (by omega) (by omega), r1 _ _ (by omega)]; exact h2, fun i hi => ?_, fun i hi => ?_, fun i hi k hk => by rw [r3 _ _ (by omega) (by omega), r1 _ _ (by omega)]; exact h5 i hi k hk, fun a ha k hk => ?_⟩
        · rw [r3 41 i (by omega) (by omega), r3 42 i (by omega) (by omega), r3 44 i (by omega) (by omega), r3 45 i (by omega) (by omega), r3 46 i (by omega) (by omega), r3 47 i (by omega) (by omega), r3 48 i (by omega) (by omega), r1 1 i (by omega), r1 2 i (by omega), r1 4 i (by omega), r1 5 i (by omega), r1 6 i (by omega), r1 7 i (by omega), r1 8 i (by omega)]
          exact h3 i hi
        · rw [r3 43 i (by omega) (by omega), r1 3 i (by omega)]; exact h4 i hi
        · rw [rr a ha k hk]
          by_cases q : (a = i ∧ k = j) ∨ (a = j ∧ k = i)
          · rw [if_pos q]
            by_cases q2 : 8 * a + k = 8 * j + i
            · rw [q2, wrS]
            · rw [wrN _ _ (Or.inr q2), show 8 * a + k = 8 * i + j by omega, wrS]
          · rw [if_neg q, wrN _ _ (by omega), wrN _ _ (by omega), wrN _ _ (by omega)]
            exact h6 a ha k hk
    · have hv0 : v = false := Bool.eq_false_iff.mpr hok
      obtain ⟨t1, t2⟩ := two_true hw hv ⟨i, hi, rfl⟩ ⟨j, hj, rfl⟩
      rw [hv0] at hvd
      have ex3 : ¬ x3 = -1 := fun q => by rw [q] at hvd; simp at hvd
      have ewin : win x3 1 8000000 = false := by
        cases hq : win x3 1 8000000
        · rfl
        · rw [hq] at hvd; simp at hvd
      refine ⟨2, τ, 0, fm_wr τ 61 2 2, ?_, ?_, (bad hw hv 2).1, fun q => absurd q (by decide), (bad hw hv 2).2⟩
      · rw [mL_want, h2e (σ := τ) (E := "java/lang/IllegalArgumentException")]
        · rfl
        · rw [mX4_want, e1, xo, if_neg ex3]
          rcases k_win x3 1 8000000 τ with ⟨q1, q2⟩ | ⟨q1, q2⟩
          · rw [q1] at ewin; cases ewin
          · rw [q2, xe]
      · rw [mX5_want, if_neg hne, ev, b1s, k_two t1 t2, hv0, k_goes, b2s]; rfl
  · obtain ⟨p, q, g1, g2, g3⟩ := two_false hw hv hn
    refine ⟨1, τ, 0, fm_wr τ 61 2 1, ?_, ?_, (bad hw hv 1).1, fun q => absurd q (by decide), (bad hw hv 1).2⟩
    · rw [mL_want, h2e (σ := τ) (E := "java/lang/IndexOutOfBoundsException")]
      · rfl
      · rw [mX4_want, e1, xe]
    · rw [mX5_want]
      by_cases e : x1 = x2
      · rw [if_pos e, b1s, k_two g1 g2, g3, show mX5_goes (bI false) (0 : Int32) τ = _ from k_goes false false τ, b2s]; rfl
      · rw [if_neg e, ev, b1s, k_two g1 g2, g3, k_goes, b2s]; cases v <;> rfl
  · obtain ⟨t1, t2⟩ := two_true hw hv hm hn
    refine ⟨2, τ, 0, fm_wr τ 61 2 2, ?_, ?_, (bad hw hv 2).1, fun q => absurd q (by decide), (bad hw hv 2).2⟩
    · rw [mL_want, h2e (σ := τ) (E := "java/lang/IllegalArgumentException")]
      · rfl
      · rw [mX4_want, e1, xe]
    · rw [mX5_want, if_pos he, b1s, k_two t1 t2, show mX5_goes (bI (true && true)) (0 : Int32) τ = _ from k_goes true false τ, b2s]; rfl
end LVF
