section LVC
def RR (σ : fm_S) : Prop := ∃ c, WF σ c ∧ MV σ σ c
def bI (b : Bool) : Int32 := if b then 1 else 0
theorem bI0 (b : Bool) : bI b = 0 ↔ b = false := by cases b <;> decide
def mem (x : Int32) (c : Nat) : Prop := ∃ j, j < c ∧ x = nI j
theorem k_req {τ : fm_S} {c : Nat} (hw : WF τ c) (x : Int32) : (mem x c ∧ mX4_requireMember x τ = some (.ok τ)) ∨ (¬ mem x c ∧ mX4_requireMember x τ = some (.error ("java/lang/IndexOutOfBoundsException", τ))) := by
  have hc := hw.1
  rw [mX4_requireMember, hw.2.1]
  rcases pk_ix x (show c < 2 ^ 31 by omega) with h | h | ⟨j, hj, rfl⟩
  · right
    refine ⟨?_, by rw [if_pos h]⟩
    rintro ⟨j, hj, rfl⟩
    exact nI_pos (by omega) h
  · right
    have h1 : ¬ x < 0 := fun q => Int32.not_le.mpr (Int32.lt_of_lt_of_le q (nI_pos' (show c < 2 ^ 31 by omega))) h
    refine ⟨?_, by rw [if_neg h1, if_neg (Int32.not_lt.mpr h)]⟩
    rintro ⟨j, hj, rfl⟩
    exact nI_ge hj (by omega) h
  · left
    exact ⟨⟨j, hj, rfl⟩, by rw [if_neg (nI_pos (by omega)), if_pos (nI_lt hj (by omega))]⟩
theorem k_is {σ τ : fm_S} {c : Nat} (hw : WF τ c) (h : MV σ τ c) (x : Int32) : (mem x c ∧ mX5_is x σ = some (bI true)) ∨ (¬ mem x c ∧ mX5_is x σ = some (bI false)) := by
  have hc := hw.1
  rw [mX5_is, h.1, mX5_in]
  rcases pk_ix x (show c < 2 ^ 31 by omega) with hx | hx | ⟨j, hj, rfl⟩
  · right
    refine ⟨?_, by rw [if_pos hx, b1s]; decide⟩
    rintro ⟨j, hj, rfl⟩
    exact nI_pos (by omega) hx
  · right
    have h1 : ¬ x < 0 := fun q => Int32.not_le.mpr (Int32.lt_of_lt_of_le q (nI_pos' (show c < 2 ^ 31 by omega))) hx
    have h2 : nI c - 1 < x := by
      obtain ⟨j, hj, rfl⟩ := nI_of h1
      have hcj : c ≤ j := (nI_leI (by omega) hj).mp hx
      by_cases h0 : c = 0
      · subst h0
        have : nI 0 - 1 < nI 0 := by decide
        exact Int32.lt_of_lt_of_le this (nI_le (by omega) hj)
      · rw [show c = (c - 1) + 1 by omega, nI_pred]
        exact nI_lt (by omega) hj
    refine ⟨?_, by rw [if_neg h1, if_pos h2, b1s]; decide⟩
    rintro ⟨j, hj, rfl⟩
    exact nI_ge hj (by omega) hx
  · left
    have h2 : ¬ nI c - 1 < nI j := by
      rw [show c = (c - 1) + 1 by omega, nI_pred]
      exact nI_nlt (by omega) (by omega)
    exact ⟨⟨j, hj, rfl⟩, by rw [if_neg (nI_pos (by omega)), if_neg h2, b1s]; decide⟩
theorem k_goes (p q : Bool) (σ : fm_S) : mX5_goes (bI p) (bI q) σ = some (bI (p && q), fm_wr σ 61 2 (if p then (if q then 0 else 2) else 1)) := by
  cases p <;> cases q <;> simp [mX5_goes, bI, b1s, wrS]
def win (x lo hi : Int32) : Bool := decide (¬ x < lo) && decide (x ≤ hi)
theorem k_win (x lo hi : Int32) (τ : fm_S) : (win x lo hi = true ∧ mX4_requireWithin x lo hi τ = some (.ok τ)) ∨ (win x lo hi = false ∧ mX4_requireWithin x lo hi τ = some (.error ("java/lang/IllegalArgumentException", τ))) := by
  unfold win mX4_requireWithin
  by_cases h1 : x < lo <;> by_cases h2 : x ≤ hi <;> simp [h1, h2]
theorem k_in (x lo hi : Int32) : mX5_in x lo hi = some (bI (win x lo hi)) := by
  unfold win mX5_in bI
  by_cases h1 : x < lo
  · simp [h1]
  · by_cases h2 : x ≤ hi
    · have : ¬ hi < x := Int32.not_lt.mpr h2
      simp [h1, h2, this]
    · have : hi < x := Int32.not_le.mp h2
      simp [h1, h2, this]
theorem k_place (x y : Int32) (τ : fm_S) : ((win x (-1000) 1000 && win y (-1000) 1000) = true ∧ mX4_requirePlace x y τ = some (.ok τ)) ∨ ((win x (-1000) 1000 && win y (-1000) 1000) = false ∧ mX4_requirePlace x y τ = some (.error ("java/lang/IllegalArgumentException", τ))) := by
  rw [mX4_requirePlace]
  rcases k_win x (-1000) 1000 τ with ⟨h1, e1⟩ | ⟨h1, e1⟩
  · rw [e1, xo]
    rcases k_win y (-1000) 1000 τ with ⟨h2, e2⟩ | ⟨h2, e2⟩
    · rw [e2, xo]; left; exact ⟨by rw [h1, h2]; rfl, rfl⟩
    · rw [e2, xe]; right; exact ⟨by rw [h1, h2]; rfl, rfl⟩
  · rw [e1, xe]; right; exact ⟨by rw [h1]; rfl, rfl⟩
theorem k_isPlace (x y : Int32) : mX5_isPlace x y = some (bI (win x (-1000) 1000 && win y (-1000) 1000)) := by
  rw [mX5_isPlace, k_in, b1s, k_in]
  cases win x (-1000) 1000 <;> cases win y (-1000) 1000 <;> rfl
theorem k_thrown (σ : fm_S) : mX5_thrown σ = some (σ.1 61 2) := rfl
theorem fin {σ τ : fm_S} {c : Nat} (hw : WF τ c) (hv : MV σ τ c) (e : ∀ a b, a < 20 ∨ a = 60 → σ.1 a b = τ.1 a b) : RR σ :=
  ⟨c, hw.of (fun a b h => e a b (by omega)), hv.of (fun _ _ _ => rfl) e⟩
/-- a pair of rows written alike -/
theorem MV.wr {σ τ : fm_S} {c : Nat} (h : MV σ τ c) (q q' : Nat) (hq : (q = 1 ∧ q' = 41) ∨ (q = 2 ∧ q' = 42) ∨ (q = 4 ∧ q' = 44) ∨ (q = 5 ∧ q' = 45) ∨ (q = 6 ∧ q' = 46) ∨ (q = 7 ∧ q' = 47) ∨ (q = 8 ∧ q' = 48)) (j : Nat) (v : Int32) : MV (fm_wr σ q' j v) (fm_wr τ q j v) c := by
  obtain ⟨h1, h2, h3, h4, h5, h6⟩ := h
  refine ⟨by rw [wrN _ _ (by omega)]; exact h1, by rw [wrN _ _ (by omega), wrN _ _ (by omega)]; exact h2, fun i hi => ?_, fun i hi => ?_, fun i hi k hk => ?_, fun i hi k hk => ?_⟩
  · obtain ⟨a1, a2, a3, a4, a5, a6, a7⟩ := h3 i hi
    by_cases e : i = j
    · subst e
      rcases hq with ⟨rfl, rfl⟩ | ⟨rfl, rfl⟩ | ⟨rfl, rfl⟩ | ⟨rfl, rfl⟩ | ⟨rfl, rfl⟩ | ⟨rfl, rfl⟩ | ⟨rfl, rfl⟩ <;> simp [fm_wr, a1, a2, a3, a4, a5, a6, a7]
    · simp only [wrN _ _ (Or.inr e)]
      exact ⟨a1, a2, a3, a4, a5, a6, a7⟩
  · rw [wrN _ _ (by omega), wrN _ _ (by omega)]; exact h4 i hi
  · rw [wrN _ _ (by omega), wrN _ _ (by omega)]; exact h5 i hi k hk
  · rw [wrN _ _ (by omega), wrN _ _ (by omega)]; exact h6 i hi k hk
theorem MV.last {σ τ : fm_S} {c : Nat} (h : MV σ τ c) (v : Int32) : MV (fm_wr σ 61 2 v) τ c := h.of (fun a b hab => wrN _ _ (by omega)) (fun _ _ _ => rfl)
theorem MV.tau {σ τ τ' : fm_S} {c : Nat} (h : MV σ τ c) (e : ∀ a b, a < 20 ∨ a = 60 → τ'.1 a b = τ.1 a b) : MV σ τ' c := h.of (fun _ _ _ => rfl) e
theorem MV.sig {σ σ' τ : fm_S} {c : Nat} (h : MV σ τ c) (e : ∀ a b, (41 ≤ a ∧ a ≤ 50) ∨ a = 61 → σ'.1 a b = σ.1 a b) : MV σ' τ c := h.of (fun a b hab => e a b (by omega)) (fun _ _ _ => rfl)
theorem h1o {o : Option fm_OV} {σ : fm_S} {γ : Type} {f : fm_S → Option γ} {g : String → fm_S → Option γ} (h : o = some (.ok σ)) : mh1 o f g = f σ := by rw [h]; rfl
theorem h1e {o : Option fm_OV} {σ : fm_S} {E : String} {γ : Type} {f : fm_S → Option γ} {g : String → fm_S → Option γ} (h : o = some (.error (E, σ))) : mh1 o f g = g E σ := by rw [h]; rfl
theorem h2o {o : Option fm_OI} {r : Int32} {σ : fm_S} {γ : Type} {f : Int32 → fm_S → Option γ} {g : String → fm_S → Option γ} (h : o = some (.ok (r, σ))) : mh2 o f g = f r σ := by rw [h]; rfl
theorem h2e {o : Option fm_OI} {σ : fm_S} {E : String} {γ : Type} {f : Int32 → fm_S → Option γ} {g : String → fm_S → Option γ} (h : o = some (.error (E, σ))) : mh2 o f g = g E σ := by rw [h]; rfl
theorem chk1 : ((0 : Int32) < 0 ∨ 1 ≤ (0 : Int32).toNatClampNeg) = False := by
  have : ¬ ((0 : Int32) < 0 ∨ 1 ≤ (0 : Int32).toNatClampNeg) := by decide
  exact eq_false this
theorem st55 (σ : fm_S) (v : Int64) : rL (sL σ 55 (0 : Int32) v) 55 (0 : Int32) = v := by
  unfold rL sL fm_wl; simp
theorem st55a (σ : fm_S) (v : Int64) : (sL σ 55 (0 : Int32) v).1 = σ.1 := rfl
theorem rL_of {σ σ' : fm_S} (h : σ'.2 = σ.2) (i : Int32) : rL σ' 55 i = rL σ 55 i := by unfold rL; rw [h]
-- the calls
theorem c_move {τ : fm_S} (h : RR τ) (x1 x2 x3 : Int32) : ∃ r σ1 σ2, mL_move x1 x2 x3 τ = some (r, σ1) ∧ mX5_move x1 x2 x3 σ1 = some σ2 ∧ mX5_thrown σ2 = some r ∧ RR σ2 := by
  obtain ⟨c, hw, hv⟩ := h
  have hc := hw.1
  rcases k_req hw x1 with ⟨⟨j, hj, rfl⟩, e1⟩ | ⟨h1, e1⟩
  · rcases k_is hw hv (nI j) with ⟨-, f1⟩ | ⟨n1, -⟩
    · rcases k_place x2 x3 τ with ⟨h2, e2⟩ | ⟨h2, e2⟩
      · have hv1 : MV (fm_wr (fm_wr τ 1 j x2) 2 j x3) τ c := hv.sig (fun a b hab => by rw [wrN _ _ (by omega), wrN _ _ (by omega)])
        have k1 := k_is hw hv1 (nI j)
        rcases k1 with ⟨-, f1⟩ | ⟨n1, -⟩
        · refine ⟨0, fm_wr (fm_wr τ 1 j x2) 2 j x3, fm_wr (fm_wr (fm_wr (fm_wr (fm_wr τ 1 j x2) 2 j x3) 61 2 0) 41 j x2) 42 j x3, ?_, ?_, ?_, ?_⟩
          · rw [mL_move, h1o (σ := fm_wr (fm_wr τ 1 j x2) 2 j x3)]
            rw [mX4_move, e1, xo, e2, xo]
            simp only [chk8 (show j < 8 by omega) (by decide), if_false]
            rw [sIn _ _ _ (by omega), sIn _ _ _ (by omega)]
          · rw [mX5_move, f1, b1s, k_isPlace, h2, b1s, k_goes, b2s]
            rw [if_neg (by decide)]
            simp only [chk8 (show j < 8 by omega) (by decide), if_false]
            rw [sIn _ _ _ (by omega), sIn _ _ _ (by omega)]; rfl
          · rw [k_thrown, wrN _ _ (by omega), wrN _ _ (by omega), wrS]
          · refine fin (τ := fm_wr (fm_wr τ 1 j x2) 2 j x3) (c := c) (hw.of (fun a b hab => by rw [wrN _ _ (by omega), wrN _ _ (by omega)])) ?_ (fun a b hab => by rw [wrN _ _ (by omega), wrN _ _ (by omega), wrN _ _ (by omega)])
            exact ((hv1.last 0).wr 1 41 (by omega) j x2).wr 2 42 (by omega) j x3
        · exact absurd ⟨j, hj, rfl⟩ n1
      · refine ⟨2, τ, fm_wr τ 61 2 2, ?_, ?_, ?_, ?_⟩
        · rw [mL_move, h1e (σ := τ) (E := "java/lang/IllegalArgumentException")]
          · rfl
          · rw [mX4_move, e1, xo, e2, xe]
        · rw [mX5_move, f1, b1s, k_isPlace, h2, b1s, k_goes, b2s]; rfl
        · rw [k_thrown, wrS]
        · exact fin hw (hv.last 2) (fun a b hab => wrN _ _ (by omega))
    · exact absurd ⟨j, hj, rfl⟩ n1
  · rcases k_is hw hv x1 with ⟨n1, -⟩ | ⟨-, f1⟩
    · exact absurd n1 h1
    · refine ⟨1, τ, fm_wr τ 61 2 1, ?_, ?_, ?_, ?_⟩
      · rw [mL_move, h1e (σ := τ) (E := "java/lang/IndexOutOfBoundsException")]
        · rfl
        · rw [mX4_move, e1, xe]
      · rw [mX5_move, f1, b1s, k_isPlace, b1s, k_goes, b2s]; rfl
      · rw [k_thrown, wrS]
      · exact fin hw (hv.last _) (fun a b hab => wrN _ _ (by omega))
def OI (cl : Option (Int32 × fm_S)) (md : fm_S → Option (Int32 × fm_S)) : Prop := ∃ r σ1 a σ2, cl = some (r, σ1) ∧ md σ1 = some (a, σ2) ∧ mX5_thrown σ2 = some r ∧ (r = 0 → rL σ2 55 (0 : Int32) = a.toInt64) ∧ RR σ2
def OZ (cl : Option (Int32 × fm_S)) (md : fm_S → Option (Int32 × fm_S)) : Prop := ∃ r σ1 a σ2, cl = some (r, σ1) ∧ md σ1 = some (a, σ2) ∧ mX5_thrown σ2 = some r ∧ (r = 0 → rL σ2 55 (0 : Int32) = if a = 0 then 0 else 1) ∧ RR σ2
theorem wL (σ : fm_S) (q i : Nat) (v : Int32) (k : Nat) (x : Int32) : rL (fm_wr σ q i v) k x = rL σ k x := rfl
theorem MV.st {τ τ' : fm_S} {c : Nat} (h : MV τ' τ c) (v : Int64) : MV (sL τ' 55 (0 : Int32) v) τ c := h.of (fun _ _ _ => rfl) (fun _ _ _ => rfl)
theorem bad {τ : fm_S} {c : Nat} (hw : WF τ c) (hv : MV τ τ c) (v : Int32) : mX5_thrown (fm_wr τ 61 2 v) = some v ∧ RR (fm_wr τ 61 2 v) := ⟨by rw [k_thrown, wrS], fin hw (hv.last v) (fun a b hab => wrN _ _ (by omega))⟩
theorem k_val (x : Int32) (τ : fm_S) : (win x (-1000000) 1000000 = true ∧ mX4_requireValue x τ = some (.ok τ)) ∨ (win x (-1000000) 1000000 = false ∧ mX4_requireValue x τ = some (.error ("java/lang/IllegalArgumentException", τ))) := by
  rw [mX4_requireValue]
  rcases k_win x (-1000000) 1000000 τ with ⟨h1, e1⟩ | ⟨h1, e1⟩
  · rw [e1, xo]; exact Or.inl ⟨h1, rfl⟩
  · rw [e1, xe]; exact Or.inr ⟨h1, rfl⟩

theorem c_setPriority {τ : fm_S} (h : RR τ) (x1 x2 : Int32) : OI (mL_setPriority x1 x2 τ) (mX5_setPriority x1 x2) := by
  obtain ⟨c, hw, hv⟩ := h
  have hc := hw.1
  rcases k_req hw x1 with ⟨⟨j, hj, rfl⟩, e1⟩ | ⟨h1, e1⟩
  · have hj8 : j < 8 := by omega
    rcases k_win x2 0 99 τ with ⟨h2, e2⟩ | ⟨h2, e2⟩
    · have hv1 : MV (sL (fm_wr τ 4 j x2) 55 (0 : Int32) (τ.1 4 j).toInt64) τ c := hv.sig (fun a b hab => by rw [st55a, wrN _ _ (by omega)])
      have hv2 : MV (sL (fm_wr τ 4 j x2) 55 (0 : Int32) (τ.1 4 j).toInt64) (fm_wr τ 4 j x2) c → True := fun _ => trivial
      have eo : (sL (fm_wr τ 4 j x2) 55 (0 : Int32) (τ.1 4 j).toInt64).1 44 j = τ.1 4 j := (hv1.2.2.1 j hj8).2.2.1
      rcases k_is hw hv1 (nI j) with ⟨-, f1⟩ | ⟨n1, -⟩
      · refine ⟨0, sL (fm_wr τ 4 j x2) 55 (0 : Int32) (τ.1 4 j).toInt64, τ.1 4 j, fm_wr (fm_wr (sL (fm_wr τ 4 j x2) 55 (0 : Int32) (τ.1 4 j).toInt64) 61 2 0) 44 j x2, ?_, ?_, ?_, ?_, ?_⟩
        · rw [mL_setPriority, h2o (r := τ.1 4 j) (σ := fm_wr τ 4 j x2)]
          · simp only [chk1, if_false]
          · rw [mX4_setPriority, e1, xo, e2, xo]
            simp only [chk8 hj8 (by decide), if_false]
            rw [rIn _ _ (by omega), sIn _ _ _ (by omega)]
        · rw [mX5_setPriority, f1, b1s, k_in, h2, b1s, k_goes, b2s, if_neg (by decide)]
          simp only [chk8 hj8 (by decide), if_false]
          rw [rIn _ _ (by omega), sIn _ _ _ (by omega), ← eo]; rfl
        · rw [k_thrown, wrN _ _ (by omega), wrS]
        · intro _; rw [wL, wL, st55]
        · refine fin (τ := fm_wr τ 4 j x2) (c := c) (hw.of (fun a b hab => by rw [wrN _ _ (by omega)])) ?_ (fun a b hab => by rw [wrN _ _ (by omega), wrN _ _ (by omega), st55a])
          exact (hv1.last 0).wr 4 44 (by omega) j x2
      · exact absurd ⟨j, hj, rfl⟩ n1
    · rcases k_is hw hv (nI j) with ⟨-, f1⟩ | ⟨n1, -⟩
      · refine ⟨2, τ, 0, fm_wr τ 61 2 2, ?_, ?_, (bad hw hv 2).1, fun q => absurd q (by decide), (bad hw hv 2).2⟩
        · rw [mL_setPriority, h2e (σ := τ) (E := "java/lang/IllegalArgumentException")]
          · rfl
          · rw [mX4_setPriority, e1, xo, e2, xe]
        · rw [mX5_setPriority, f1, b1s, k_in, h2, b1s, k_goes, b2s]; rfl
      · exact absurd ⟨j, hj, rfl⟩ n1
  · rcases k_is hw hv x1 with ⟨n1, -⟩ | ⟨-, f1⟩
    · exact absurd n1 h1
    · refine ⟨1, τ, 0, fm_wr τ 61 2 1, ?_, ?_, (bad hw hv 1).1, fun q => absurd q (by decide), (bad hw hv 1).2⟩
      · rw [mL_setPriority, h2e (σ := τ) (E := "java/lang/IndexOutOfBoundsException")]
        · rfl
        · rw [mX4_setPriority, e1, xe]
      · rw [mX5_setPriority, f1, b1s, k_in, b1s, k_goes, b2s]; rfl
theorem c_setEstimate {τ : fm_S} (h : RR τ) (x1 x2 : Int32) : OI (mL_setEstimate x1 x2 τ) (mX5_setEstimate x1 x2) := by
  obtain ⟨c, hw, hv⟩ := h
  have hc := hw.1
  rcases k_req hw x1 with ⟨⟨j, hj, rfl⟩, e1⟩ | ⟨h1, e1⟩
  · have hj8 : j < 8 := by omega
    rcases k_val x2 τ with ⟨h2, e2⟩ | ⟨h2, e2⟩
    · have hv1 : MV (sL (fm_wr τ 5 j x2) 55 (0 : Int32) (τ.1 5 j).toInt64) τ c := hv.sig (fun a b hab => by rw [st55a, wrN _ _ (by omega)])
      have hv2 : MV (sL (fm_wr τ 5 j x2) 55 (0 : Int32) (τ.1 5 j).toInt64) (fm_wr τ 5 j x2) c → True := fun _ => trivial
      have eo : (sL (fm_wr τ 5 j x2) 55 (0 : Int32) (τ.1 5 j).toInt64).1 45 j = τ.1 5 j := (hv1.2.2.1 j hj8).2.2.2.1
      rcases k_is hw hv1 (nI j) with ⟨-, f1⟩ | ⟨n1, -⟩
      · refine ⟨0, sL (fm_wr τ 5 j x2) 55 (0 : Int32) (τ.1 5 j).toInt64, τ.1 5 j, fm_wr (fm_wr (sL (fm_wr τ 5 j x2) 55 (0 : Int32) (τ.1 5 j).toInt64) 61 2 0) 45 j x2, ?_, ?_, ?_, ?_, ?_⟩
        · rw [mL_setEstimate, h2o (r := τ.1 5 j) (σ := fm_wr τ 5 j x2)]
          · simp only [chk1, if_false]
          · rw [mX4_setEstimate, e1, xo, e2, xo]
            simp only [chk8 hj8 (by decide), if_false]
            rw [rIn _ _ (by omega), sIn _ _ _ (by omega)]
        · rw [mX5_setEstimate, f1, b1s, k_in, h2, b1s, k_goes, b2s, if_neg (by decide)]
          simp only [chk8 hj8 (by decide), if_false]
          rw [rIn _ _ (by omega), sIn _ _ _ (by omega), ← eo]; rfl
        · rw [k_thrown, wrN _ _ (by omega), wrS]
        · intro _; rw [wL, wL, st55]
        · refine fin (τ := fm_wr τ 5 j x2) (c := c) (hw.of (fun a b hab => by rw [wrN _ _ (by omega)])) ?_ (fun a b hab => by rw [wrN _ _ (by omega), wrN _ _ (by omega), st55a])
          exact (hv1.last 0).wr 5 45 (by omega) j x2
      · exact absurd ⟨j, hj, rfl⟩ n1
    · rcases k_is hw hv (nI j) with ⟨-, f1⟩ | ⟨n1, -⟩
      · refine ⟨2, τ, 0, fm_wr τ 61 2 2, ?_, ?_, (bad hw hv 2).1, fun q => absurd q (by decide), (bad hw hv 2).2⟩
        · rw [mL_setEstimate, h2e (σ := τ) (E := "java/lang/IllegalArgumentException")]
          · rfl
          · rw [mX4_setEstimate, e1, xo, e2, xe]
        · rw [mX5_setEstimate, f1, b1s, k_in, h2, b1s, k_goes, b2s]; rfl
      · exact absurd ⟨j, hj, rfl⟩ n1
  · rcases k_is hw hv x1 with ⟨n1, -⟩ | ⟨-, f1⟩
    · exact absurd n1 h1
    · refine ⟨1, τ, 0, fm_wr τ 61 2 1, ?_, ?_, (bad hw hv 1).1, fun q => absurd q (by decide), (bad hw hv 1).2⟩
      · rw [mL_setEstimate, h2e (σ := τ) (E := "java/lang/IndexOutOfBoundsException")]
        · rfl
        · rw [mX4_setEstimate, e1, xe]
      · rw [mX5_setEstimate, f1, b1s, k_in, b1s, k_goes, b2s]; rfl
theorem c_setSum {τ : fm_S} (h : RR τ) (x1 x2 : Int32) : OI (mL_setSum x1 x2 τ) (mX5_setSum x1 x2) := by
  obtain ⟨c, hw, hv⟩ := h
  have hc := hw.1
  rcases k_req hw x1 with ⟨⟨j, hj, rfl⟩, e1⟩ | ⟨h1, e1⟩
  · have hj8 : j < 8 := by omega
    rcases k_val x2 τ with ⟨h2, e2⟩ | ⟨h2, e2⟩
    · have hv1 : MV (sL (fm_wr τ 6 j x2) 55 (0 : Int32) (τ.1 6 j).toInt64) τ c := hv.sig (fun a b hab => by rw [st55a, wrN _ _ (by omega)])
      have hv2 : MV (sL (fm_wr τ 6 j x2) 55 (0 : Int32) (τ.1 6 j).toInt64) (fm_wr τ 6 j x2) c → True := fun _ => trivial
      have eo : (sL (fm_wr τ 6 j x2) 55 (0 : Int32) (τ.1 6 j).toInt64).1 46 j = τ.1 6 j := (hv1.2.2.1 j hj8).2.2.2.2.1
      rcases k_is hw hv1 (nI j) with ⟨-, f1⟩ | ⟨n1, -⟩
      · refine ⟨0, sL (fm_wr τ 6 j x2) 55 (0 : Int32) (τ.1 6 j).toInt64, τ.1 6 j, fm_wr (fm_wr (sL (fm_wr τ 6 j x2) 55 (0 : Int32) (τ.1 6 j).toInt64) 61 2 0) 46 j x2, ?_, ?_, ?_, ?_, ?_⟩
        · rw [mL_setSum, h2o (r := τ.1 6 j) (σ := fm_wr τ 6 j x2)]
          · simp only [chk1, if_false]
          · rw [mX4_setSum, e1, xo, e2, xo]
            simp only [chk8 hj8 (by decide), if_false]
            rw [rIn _ _ (by omega), sIn _ _ _ (by omega)]
        · rw [mX5_setSum, f1, b1s, k_in, h2, b1s, k_goes, b2s, if_neg (by decide)]
          simp only [chk8 hj8 (by decide), if_false]
          rw [rIn _ _ (by omega), sIn _ _ _ (by omega), ← eo]; rfl
        · rw [k_thrown, wrN _ _ (by omega), wrS]
        · intro _; rw [wL, wL, st55]
        · refine fin (τ := fm_wr τ 6 j x2) (c := c) (hw.of (fun a b hab => by rw [wrN _ _ (by omega)])) ?_ (fun a b hab => by rw [wrN _ _ (by omega), wrN _ _ (by omega), st55a])
          exact (hv1.last 0).wr 6 46 (by omega) j x2
      · exact absurd ⟨j, hj, rfl⟩ n1
    · rcases k_is hw hv (nI j) with ⟨-, f1⟩ | ⟨n1, -⟩
      · refine ⟨2, τ, 0, fm_wr τ 61 2 2, ?_, ?_, (bad hw hv 2).1, fun q => absurd q (by decide), (bad hw hv 2).2⟩
        · rw [mL_setSum, h2e (σ := τ) (E := "java/lang/IllegalArgumentException")]
          · rfl
          · rw [mX4_setSum, e1, xo, e2, xe]
        · rw [mX5_setSum, f1, b1s, k_in, h2, b1s, k_goes, b2s]; rfl
      · exact absurd ⟨j, hj, rfl⟩ n1
  · rcases k_is hw hv x1 with ⟨n1, -⟩ | ⟨-, f1⟩
    · exact absurd n1 h1
    · refine ⟨1, τ, 0, fm_wr τ 61 2 1, ?_, ?_, (bad hw hv 1).1, fun q => absurd q (by decide), (bad hw hv 1).2⟩
      · rw [mL_setSum, h2e (σ := τ) (E := "java/lang/IndexOutOfBoundsException")]
        · rfl
        · rw [mX4_setSum, e1, xe]
      · rw [mX5_setSum, f1, b1s, k_in, b1s, k_goes, b2s]; rfl
theorem c_xOf {τ : fm_S} (h : RR τ) (x1 : Int32) : OI (mL_xOf x1 τ) (mX5_xOf x1) := by
  obtain ⟨c, hw, hv⟩ := h
  have hc := hw.1
  rcases k_req hw x1 with ⟨⟨j, hj, rfl⟩, e1⟩ | ⟨h1, e1⟩
  · have hj8 : j < 8 := by omega
    have hv1 := hv.st (τ.1 1 j).toInt64
    have eo : (sL τ 55 (0 : Int32) (τ.1 1 j).toInt64).1 41 j = τ.1 1 j := (hv1.2.2.1 j hj8).1
    rcases k_is hw hv1 (nI j) with ⟨-, f1⟩ | ⟨n1, -⟩
    · refine ⟨0, sL τ 55 (0 : Int32) (τ.1 1 j).toInt64, τ.1 1 j, fm_wr (sL τ 55 (0 : Int32) (τ.1 1 j).toInt64) 61 2 0, ?_, ?_, ?_, ?_, ?_⟩
      · rw [mL_xOf, h2o (r := τ.1 1 j) (σ := τ)]
        · simp only [chk1, if_false]
        · rw [mX4_xOf, e1, xo]
          simp only [chk8 hj8 (by decide), if_false]
          rw [rIn _ _ (by omega)]
      · rw [mX5_xOf, f1, b1s]
        rw [show (1 : Int32) = bI true from rfl, k_goes, b2s, if_neg (by decide)]
        simp only [chk8 hj8 (by decide), if_false]
        rw [rIn _ _ (by omega), ← eo]; rfl
      · rw [k_thrown, wrS]
      · intro _; rw [wL, st55]
      · exact fin hw (hv1.last 0) (fun a b hab => by rw [wrN _ _ (by omega), st55a])
    · exact absurd ⟨j, hj, rfl⟩ n1
  · rcases k_is hw hv x1 with ⟨n1, -⟩ | ⟨-, f1⟩
    · exact absurd n1 h1
    · refine ⟨1, τ, 0, fm_wr τ 61 2 1, ?_, ?_, (bad hw hv 1).1, fun q => absurd q (by decide), (bad hw hv 1).2⟩
      · rw [mL_xOf, h2e (σ := τ) (E := "java/lang/IndexOutOfBoundsException")]
        · rfl
        · rw [mX4_xOf, e1, xe]
      · rw [mX5_xOf, f1, b1s]
        rw [show (1 : Int32) = bI true from rfl, k_goes, b2s]; rfl
theorem c_yOf {τ : fm_S} (h : RR τ) (x1 : Int32) : OI (mL_yOf x1 τ) (mX5_yOf x1) := by
  obtain ⟨c, hw, hv⟩ := h
  have hc := hw.1
  rcases k_req hw x1 with ⟨⟨j, hj, rfl⟩, e1⟩ | ⟨h1, e1⟩
  · have hj8 : j < 8 := by omega
    have hv1 := hv.st (τ.1 2 j).toInt64
    have eo : (sL τ 55 (0 : Int32) (τ.1 2 j).toInt64).1 42 j = τ.1 2 j := (hv1.2.2.1 j hj8).2.1
    rcases k_is hw hv1 (nI j) with ⟨-, f1⟩ | ⟨n1, -⟩
    · refine ⟨0, sL τ 55 (0 : Int32) (τ.1 2 j).toInt64, τ.1 2 j, fm_wr (sL τ 55 (0 : Int32) (τ.1 2 j).toInt64) 61 2 0, ?_, ?_, ?_, ?_, ?_⟩
      · rw [mL_yOf, h2o (r := τ.1 2 j) (σ := τ)]
        · simp only [chk1, if_false]
        · rw [mX4_yOf, e1, xo]
          simp only [chk8 hj8 (by decide), if_false]
          rw [rIn _ _ (by omega)]
      · rw [mX5_yOf, f1, b1s]
        rw [show (1 : Int32) = bI true from rfl, k_goes, b2s, if_neg (by decide)]
        simp only [chk8 hj8 (by decide), if_false]
        rw [rIn _ _ (by omega), ← eo]; rfl
      · rw [k_thrown, wrS]
      · intro _; rw [wL, st55]
      · exact fin hw (hv1.last 0) (fun a b hab => by rw [wrN _ _ (by omega), st55a])
    · exact absurd ⟨j, hj, rfl⟩ n1
  · rcases k_is hw hv x1 with ⟨n1, -⟩ | ⟨-, f1⟩
    · exact absurd n1 h1
    · refine ⟨1, τ, 0, fm_wr τ 61 2 1, ?_, ?_, (bad hw hv 1).1, fun q => absurd q (by decide), (bad hw hv 1).2⟩
      · rw [mL_yOf, h2e (σ := τ) (E := "java/lang/IndexOutOfBoundsException")]
        · rfl
        · rw [mX4_yOf, e1, xe]
      · rw [mX5_yOf, f1, b1s]
        rw [show (1 : Int32) = bI true from rfl, k_goes, b2s]; rfl
theorem c_estimate {τ : fm_S} (h : RR τ) (x1 : Int32) : OI (mL_estimate x1 τ) (mX5_estimate x1) := by
  obtain ⟨c, hw, hv⟩ := h
  have hc := hw.1
  rcases k_req hw x1 with ⟨⟨j, hj, rfl⟩, e1⟩ | ⟨h1, e1⟩
  · have hj8 : j < 8 := by omega
    have hv1 := hv.st (τ.1 5 j).toInt64
    have eo : (sL τ 55 (0 : Int32) (τ.1 5 j).toInt64).1 45 j = τ.1 5 j := (hv1.2.2.1 j hj8).2.2.2.1
    rcases k_is hw hv1 (nI j) with ⟨-, f1⟩ | ⟨n1, -⟩
    · refine ⟨0, sL τ 55 (0 : Int32) (τ.1 5 j).toInt64, τ.1 5 j, fm_wr (sL τ 55 (0 : Int32) (τ.1 5 j).toInt64) 61 2 0, ?_, ?_, ?_, ?_, ?_⟩
      · rw [mL_estimate, h2o (r := τ.1 5 j) (σ := τ)]
        · simp only [chk1, if_false]
        · rw [mX4_estimate, e1, xo]
          simp only [chk8 hj8 (by decide), if_false]
          rw [rIn _ _ (by omega)]
      · rw [mX5_estimate, f1, b1s]
        rw [show (1 : Int32) = bI true from rfl, k_goes, b2s, if_neg (by decide)]
        simp only [chk8 hj8 (by decide), if_false]
        rw [rIn _ _ (by omega), ← eo]; rfl
      · rw [k_thrown, wrS]
      · intro _; rw [wL, st55]
      · exact fin hw (hv1.last 0) (fun a b hab => by rw [wrN _ _ (by omega), st55a])
    · exact absurd ⟨j, hj, rfl⟩ n1
  · rcases k_is hw hv x1 with ⟨n1, -⟩ | ⟨-, f1⟩
    · exact absurd n1 h1
    · refine ⟨1, τ, 0, fm_wr τ 61 2 1, ?_, ?_, (bad hw hv 1).1, fun q => absurd q (by decide), (bad hw hv 1).2⟩
      · rw [mL_estimate, h2e (σ := τ) (E := "java/lang/IndexOutOfBoundsException")]
        · rfl
        · rw [mX4_estimate, e1, xe]
      · rw [mX5_estimate, f1, b1s]
        rw [show (1 : Int32) = bI true from rfl, k_goes, b2s]; rfl
theorem c_sum {τ : fm_S} (h : RR τ) (x1 : Int32) : OI (mL_sum x1 τ) (mX5_sum x1) := by
  obtain ⟨c, hw, hv⟩ := h
  have hc := hw.1
  rcases k_req hw x1 with ⟨⟨j, hj, rfl⟩, e1⟩ | ⟨h1, e1⟩
  · have hj8 : j < 8 := by omega
    have hv1 := hv.st (τ.1 6 j).toInt64
    have eo : (sL τ 55 (0 : Int32) (τ.1 6 j).toInt64).1 46 j = τ.1 6 j := (hv1.2.2.1 j hj8).2.2.2.2.1
    rcases k_is hw hv1 (nI j) with ⟨-, f1⟩ | ⟨n1, -⟩
    · refine ⟨0, sL τ 55 (0 : Int32) (τ.1 6 j).toInt64, τ.1 6 j, fm_wr (sL τ 55 (0 : Int32) (τ.1 6 j).toInt64) 61 2 0, ?_, ?_, ?_, ?_, ?_⟩
      · rw [mL_sum, h2o (r := τ.1 6 j) (σ := τ)]
        · simp only [chk1, if_false]
        · rw [mX4_sum, e1, xo]
          simp only [chk8 hj8 (by decide), if_false]
          rw [rIn _ _ (by omega)]
      · rw [mX5_sum, f1, b1s]
        rw [show (1 : Int32) = bI true from rfl, k_goes, b2s, if_neg (by decide)]
        simp only [chk8 hj8 (by decide), if_false]
        rw [rIn _ _ (by omega), ← eo]; rfl
      · rw [k_thrown, wrS]
      · intro _; rw [wL, st55]
      · exact fin hw (hv1.last 0) (fun a b hab => by rw [wrN _ _ (by omega), st55a])
    · exact absurd ⟨j, hj, rfl⟩ n1
  · rcases k_is hw hv x1 with ⟨n1, -⟩ | ⟨-, f1⟩
    · exact absurd n1 h1
    · refine ⟨1, τ, 0, fm_wr τ 61 2 1, ?_, ?_, (bad hw hv 1).1, fun q => absurd q (by decide), (bad hw hv 1).2⟩
      · rw [mL_sum, h2e (σ := τ) (E := "java/lang/IndexOutOfBoundsException")]
        · rfl
        · rw [mX4_sum, e1, xe]
      · rw [mX5_sum, f1, b1s]
        rw [show (1 : Int32) = bI true from rfl, k_goes, b2s]; rfl
theorem c_weight {τ : fm_S} (h : RR τ) (x1 : Int32) : OI (mL_weight x1 τ) (mX5_weight x1) := by
  obtain ⟨c, hw, hv⟩ := h
  have hc := hw.1
  rcases k_req hw x1 with ⟨⟨j, hj, rfl⟩, e1⟩ | ⟨h1, e1⟩
  · have hj8 : j < 8 := by omega
    have hv1 := hv.st (τ.1 7 j).toInt64
    have eo : (sL τ 55 (0 : Int32) (τ.1 7 j).toInt64).1 47 j = τ.1 7 j := (hv1.2.2.1 j hj8).2.2.2.2.2.1
    rcases k_is hw hv1 (nI j) with ⟨-, f1⟩ | ⟨n1, -⟩
    · refine ⟨0, sL τ 55 (0 : Int32) (τ.1 7 j).toInt64, τ.1 7 j, fm_wr (sL τ 55 (0 : Int32) (τ.1 7 j).toInt64) 61 2 0, ?_, ?_, ?_, ?_, ?_⟩
      · rw [mL_weight, h2o (r := τ.1 7 j) (σ := τ)]
        · simp only [chk1, if_false]
        · rw [mX4_weight, e1, xo]
          simp only [chk8 hj8 (by decide), if_false]
          rw [rIn _ _ (by omega)]
      · rw [mX5_weight, f1, b1s]
        rw [show (1 : Int32) = bI true from rfl, k_goes, b2s, if_neg (by decide)]
        simp only [chk8 hj8 (by decide), if_false]
        rw [rIn _ _ (by omega), ← eo]; rfl
      · rw [k_thrown, wrS]
      · intro _; rw [wL, st55]
      · exact fin hw (hv1.last 0) (fun a b hab => by rw [wrN _ _ (by omega), st55a])
    · exact absurd ⟨j, hj, rfl⟩ n1
  · rcases k_is hw hv x1 with ⟨n1, -⟩ | ⟨-, f1⟩
    · exact absurd n1 h1
    · refine ⟨1, τ, 0, fm_wr τ 61 2 1, ?_, ?_, (bad hw hv 1).1, fun q => absurd q (by decide), (bad hw hv 1).2⟩
      · rw [mL_weight, h2e (σ := τ) (E := "java/lang/IndexOutOfBoundsException")]
        · rfl
        · rw [mX4_weight, e1, xe]
      · rw [mX5_weight, f1, b1s]
        rw [show (1 : Int32) = bI true from rfl, k_goes, b2s]; rfl
theorem c_setRange {τ : fm_S} (h : RR τ) (x1 : Int32) : OI (mL_setRange x1 τ) (mX5_setRange x1) := by
  obtain ⟨c, hw, hv⟩ := h
  have hc := hw.1
  rcases k_win x1 0 3000 τ with ⟨h2, e2⟩ | ⟨h2, e2⟩
  · refine ⟨0, sL (fm_wr τ 60 1 x1) 55 (0 : Int32) (τ.1 60 1).toInt64, τ.1 60 1, fm_wr (fm_wr (sL (fm_wr τ 60 1 x1) 55 (0 : Int32) (τ.1 60 1).toInt64) 61 2 0) 61 1 x1, ?_, ?_, ?_, ?_, ?_⟩
    · rw [mL_setRange, h2o (r := τ.1 60 1) (σ := fm_wr τ 60 1 x1)]
      · simp only [chk1, if_false]
      · rw [mX4_setRange, e2, xo]
    · rw [mX5_setRange, k_in, h2, b1s]
      rw [show (1 : Int32) = bI true from rfl, k_goes, b2s, if_neg (by decide)]
      have e : τ.1 61 1 = τ.1 60 1 := hv.2.1
      rw [wrN _ _ (by omega), st55a, wrN _ _ (by omega), e]; rfl
    · rw [k_thrown, wrN _ _ (by omega), wrS]
    · intro _; rw [wL, wL, st55]
    · refine fin (τ := fm_wr τ 60 1 x1) (c := c) (hw.of (fun a b hab => by rw [wrN _ _ (by omega)])) ?_ (fun a b hab => by rw [wrN _ _ (by omega), wrN _ _ (by omega), st55a])
      obtain ⟨h1, h2, h3, h4, h5, h6⟩ := hv
      refine ⟨by rw [wrN _ _ (by omega), wrN _ _ (by omega), st55a, wrN _ _ (by omega)]; exact h1, by rw [wrS, wrS], fun i hi => ?_, fun i hi => ?_, fun i hi k hk => ?_, fun i hi k hk => ?_⟩
      · simp only [wrN _ _ (Or.inl (show (41 : Nat) ≠ 61 by omega)), wrN _ _ (Or.inl (show (42 : Nat) ≠ 61 by omega)), wrN _ _ (Or.inl (show (44 : Nat) ≠ 61 by omega)), wrN _ _ (Or.inl (show (45 : Nat) ≠ 61 by omega)), wrN _ _ (Or.inl (show (46 : Nat) ≠ 61 by omega)), wrN _ _ (Or.inl (show (47 : Nat) ≠ 61 by omega)), wrN _ _ (Or.inl (show (48 : Nat) ≠ 61 by omega)), st55a, wrN τ x1 (Or.inl (show (41 : Nat) ≠ 60 by omega)), wrN τ x1 (Or.inl (show (42 : Nat) ≠ 60 by omega)), wrN τ x1 (Or.inl (show (44 : Nat) ≠ 60 by omega)), wrN τ x1 (Or.inl (show (45 : Nat) ≠ 60 by omega)), wrN τ x1 (Or.inl (show (46 : Nat) ≠ 60 by omega)), wrN τ x1 (Or.inl (show (47 : Nat) ≠ 60 by omega)), wrN τ x1 (Or.inl (show (48 : Nat) ≠ 60 by omega)), wrN τ x1 (Or.inl (show (1 : Nat) ≠ 60 by omega)), wrN τ x1 (Or.inl (show (2 : Nat) ≠ 60 by omega)), wrN τ x1 (Or.inl (show (4 : Nat) ≠ 60 by omega)), wrN τ x1 (Or.inl (show (5 : Nat) ≠ 60 by omega)), wrN τ x1 (Or.inl (show (6 : Nat) ≠ 60 by omega)), wrN τ x1 (Or.inl (show (7 : Nat) ≠ 60 by omega)), wrN τ x1 (Or.inl (show (8 : Nat) ≠ 60 by omega))]
        exact h3 i hi
      · rw [wrN _ _ (by omega), wrN _ _ (by omega), st55a, wrN _ _ (by omega), wrN _ _ (by omega)]; exact h4 i hi
      · rw [wrN _ _ (by omega), wrN _ _ (by omega), st55a, wrN _ _ (by omega), wrN _ _ (by omega)]; exact h5 i hi k hk
      · rw [wrN _ _ (by omega), wrN _ _ (by omega), st55a, wrN _ _ (by omega), wrN _ _ (by omega)]; exact h6 i hi k hk
  · refine ⟨1, τ, 0, fm_wr τ 61 2 1, ?_, ?_, (bad hw hv 1).1, fun q => absurd q (by decide), (bad hw hv 1).2⟩
    · rw [mL_setRange, h2e (σ := τ) (E := "java/lang/IllegalArgumentException")]
      · rfl
      · rw [mX4_setRange, e2, xe]
    · rw [mX5_setRange, k_in, h2, b1s]
      rw [show (1 : Int32) = bI true from rfl, k_goes, b2s]; rfl
/-- two members, as the model asks for them -/
theorem k_is2 {σ τ : fm_S} {c : Nat} (hw : WF τ c) (h : MV σ τ c) (x1 x2 : Int32) : ∃ p q : Bool, mX5_is x1 σ = some (bI p) ∧ (p = true ↔ mem x1 c) ∧ (p = true → mX5_is x2 σ = some (bI q)) ∧ (q = true ↔ mem x2 c) := by
  rcases k_is hw h x1 with ⟨a1, a2⟩ | ⟨a1, a2⟩ <;> rcases k_is hw h x2 with ⟨b1, b2⟩ | ⟨b1, b2⟩
  · exact ⟨true, true, a2, by simp [a1], fun _ => b2, by simp [b1]⟩
  · exact ⟨true, false, a2, by simp [a1], fun _ => b2, by simp [b1]⟩
  · exact ⟨false, true, a2, by simp [a1], fun _ => b2, by simp [b1]⟩
  · exact ⟨false, false, a2, by simp [a1], fun _ => b2, by simp [b1]⟩
theorem k_two {σ : fm_S} {x1 x2 : Int32} {p q : Bool} (e1 : mX5_is x1 σ = some (bI p)) (e2 : p = true → mX5_is x2 σ = some (bI q)) {γ : Type} (f : Int32 → Option γ) :
    (mb1 (mX5_is x1 σ) fun r3 => mb1 (show Option (Int32) from if r3 = 0 then some ((0 : Int32)) else mb1 (mX5_is x2 σ) fun r11 => if r11 = 0 then some ((0 : Int32)) else some ((1 : Int32))) f) = f (bI (p && q)) := by
  rw [e1, b1s]
  cases p
  · rfl
  · rw [e2 rfl]; cases q <;> rfl
theorem c_areLinked {τ : fm_S} (h : RR τ) (x1 x2 : Int32) : OZ (mL_areLinked x1 x2 τ) (mX5_areLinked x1 x2) := by
  obtain ⟨c, hw, hv⟩ := h
  have hc := hw.1
  have fail : mX4_areLinked x1 x2 τ = some (.error ("java/lang/IndexOutOfBoundsException", τ)) → (∃ p q : Bool, mX5_is x1 τ = some (bI p) ∧ (p = true → mX5_is x2 τ = some (bI q)) ∧ (p && q) = false) → OZ (mL_areLinked x1 x2 τ) (mX5_areLinked x1 x2) := by
    rintro e ⟨p, q, e1, e2, e3⟩
    refine ⟨1, τ, 0, fm_wr τ 61 2 1, ?_, ?_, (bad hw hv 1).1, fun q => absurd q (by decide), (bad hw hv 1).2⟩
    · rw [mL_areLinked, h2e (σ := τ) (E := "java/lang/IndexOutOfBoundsException") e]; rfl
    · rw [mX5_areLinked, k_two e1 e2, e3, show (1 : Int32) = bI true from rfl, k_goes, b2s]; rfl
  obtain ⟨p, q, e1, ep, e2, eq⟩ := k_is2 hw hv x1 x2
  rcases k_req hw x1 with ⟨hm, f1⟩ | ⟨hm, f1⟩
  · rcases k_req hw x2 with ⟨hn, f2⟩ | ⟨hn, f2⟩
    · obtain ⟨i, hi, rfl⟩ := hm
      obtain ⟨j, hj, rfl⟩ := hn
      have hv1 := hv.st (if lk τ i j then 1 else 0)
      obtain ⟨p, q, e1, ep, e2, eq⟩ := k_is2 hw hv1 (nI i) (nI j)
      have hp : p = true := ep.mpr ⟨i, hi, rfl⟩
      have hq : q = true := eq.mpr ⟨j, hj, rfl⟩
      have hv2 := hv1.last 0
      refine ⟨0, sL τ 55 (0 : Int32) (if lk τ i j then 1 else 0), (if lk τ i j then 1 else 0), fm_wr (sL τ 55 (0 : Int32) (if lk τ i j then 1 else 0)) 61 2 0, ?_, ?_, by rw [k_thrown, wrS], ?_, ?_⟩
      · rw [mL_areLinked, h2o (r := if lk τ i j then 1 else 0) (σ := τ)]
        · cases lk τ i j <;> simp [chk1, b1s]
        · rw [mX4_areLinked, f1, xo, f2, xo, k_hears hw (by omega) (by omega), b1s, nar01]; simp
      · rw [mX5_areLinked, k_two e1 e2, hp, hq, show (1 : Int32) = bI true from rfl, k_goes, b2s, if_neg (by decide)]
        show mb1 (mX5_linked (nI i) (nI j) (fm_wr (sL τ 55 (0 : Int32) (if lk τ i j then 1 else 0)) 61 2 0)) _ = _
        rw [k_linked hw hv2 hi hj, b1s]
        cases lk τ i j <;> rfl
      · intro _; rw [wL, st55]; cases lk τ i j <;> rfl
      · exact fin hw hv2 (fun a b hab => by rw [wrN _ _ (by omega), st55a])
    · refine fail (by rw [mX4_areLinked, f1, xo, f2, xe]) ⟨p, q, e1, e2, ?_⟩
      have : q = false := Bool.eq_false_iff.mpr (fun h => hn (eq.mp h))
      rw [this]; cases p <;> rfl
  · refine fail (by rw [mX4_areLinked, f1, xe]) ⟨p, q, e1, e2, ?_⟩
    have : p = false := Bool.eq_false_iff.mpr (fun h => hm (ep.mp h))
    rw [this]; rfl
end LVC
