section LVC
def RR (σ : fm_S) : Prop := ∃ c, WF σ c ∧ MV σ σ c
def bI (b : Bool) : Int32 := if b then 1 else 0
theorem bI0 (b : Bool) : bI b = 0 ↔ b = false := by cases b <;> decide
def mem (x : Int32) (c : Nat) : Prop := ∃ j, j < c ∧ x = nI j
theorem k_req {τ : fm_S} {c : Nat} (hw : WF τ c) (x : Int32) : (mem x c ∧ mX4_requireMember x τ = some (.ok τ)) ∨ (¬ mem x c ∧ mX4_requireMember x τ = some (.error ("java/lang/IndexOutOfBoundsException", τ))) := by
  have hc := hw.1
  rw [mX4_requireMember, hw.2.1]
  rcases pk_ix x (show c < 2 ^ 31 by omega) with h | h | ⟨j, hj, rfl⟩
  · right
    refine ⟨?_, by rw [if_pos h]⟩
    rintro ⟨j, hj, rfl⟩
    exact nI_pos (by omega) h
  · right
    have h1 : ¬ x < 0 := fun q => Int32.not_le.mpr (Int32.lt_of_lt_of_le q (nI_pos' (show c < 2 ^ 31 by omega))) h
    refine ⟨?_, by rw [if_neg h1, if_neg (Int32.not_lt.mpr h)]⟩
    rintro ⟨j, hj, rfl⟩
    exact nI_ge hj (by omega) h
  · left
    exact ⟨⟨j, hj, rfl⟩, by rw [if_neg (nI_pos (by omega)), if_pos (nI_lt hj (by omega))]⟩
theorem k_is {σ τ : fm_S} {c : Nat} (hw : WF τ c) (h : MV σ τ c) (x : Int32) : (mem x c ∧ mX5_is x σ = some (bI true)) ∨ (¬ mem x c ∧ mX5_is x σ = some (bI false)) := by
  have hc := hw.1
  rw [mX5_is, h.1, mX5_in]
  rcases pk_ix x (show c < 2 ^ 31 by omega) with hx | hx | ⟨j, hj, rfl⟩
  · right
    refine ⟨?_, by rw [if_pos hx, b1s]; decide⟩
    rintro ⟨j, hj, rfl⟩
    exact nI_pos (by omega) hx
  · right
    have h1 : ¬ x < 0 := fun q => Int32.not_le.mpr (Int32.lt_of_lt_of_le q (nI_pos' (show c < 2 ^ 31 by omega))) hx
    have h2 : nI c - 1 < x := by
      obtain ⟨j, hj, rfl⟩ := nI_of h1
      have hcj : c ≤ j := (nI_leI (by omega) hj).mp hx
      by_cases h0 : c = 0
      · subst h0
        have : nI 0 - 1 < nI 0 := by decide
        exact Int32.lt_of_lt_of_le this (nI_le (by omega) hj)
      · rw [show c = (c - 1) + 1 by omega, nI_pred]
        exact nI_lt (by omega) hj
    refine ⟨?_, by rw [if_neg h1, if_pos h2, b1s]; decide⟩
    rintro ⟨j, hj, rfl⟩
    exact nI_ge hj (by omega) hx
  · left
    have h2 : ¬ nI c - 1 < nI j := by
      rw [show c = (c - 1) + 1 by omega, nI_pred]
      exact nI_nlt (by omega) (by omega)
    exact ⟨⟨j, hj, rfl⟩, by rw [if_neg (nI_pos (by omega)), if_neg h2, b1s]; decide⟩
theorem k_goes (p q : Bool) (σ : fm_S) : mX5_goes (bI p) (bI q) σ = some (bI (p && q), fm_wr σ 61 2 (if p then (if q then 0 else 2) else 1)) := by
  cases p <;> cases q <;> simp [mX5_goes, bI, b1s, wrS]
def win (x lo hi : Int32) : Bool := decide (¬ x < lo) && decide (x ≤ hi)
theorem k_win (x lo hi : Int32) (τ : fm_S) : (win x lo hi = true ∧ mX4_requireWithin x lo hi τ = some (.ok τ)) ∨ (win x lo hi = false ∧ mX4_requireWithin x lo hi τ = some (.error ("java/lang/IllegalArgumentException", τ))) := by
  unfold win mX4_requireWithin
  by_cases h1 : x < lo <;> by_cases h2 : x ≤ hi <;> simp [h1, h2]
theorem k_in (x lo hi : Int32) : mX5_in x lo hi = some (bI (win x lo hi)) := by
  unfold win mX5_in bI
  by_cases h1 : x < lo
  · simp [h1]
  · by_cases h2 : x ≤ hi
    · have : ¬ hi < x := Int32.not_lt.mpr h2
      simp [h1, h2, this]
    · have : hi < x := Int32.not_le.mp h2
      simp [h1, h2, this]
theorem k_place (x y : Int32) (τ : fm_S) : ((win x (-1000) 1000 && win y (-1000) 1000) = true ∧ mX4_requirePlace x y τ = some (.ok τ)) ∨ ((win x (-1000) 1000 && win y (-1000) 1000) = false ∧ mX4_requirePlace x y τ = some (.error ("java/lang/IllegalArgumentException", τ))) := by
  rw [mX4_requirePlace]
  rcases k_win x (-1000) 1000 τ with ⟨h1, e1⟩ | ⟨h1, e1⟩
  · rw [e1, xo]
    rcases k_win y (-1000) 1000 τ with ⟨h2, e2⟩ | ⟨h2, e2⟩
    · rw [e2, xo]; left; exact ⟨by rw [h1, h2]; rfl, rfl⟩
    · rw [e2, xe]; right; exact ⟨by rw [h1, h2]; rfl, rfl⟩
  · rw [e1, xe]; right; exact ⟨by rw [h1]; rfl, rfl⟩
theorem k_isPlace (x y : Int32) : mX5_isPlace x y = some (bI (win x (-1000) 1000 && win y (-1000) 1000)) := by
  rw [mX5_isPlace, k_in, b1s, k_in]
  cases win x (-1000) 1000 <;> cases win y (-1000) 1000 <;> rfl
theorem k_thrown (σ : fm_S) : mX5_thrown σ = some (σ.1 61 2) := rfl
theorem fin {σ τ : fm_S} {c : Nat} (hw : WF τ c) (hv : MV σ τ c) (e : ∀ a b, a < 20 ∨ a = 60 → σ.1 a b = τ.1 a b) : RR σ :=
  ⟨c, hw.of (fun a b h => e a b (by omega)), hv.of (fun _ _ _ => rfl) e⟩
/-- a pair of rows written alike -/
theorem MV.wr {σ τ : fm_S} {c : Nat} (h : MV σ τ c) (q q' : Nat) (hq : (q = 1 ∧ q' = 41) ∨ (q = 2 ∧ q' = 42) ∨ (q = 4 ∧ q' = 44) ∨ (q = 5 ∧ q' = 45) ∨ (q = 6 ∧ q' = 46) ∨ (q = 7 ∧ q' = 47) ∨ (q = 8 ∧ q' = 48)) (j : Nat) (v : Int32) : MV (fm_wr σ q' j v) (fm_wr τ q j v) c := by
  obtain ⟨h1, h2, h3, h4, h5, h6⟩ := h
  refine ⟨by rw [wrN _ _ (by omega)]; exact h1, by rw [wrN _ _ (by omega), wrN _ _ (by omega)]; exact h2, fun i hi => ?_, fun i hi => ?_, fun i hi k hk => ?_, fun i hi k hk => ?_⟩
  · obtain ⟨a1, a2, a3, a4, a5, a6, a7⟩ := h3 i hi
    by_cases e : i = j
    · subst e
      rcases hq with ⟨rfl, rfl⟩ | ⟨rfl, rfl⟩ | ⟨rfl, rfl⟩ | ⟨rfl, rfl⟩ | ⟨rfl, rfl⟩ | ⟨rfl, rfl⟩ | ⟨rfl, rfl⟩ <;> simp [fm_wr, a1, a2, a3, a4, a5, a6, a7]
    · simp only [wrN _ _ (Or.inr e)]
      exact ⟨a1, a2, a3, a4, a5, a6, a7⟩
  · rw [wrN _ _ (by omega), wrN _ _ (by omega)]; exact h4 i hi
  · rw [wrN _ _ (by omega), wrN _ _ (by omega)]; exact h5 i hi k hk
  · rw [wrN _ _ (by omega), wrN _ _ (by omega)]; exact h6 i hi k hk
theorem MV.last {σ τ : fm_S} {c : Nat} (h : MV σ τ c) (v : Int32) : MV (fm_wr σ 61 2 v) τ c := h.of (fun a b hab => wrN _ _ (by omega)) (fun _ _ _ => rfl)
theorem MV.tau {σ τ τ' : fm_S} {c : Nat} (h : MV σ τ c) (e : ∀ a b, a < 20 ∨ a = 60 → τ'.1 a b = τ.1 a b) : MV σ τ' c := h.of (fun _ _ _ => rfl) e
theorem MV.sig {σ σ' τ : fm_S} {c : Nat} (h : MV σ τ c) (e : ∀ a b, (41 ≤ a ∧ a ≤ 50) ∨ a = 61 → σ'.1 a b = σ.1 a b) : MV σ' τ c := h.of (fun a b hab => e a b (by omega)) (fun _ _ _ => rfl)
theorem h1o {o : Option fm_OV} {σ : fm_S} {γ : Type} {f : fm_S → Option γ} {g : String → fm_S → Option γ} (h : o = some (.ok σ)) : mh1 o f g = f σ := by rw [h]; rfl
theorem h1e {o : Option fm_OV} {σ : fm_S} {E : String} {γ : Type} {f : fm_S → Option γ} {g : String → fm_S → Option γ} (h : o = some (.error (E, σ))) : mh1 o f g = g E σ := by rw [h]; rfl
theorem h2o {o : Option fm_OI} {r : Int32} {σ : fm_S} {γ : Type} {f : Int32 → fm_S → Option γ} {g : String → fm_S → Option γ} (h : o = some (.ok (r, σ))) : mh2 o f g = f r σ := by rw [h]; rfl
theorem h2e {o : Option fm_OI} {σ : fm_S} {E : String} {γ : Type} {f : Int32 → fm_S → Option γ} {g : String → fm_S → Option γ} (h : o = some (.error (E, σ))) : mh2 o f g = g E σ := by rw [h]; rfl
theorem chk1 : ((0 : Int32) < 0 ∨ 1 ≤ (0 : Int32).toNatClampNeg) = False := by
  have : ¬ ((0 : Int32) < 0 ∨ 1 ≤ (0 : Int32).toNatClampNeg) := by decide
  exact eq_false this
theorem st55 (σ : fm_S) (v : Int64) : rL (sL σ 55 (0 : Int32) v) 55 (0 : Int32) = v := by
  unfold rL sL fm_wl; simp
theorem st55a (σ : fm_S) (v : Int64) : (sL σ 55 (0 : Int32) v).1 = σ.1 := rfl
theorem rL_of {σ σ' : fm_S} (h : σ'.2 = σ.2) (i : Int32) : rL σ' 55 i = rL σ 55 i := by unfold rL; rw [h]
-- the calls
theorem c_move {τ : fm_S} (h : RR τ) (x1 x2 x3 : Int32) : ∃ r σ1 σ2, mL_move x1 x2 x3 τ = some (r, σ1) ∧ mX5_move x1 x2 x3 σ1 = some σ2 ∧ mX5_thrown σ2 = some r ∧ RR σ2 := by
  obtain ⟨c, hw, hv⟩ := h
  have hc := hw.1
  rcases k_req hw x1 with ⟨⟨j, hj, rfl⟩, e1⟩ | ⟨h1, e1⟩
  · rcases k_is hw hv (nI j) with ⟨-, f1⟩ | ⟨n1, -⟩
    · rcases k_place x2 x3 τ with ⟨h2, e2⟩ | ⟨h2, e2⟩
      · have hv1 : MV (fm_wr (fm_wr τ 1 j x2) 2 j x3) τ c := hv.sig (fun a b hab => by rw [wrN _ _ (by omega), wrN _ _ (by omega)])
        have k1 := k_is hw hv1 (nI j)
        rcases k1 with ⟨-, f1⟩ | ⟨n1, -⟩
        · refine ⟨0, fm_wr (fm_wr τ 1 j x2) 2 j x3, fm_wr (fm_wr (fm_wr (fm_wr (fm_wr τ 1 j x2) 2 j x3) 61 2 0) 41 j x2) 42 j x3, ?_, ?_, ?_, ?_⟩
          · rw [mL_move, h1o (σ := fm_wr (fm_wr τ 1 j x2) 2 j x3)]
            rw [mX4_move, e1, xo, e2, xo]
            simp only [chk8 (show j < 8 by omega) (by decide), if_false]
            rw [sIn _ _ _ (by omega), sIn _ _ _ (by omega)]
          · rw [mX5_move, f1, b1s, k_isPlace, h2, b1s, k_goes, b2s]
            rw [if_neg (by decide)]
            simp only [chk8 (show j < 8 by omega) (by decide), if_false]
            rw [sIn _ _ _ (by omega), sIn _ _ _ (by omega)]; rfl
          · rw [k_thrown, wrN _ _ (by omega), wrN _ _ (by omega), wrS]
          · refine fin (τ := fm_wr (fm_wr τ 1 j x2) 2 j x3) (c := c) (hw.of (fun a b hab => by rw [wrN _ _ (by omega), wrN _ _ (by omega)])) ?_ (fun a b hab => by rw [wrN _ _ (by omega), wrN _ _ (by omega), wrN _ _ (by omega)])
            exact ((hv1.last 0).wr 1 41 (by omega) j x2).wr 2 42 (by omega) j x3
        · exact absurd ⟨j, hj, rfl⟩ n1
      · refine ⟨2, τ, fm_wr τ 61 2 2, ?_, ?_, ?_, ?_⟩
        · rw [mL_move, h1e (σ := τ) (E := "java/lang/IllegalArgumentException")]
          · rfl
          · rw [mX4_move, e1, xo, e2, xe]
        · rw [mX5_move, f1, b1s, k_isPlace, h2, b1s, k_goes, b2s]; rfl
        · rw [k_thrown, wrS]
        · exact fin hw (hv.last 2) (fun a b hab => wrN _ _ (by omega))
    · exact absurd ⟨j, hj, rfl⟩ n1
  · rcases k_is hw hv x1 with ⟨n1, -⟩ | ⟨-, f1⟩
    · exact absurd n1 h1
    · refine ⟨1, τ, fm_wr τ 61 2 1, ?_, ?_, ?_, ?_⟩
      · rw [mL_move, h1e (σ := τ) (E := "java/lang/IndexOutOfBoundsException")]
        · rfl
        · rw [mX4_move, e1, xe]
      · rw [mX5_move, f1, b1s, k_isPlace, b1s, k_goes, b2s]; rfl
      · rw [k_thrown, wrS]; rfl
      · exact fin hw (hv.last _) (fun a b hab => wrN _ _ (by omega))
end LVC
