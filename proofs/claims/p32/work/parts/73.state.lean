section PWA
/-- what no member holds is nought -/
def ZC (σ : fm_S) (c : Nat) : Prop := (∀ i, c ≤ i → i < 8 → σ.1 4 i = 0 ∧ σ.1 5 i = 0 ∧ σ.1 6 i = 0) ∧ ∀ i, c ≤ i → i < 5 → σ.1 40 (8 * i + 2) = 0 ∧ σ.1 40 (8 * i + 3) = 0 ∧ σ.1 40 (8 * i + 4) = 0 ∧ σ.1 40 (8 * i + 5) = 0 ∧ σ.1 40 (8 * i + 7) = 0
/-- estimates within a thousand -/
def SE (σ : fm_S) (c : Nat) : Prop := ∀ i, i < c → small (σ.1 5 i)
/-- the law's whole picture -/
def GS (σ : fm_S) (c : Nat) : Prop := WF σ c ∧ GE σ σ c ∧ LR σ σ c ∧ LW σ σ ∧ NP σ c ∧ NW σ c ∧ SE σ c ∧ ZC σ c
theorem LW.of {σ σ' : fm_S} (h : LW σ σ) (e : ∀ b, σ'.1 42 b = σ.1 42 b) (e2 : ∀ a b, 10 ≤ a → a < 18 → σ'.1 a b = σ.1 a b) : LW σ' σ' := fun i j hij hj => by
  rw [e, e2 (10 + i) j (by omega) (by omega)]; exact h i j hij hj
theorem NP.of {σ σ' : fm_S} {c : Nat} (h : NP σ c) (e : ∀ i, i < c → σ'.1 1 i = σ.1 1 i ∧ σ'.1 2 i = σ.1 2 i) (e2 : ∀ a b, 10 ≤ a → a < 18 → σ'.1 a b = σ.1 a b) : NP σ' c :=
  ⟨fun i hi => by rw [(e i hi).1, (e i hi).2]; exact h.1 i hi, fun i j hi hj => by rw [e2 (10 + i) j (by omega) (by omega)]; exact h.2 i j hi hj⟩
theorem NW.of {σ σ' : fm_S} {c : Nat} (h : NW σ c) (e : ∀ i, i < c → σ'.1 7 i = σ.1 7 i) : NW σ' c := by
  obtain ⟨w, h1, h2⟩ := h
  exact ⟨w, fun i hi => by rw [e i hi]; exact h1 i hi, h2⟩
theorem SE.of {σ σ' : fm_S} {c : Nat} (h : SE σ c) (e : ∀ i, i < c → σ'.1 5 i = σ.1 5 i) : SE σ' c := fun i hi => by rw [e i hi]; exact h i hi
theorem LR.of {σ σ' : fm_S} {c : Nat} (h : LR σ σ c) (e : ∀ i, i < c → ∀ k, 3 ≤ k → k < 8 → σ'.1 40 (8 * i + k) = σ.1 40 (8 * i + k)) (e2 : ∀ a i, 4 ≤ a → a ≤ 8 → i < c → σ'.1 a i = σ.1 a i) : LR σ' σ' c := fun i hi => by
  obtain ⟨a1, a2, a3, a4, a5⟩ := h i hi
  rw [e i hi 3 (by omega) (by omega), e i hi 4 (by omega) (by omega), e i hi 5 (by omega) (by omega), e i hi 6 (by omega) (by omega), e i hi 7 (by omega) (by omega), e2 4 i (by omega) (by omega) hi, e2 5 i (by omega) (by omega) hi, e2 6 i (by omega) (by omega) hi, e2 7 i (by omega) (by omega) hi, e2 8 i (by omega) (by omega) hi]
  exact ⟨a1, a2, a3, a4, a5⟩
theorem ZC.of {σ σ' : fm_S} {c : Nat} (h : ZC σ c) (e : ∀ a i, 4 ≤ a → a ≤ 6 → c ≤ i → i < 8 → σ'.1 a i = σ.1 a i) (e2 : ∀ i k, c ≤ i → i < 5 → k < 8 → σ'.1 40 (8 * i + k) = σ.1 40 (8 * i + k)) : ZC σ' c :=
  ⟨fun i h1 h2 => by
    rw [e 4 i (by omega) (by omega) h1 h2, e 5 i (by omega) (by omega) h1 h2, e 6 i (by omega) (by omega) h1 h2]; exact h.1 i h1 h2, fun i h1 h2 => by
    rw [e2 i 2 h1 h2 (by omega), e2 i 3 h1 h2 (by omega), e2 i 4 h1 h2 (by omega), e2 i 5 h1 h2 (by omega), e2 i 7 h1 h2 (by omega)]; exact h.2 i h1 h2⟩
theorem GS.of {σ σ' : fm_S} {c : Nat} (h : GS σ c) (e : ∀ a b, a < 20 ∨ a = 60 ∨ (40 ≤ a ∧ a ≤ 42) → σ'.1 a b = σ.1 a b) : GS σ' c := by
  obtain ⟨h1, h2, h3, h4, h5, h6, h7, h8⟩ := h
  exact ⟨h1.of (fun a b hab => e a b (by omega)), h2.of (fun b _ => e 40 b (by omega)) (fun b => e 41 b (by omega)) (fun a b hab => e a b (by omega)), h3.of (fun i _ k _ _ => e 40 _ (by omega)) (fun a i _ _ _ => e a i (by omega)), h4.of (fun b => e 42 b (by omega)) (fun a b _ _ => e a b (by omega)), h5.of (fun i _ => ⟨e 1 i (by omega), e 2 i (by omega)⟩) (fun a b _ _ => e a b (by omega)), h6.of (fun i _ => e 7 i (by omega)), h7.of (fun i _ => e 5 i (by omega)), h8.of (fun a i _ _ _ _ => e a i (by omega)) (fun i k _ _ _ => e 40 _ (by omega))⟩
theorem GS.scr {σ σ' : fm_S} {c : Nat} (h : GS σ c) (e : scr σ σ') : GS σ' c := h.of (fun a b hab => e a b (by omega))
-- the rounds of agreement
theorem EV_al {σ s : fm_S} {c : Nat} (h : alike σ s) : ∀ r i, i < c → EV s c r i = EV σ c r i
  | 0, i, _ => h 5 i (by omega)
  | r + 1, i, hi => nE_congr (funext fun a => funext fun b => lk_of h a b) (fun j hj => EV_al h r j hj) hi
/-- the ways with rounds -/
def rdB (x4 K : Int32) (σ : fm_S) : Option (Int32 × fm_S) :=
  mb2 (mL_acts_L575 4 x4 K (0 : Int32) (0 : Int32) σ) fun y575_10 σ575 =>
  if (11 : Int32) ≤ x4 then
    if (13 : Int32) ≤ x4 then
      mb2 (mX4_settle K σ575) fun r686 σ686 =>
      mb1 (mL_error σ686) fun r692 =>
      if r686 = r692 then
        some ((1 : Int32), σ686)
      else
        some ((0 : Int32), σ686)
    else
      mb2 (mX4_spread K σ575) fun r667 σ667 =>
      if r667 = y575_10 then
        some ((1 : Int32), σ667)
      else
        some ((0 : Int32), σ667)
  else
    mb2 (mX4_agree K σ575) fun r641 σ641 =>
    if r641 = y575_10 then
      some ((1 : Int32), σ641)
    else
      some ((0 : Int32), σ641)
theorem k_rdA {σ : fm_S} {c w K : Nat} (h : GS σ c) (h0 : 0 < c) (hw11 : w < 11) (k1 : 1 ≤ K) (k3 : K ≤ 3) : ∃ σ', rdB (nI w) (nI K) σ = some (1, σ') ∧ GS σ' c := by
  obtain ⟨hw, hg, hr, hl, hp, hnw, hse, hz⟩ := h
  have hc := hg.1
  have n11 : ¬ (11 : Int32) ≤ nI w := nI_ge (b := 11) hw11 (by decide)
  obtain ⟨⟨y, s⟩, e1, p1, p2, p3⟩ := lpU (fun n x11 (a : Int32 × fm_S) => mL_acts_L575 n (nI w) (nI K) a.1 x11 a.2) K
    (fun k a => (1 ≤ k → a.1 = sp (EV σ c k) c) ∧ (∀ x b, x ≠ 43 → ¬ (x = 40 ∧ b % 8 = 4 ∧ b < 8 * c) → a.2.1 x b = σ.1 x b) ∧ ∀ i, i < c → a.2.1 40 (8 * i + 4) = EV σ c k i)
    (fun a => (1 ≤ K → a.1 = sp (EV σ c K) c) ∧ (∀ x b, x ≠ 43 → ¬ (x = 40 ∧ b % 8 = 4 ∧ b < 8 * c) → a.2.1 x b = σ.1 x b) ∧ ∀ i, i < c → a.2.1 40 (8 * i + 4) = EV σ c K i)
    (fun n a ha => ⟨a, by simp only [mL_acts_L575]; rw [if_pos (nI_le (Nat.le_refl _) (by omega))], ha⟩)
    (fun n k a hk ha => by
      obtain ⟨a1, s⟩ := a
      obtain ⟨-, x1, x2⟩ := ha
      dsimp only at x1 x2
      have ag : agE c σ s := x1
      obtain ⟨s', y1, y2, y3⟩ := k_agreedL (σ := s) (τ := σ) hw (ag.ge hg) h0 (E := EV σ c k) x2
      refine ⟨(sp (EV σ c (k + 1)) c, s'), ?_, fun _ => rfl, fun x b q1 q2 => ?_, y3⟩
      · simp only [mL_acts_L575]
        rw [if_neg (nI_ge hk (by omega)), if_neg n11, y1, b2s, nI_1]; rfl
      · rw [y2 x b q1 q2]; exact x1 x b q1 q2)
    4 0 (0, σ) (Nat.zero_le _) (by omega) ⟨fun q => absurd q (by decide), fun _ _ _ _ => rfl, fun i hi => (hr i hi).2.1⟩
  dsimp only at p1 p2 p3
  have e1 : mL_acts_L575 4 (nI w) (nI K) 0 0 σ = some (y, s) := e1
  have hws : WF s c := hw.of (fun a b hab => p2 a b (by omega) (by omega))
  have al : alike σ s := fun a b hab => p2 a b (by omega) (by omega)
  obtain ⟨σ', c1, c2, c3⟩ := k_agreeC (τ := s) hws hc (fun i hi => by rw [al 5 i (by omega)]; exact hse i hi) k1 (show K ≤ 50 by omega)
  have F : ∀ a b, a ≠ 5 → ¬ (20 ≤ a ∧ a < 40) → a ≠ 43 → ¬ (a = 40 ∧ b % 8 = 4 ∧ b < 8 * c) → σ'.1 a b = σ.1 a b := fun a b q1 q2 q3 q4 => (c2 a b q2 q1).trans (p2 a b q3 q4)
  have R5 : ∀ i, σ'.1 5 i = if i < c then EV σ c K i else σ.1 5 i := fun i => by
    rw [c3 i]
    by_cases q : i < c
    · rw [if_pos q, if_pos q, EV_al al K i q]
    · rw [if_neg q, if_neg q]; exact al 5 i (by omega)
  have L4 : ∀ i, i < c → σ'.1 40 (8 * i + 4) = EV σ c K i := fun i hi => (c2 40 _ (by omega) (by omega)).trans (p3 i hi)
  refine ⟨σ', ?_, ?_, ?_, ?_, ?_, ?_, ?_, ?_, ?_⟩
  · unfold rdB
    rw [e1, b2s, if_neg n11, c1, b2s, p1 k1, sp_congr (fun i hi => EV_al al K i hi), if_pos rfl]
  · exact hw.of (fun a b hab => F a b (by omega) (by omega) (by omega) (by omega))
  · exact hg.of (fun b hb => F 40 b (by omega) (by omega) (by omega) (by omega)) (fun b => F 41 b (by omega) (by omega) (by omega) (by omega)) (fun a b hab => F a b (by omega) (by omega) (by omega) (by omega))
  · intro i hi
    obtain ⟨a1, a2, a3, a4, a5⟩ := hr i hi
    rw [L4 i hi, R5 i, if_pos hi, F 40 (8 * i + 3) (by omega) (by omega) (by omega) (by omega), F 40 (8 * i + 5) (by omega) (by omega) (by omega) (by omega), F 40 (8 * i + 6) (by omega) (by omega) (by omega) (by omega), F 40 (8 * i + 7) (by omega) (by omega) (by omega) (by omega), F 4 i (by omega) (by omega) (by omega) (by omega), F 6 i (by omega) (by omega) (by omega) (by omega), F 7 i (by omega) (by omega) (by omega) (by omega), F 8 i (by omega) (by omega) (by omega) (by omega)]
    exact ⟨a1, rfl, a3, a4, a5⟩
  · exact hl.of (fun b => F 42 b (by omega) (by omega) (by omega) (by omega)) (fun a b _ _ => F a b (by omega) (by omega) (by omega) (by omega))
  · exact hp.of (fun i _ => ⟨F 1 i (by omega) (by omega) (by omega) (by omega), F 2 i (by omega) (by omega) (by omega) (by omega)⟩) (fun a b _ _ => F a b (by omega) (by omega) (by omega) (by omega))
  · exact hnw.of (fun i _ => F 7 i (by omega) (by omega) (by omega) (by omega))
  · intro i hi
    rw [R5 i, if_pos hi]; exact EV_small hw hse K i hi
  · refine hz.of (fun a i q1 q2 q3 q4 => ?_) (fun i k q1 q2 q3 => F 40 _ (by omega) (by omega) (by omega) (by omega))
    by_cases e : a = 5
    · subst e; rw [R5 i, if_neg (by omega)]
    · exact F a i e (by omega) (by omega) (by omega)
end PWA
