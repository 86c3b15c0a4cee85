/-! free sets of links: any two greatest ones are of a size (by tight sets) -/
section GSP
def gSz (V : Nat → Bool) : Nat := (List.range 8).countP V
def gCn (V : Nat → Bool) (S : List (Nat × Nat)) : Nat := S.countP (fun e => V e.1 && V e.2)
def gFree (S : List (Nat × Nat)) : Prop := ∀ V : Nat → Bool, 2 ≤ gSz V → gCn V S + 3 ≤ 2 * gSz V
def gOk (S : List (Nat × Nat)) : Prop := ∀ e ∈ S, e.1 < 8 ∧ e.2 < 8 ∧ e.1 ≠ e.2
def gTi (V : Nat → Bool) (S : List (Nat × Nat)) : Prop := 2 ≤ gSz V ∧ gCn V S + 3 = 2 * gSz V
def gUn (A B : Nat → Bool) : Nat → Bool := fun x => A x || B x
def gIn (A B : Nat → Bool) : Nat → Bool := fun x => A x && B x
def gPr (a b : Nat) : Nat → Bool := fun x => x == a || x == b
theorem gCnt_ui (A B : Nat → Bool) : ∀ l : List Nat, l.countP (gUn A B) + l.countP (gIn A B) = l.countP A + l.countP B
  | [] => rfl
  | x :: l => by
    have ih := gCnt_ui A B l
    simp only [List.countP_cons, gUn, gIn] at ih ⊢
    by_cases hA : A x = true <;> by_cases hB : B x = true <;> simp [hA, hB] <;> omega
theorem gSz_ui (A B : Nat → Bool) : gSz (gUn A B) + gSz (gIn A B) = gSz A + gSz B := gCnt_ui A B _
theorem gCn_ui (A B : Nat → Bool) : ∀ S : List (Nat × Nat), gCn A S + gCn B S ≤ gCn (gUn A B) S + gCn (gIn A B) S
  | [] => Nat.le_refl _
  | e :: S => by
    have ih := gCn_ui A B S
    simp only [gCn, List.countP_cons, gUn, gIn] at ih ⊢
    cases A e.1 <;> cases B e.1 <;> cases A e.2 <;> cases B e.2 <;> simp <;> omega
theorem gCnt_mono {A B : Nat → Bool} (h : ∀ x, A x = true → B x = true) : ∀ l : List Nat, l.countP A ≤ l.countP B
  | [] => Nat.le_refl _
  | x :: l => by
    have ih := gCnt_mono h l
    simp only [List.countP_cons]
    have := h x
    cases hA : A x <;> cases hB : B x <;> simp_all <;> omega
theorem gSz_mono {A B : Nat → Bool} (h : ∀ x, A x = true → B x = true) : gSz A ≤ gSz B := gCnt_mono h _
theorem gSz_pr : ∀ a, a < 8 → ∀ b, b < 8 → a ≠ b → gSz (gPr a b) = 2 := by decide
theorem gSz_two {V : Nat → Bool} {a b : Nat} (ha : a < 8) (hb : b < 8) (hab : a ≠ b) (h1 : V a = true) (h2 : V b = true) : 2 ≤ gSz V := by
  rw [← gSz_pr a ha b hb hab]
  refine gSz_mono fun x hx => ?_
  simp only [gPr, Bool.or_eq_true, beq_iff_eq] at hx
  rcases hx with rfl | rfl
  · exact h1
  · exact h2
theorem gTi_un {S : List (Nat × Nat)} {A B : Nat → Bool} (hF : gFree S) (hA : gTi A S) (hB : gTi B S) (h2 : 2 ≤ gSz (gIn A B)) : gTi (gUn A B) S := by
  have h1 := gSz_ui A B
  have h3 := gCn_ui A B S
  have hm : gSz A ≤ gSz (gUn A B) := gSz_mono fun x hx => by simp [gUn, hx]
  have hU : 2 ≤ gSz (gUn A B) := Nat.le_trans hA.1 hm
  have hFU := hF _ hU
  have hFI := hF _ h2
  have hA2 := hA.2
  have hB2 := hB.2
  exact ⟨hU, by omega⟩
theorem gCn_cons (V : Nat → Bool) (e : Nat × Nat) (S : List (Nat × Nat)) : gCn V (e :: S) = gCn V S + if (V e.1 && V e.2) = true then 1 else 0 := by
  simp [gCn, List.countP_cons]
theorem gCn_mem {V : Nat → Bool} {e : Nat × Nat} {S : List (Nat × Nat)} (h : e ∈ S) (h1 : V e.1 = true) (h2 : V e.2 = true) : 1 ≤ gCn V S := by
  unfold gCn
  exact List.countP_pos_iff.mpr ⟨e, h, by simp [h1, h2]⟩
/-- a link of the set, or one that can't come to it, lies in a tight set of members -/
theorem gCover {I : List (Nat × Nat)} (hF : gFree I) {e : Nat × Nat} (h1 : e.1 < 8) (h2 : e.2 < 8) (hne : e.1 ≠ e.2) (h : e ∈ I ∨ ¬ gFree (e :: I)) : ∃ V, gTi V I ∧ V e.1 = true ∧ V e.2 = true := by
  rcases h with h | h
  · have hs := gSz_pr e.1 h1 e.2 h2 hne
    have ha : gPr e.1 e.2 e.1 = true := by simp [gPr]
    have hb : gPr e.1 e.2 e.2 = true := by simp [gPr]
    have h3 := gCn_mem h ha hb
    have h4 := hF (gPr e.1 e.2) (by omega)
    exact ⟨gPr e.1 e.2, ⟨by omega, by omega⟩, ha, hb⟩
  · obtain ⟨V, hV⟩ := Classical.not_forall.mp h
    obtain ⟨hs, hc⟩ := Classical.not_imp.mp hV
    have h4 := hF V hs
    rw [gCn_cons] at hc
    by_cases hb : (V e.1 && V e.2) = true
    · rw [if_pos hb] at hc
      rw [Bool.and_eq_true] at hb
      exact ⟨V, ⟨hs, by omega⟩, hb.1, hb.2⟩
    · rw [if_neg hb] at hc
      exact absurd h4 hc
def gApart (T : List (Nat → Bool)) : Prop := T.Pairwise (fun A B => gSz (gIn A B) ≤ 1)
theorem gInsert {I : List (Nat × Nat)} (hF : gFree I) : ∀ (n : Nat) (A : Nat → Bool) (T : List (Nat → Bool)), T.length ≤ n → gTi A I → (∀ V ∈ T, gTi V I) → gApart T →
    ∃ T', (∀ V ∈ T', gTi V I) ∧ gApart T' ∧ (∃ V ∈ T', ∀ x, A x = true → V x = true) ∧ ∀ B ∈ T, ∃ V ∈ T', ∀ x, B x = true → V x = true := by
  intro n
  induction n with
  | zero =>
    intro A T hl hA hT hp
    have : T = [] := List.length_eq_zero_iff.mp (by omega)
    subst this
    exact ⟨[A], by simpa using hA, by simp [gApart], ⟨A, by simp, fun _ h => h⟩, fun B hB => by cases hB⟩
  | succ n ih =>
    intro A T hl hA hT hp
    by_cases hall : ∀ B ∈ T, gSz (gIn A B) ≤ 1
    · refine ⟨A :: T, ?_, List.pairwise_cons.mpr ⟨hall, hp⟩, ⟨A, by simp, fun _ h => h⟩, fun B hB => ⟨B, List.mem_cons_of_mem _ hB, fun _ h => h⟩⟩
      intro V hV
      rcases List.mem_cons.mp hV with rfl | hV
      · exact hA
      · exact hT V hV
    · obtain ⟨B, hB⟩ := Classical.not_forall.mp hall
      obtain ⟨hBT, hBs⟩ := Classical.not_imp.mp hB
      obtain ⟨l1, l2, rfl⟩ := List.append_of_mem hBT
      have hsub : (l1 ++ l2).Sublist (l1 ++ B :: l2) := List.Sublist.append_left (List.sublist_cons_self B l2) l1
      have hlen : (l1 ++ l2).length ≤ n := by simp at hl ⊢; omega
      obtain ⟨T', t1, t2, ⟨V0, hV0, hc0⟩, t4⟩ := ih (gUn A B) (l1 ++ l2) hlen (gTi_un hF hA (hT B hBT) (by omega)) (fun V hV => hT V (hsub.subset hV)) (hp.sublist hsub)
      refine ⟨T', t1, t2, ⟨V0, hV0, fun x hx => hc0 x (by simp [gUn, hx])⟩, fun C hC => ?_⟩
      rcases List.mem_append.mp hC with h | h
      · exact t4 C (List.mem_append_left _ h)
      · rcases List.mem_cons.mp h with rfl | h
        · exact ⟨V0, hV0, fun x hx => hc0 x (by simp [gUn, hx])⟩
        · exact t4 C (List.mem_append_right _ h)
theorem gMerge {I : List (Nat × Nat)} (hF : gFree I) : ∀ T : List (Nat → Bool), (∀ V ∈ T, gTi V I) → ∃ T', (∀ V ∈ T', gTi V I) ∧ gApart T' ∧ ∀ B ∈ T, ∃ V ∈ T', ∀ x, B x = true → V x = true
  | [], _ => ⟨[], fun V h => by (cases h), List.Pairwise.nil, fun B h => by (cases h)⟩
  | A :: T, h => by
    obtain ⟨T1, a1, a2, a3⟩ := gMerge hF T (fun V hV => h V (List.mem_cons_of_mem _ hV))
    obtain ⟨T2, b1, b2, ⟨V0, hV0, hc0⟩, b4⟩ := gInsert hF T1.length A T1 (Nat.le_refl _) (h A List.mem_cons_self) a1 a2
    refine ⟨T2, b1, b2, fun B hB => ?_⟩
    rcases List.mem_cons.mp hB with rfl | hB
    · exact ⟨V0, hV0, hc0⟩
    · obtain ⟨V1, hV1, hc1⟩ := a3 B hB
      obtain ⟨V2, hV2, hc2⟩ := b4 V1 hV1
      exact ⟨V2, hV2, fun x hx => hc2 x (hc1 x hx)⟩
/-- counted by members' sets -/
def gTot (T : List (Nat → Bool)) (S : List (Nat × Nat)) : Nat := (T.map (fun V => gCn V S)).sum
theorem gTot_cons (e : Nat × Nat) (S : List (Nat × Nat)) : ∀ T : List (Nat → Bool), gTot T (e :: S) = gTot T S + T.countP (fun V => V e.1 && V e.2)
  | [] => rfl
  | V :: T => by
    have ih := gTot_cons e S T
    simp only [gTot, List.map_cons, List.sum_cons, List.countP_cons] at ih ⊢
    rw [ih, gCn_cons]
    omega
theorem gTot_nil : ∀ T : List (Nat → Bool), gTot T [] = 0
  | [] => rfl
  | V :: T => by
    have ih := gTot_nil T
    simp only [gTot, List.map_cons, List.sum_cons] at ih ⊢
    rw [ih]; rfl
theorem gTot_ge {T : List (Nat → Bool)} : ∀ {J : List (Nat × Nat)}, (∀ e ∈ J, ∃ V ∈ T, V e.1 = true ∧ V e.2 = true) → J.length ≤ gTot T J
  | [], _ => Nat.zero_le _
  | e :: J, h => by
    have ih := gTot_ge (J := J) (fun e' he => h e' (List.mem_cons_of_mem _ he))
    obtain ⟨V, hV, h1, h2⟩ := h e List.mem_cons_self
    have : 1 ≤ T.countP (fun V => V e.1 && V e.2) := List.countP_pos_iff.mpr ⟨V, hV, by simp [h1, h2]⟩
    rw [gTot_cons, List.length_cons]
    omega
theorem gOnce {a b : Nat} (ha : a < 8) (hb : b < 8) (hab : a ≠ b) : ∀ {T : List (Nat → Bool)}, gApart T → T.countP (fun V => V a && V b) ≤ 1
  | [], _ => Nat.zero_le _
  | V :: T, hp => by
    obtain ⟨h1, h2⟩ := List.pairwise_cons.mp hp
    have ih := gOnce ha hb hab h2
    rw [List.countP_cons]
    by_cases hV : (V a && V b) = true
    · have hz : T.countP (fun V => V a && V b) = 0 := by
        rw [List.countP_eq_zero]
        intro B hB hBB
        rw [Bool.and_eq_true] at hV hBB
        have := h1 B hB
        have := gSz_two (V := gIn V B) ha hb hab (by simp [gIn, hV.1, hBB.1]) (by simp [gIn, hV.2, hBB.2])
        omega
      rw [hz, if_pos hV]
      omega
    · rw [if_neg hV]
      omega
theorem gTot_le {T : List (Nat → Bool)} (hp : gApart T) : ∀ {I : List (Nat × Nat)}, gOk I → gTot T I ≤ I.length
  | [], _ => by rw [gTot_nil]; exact Nat.zero_le _
  | e :: I, h => by
    have ih := gTot_le hp (I := I) (fun e' he => h e' (List.mem_cons_of_mem _ he))
    obtain ⟨h1, h2, h3⟩ := h e List.mem_cons_self
    have := gOnce h1 h2 h3 hp
    rw [gTot_cons, List.length_cons]
    omega
theorem gTot_mono {I J : List (Nat × Nat)} (hJ : gFree J) : ∀ {T : List (Nat → Bool)}, (∀ V ∈ T, gTi V I) → gTot T J ≤ gTot T I
  | [], _ => Nat.le_refl _
  | V :: T, h => by
    have ih := gTot_mono hJ (T := T) (fun V' hV => h V' (List.mem_cons_of_mem _ hV))
    obtain ⟨h1, h2⟩ := h V List.mem_cons_self
    have h3 := hJ V h1
    simp only [gTot, List.map_cons, List.sum_cons] at ih ⊢
    omega
/-- a free set within P to which nothing of P can come -/
def gMax (P : Nat × Nat → Prop) (I : List (Nat × Nat)) : Prop := gFree I ∧ gOk I ∧ (∀ e ∈ I, P e) ∧ ∀ e : Nat × Nat, P e → e ∈ I ∨ ¬ gFree (e :: I)
theorem gMax_le {P : Nat × Nat → Prop} (hP : ∀ e, P e → e.1 < 8 ∧ e.2 < 8 ∧ e.1 ≠ e.2) {I J : List (Nat × Nat)} (hI : gMax P I) (hJ : gFree J) (hJP : ∀ e ∈ J, P e) : J.length ≤ I.length := by
  obtain ⟨hF, hO, -, hm⟩ := hI
  have hcov : ∀ L : List (Nat × Nat), (∀ e ∈ L, P e) → ∃ T : List (Nat → Bool), (∀ V ∈ T, gTi V I) ∧ ∀ e ∈ L, ∃ V ∈ T, V e.1 = true ∧ V e.2 = true := by
    intro L
    induction L with
    | nil => exact fun _ => ⟨[], fun V h => by (cases h), fun e h => by (cases h)⟩
    | cons e L ih =>
      intro h
      obtain ⟨T, t1, t2⟩ := ih (fun e' he => h e' (List.mem_cons_of_mem _ he))
      have hPe := h e List.mem_cons_self
      obtain ⟨h1, h2, h3⟩ := hP e hPe
      obtain ⟨V, v1, v2, v3⟩ := gCover hF h1 h2 h3 (hm e hPe)
      refine ⟨V :: T, fun V' hV' => ?_, fun e' he' => ?_⟩
      · rcases List.mem_cons.mp hV' with rfl | q
        · exact v1
        · exact t1 V' q
      · rcases List.mem_cons.mp he' with rfl | q
        · exact ⟨V, List.mem_cons_self, v2, v3⟩
        · obtain ⟨V2, w1, w2⟩ := t2 e' q
          exact ⟨V2, List.mem_cons_of_mem _ w1, w2⟩
  obtain ⟨T, t1, t2⟩ := hcov J hJP
  obtain ⟨T', s1, s2, s3⟩ := gMerge hF T t1
  have h1 : J.length ≤ gTot T' J := gTot_ge fun e he => by
    obtain ⟨V, hV, a, b⟩ := t2 e he
    obtain ⟨V', hV', hc⟩ := s3 V hV
    exact ⟨V', hV', hc _ a, hc _ b⟩
  exact Nat.le_trans h1 (Nat.le_trans (gTot_mono hJ s1) (gTot_le s2 hO))
theorem gMax_eq {P : Nat × Nat → Prop} (hP : ∀ e, P e → e.1 < 8 ∧ e.2 < 8 ∧ e.1 ≠ e.2) {I J : List (Nat × Nat)} (hI : gMax P I) (hJ : gMax P J) : I.length = J.length :=
  Nat.le_antisymm (gMax_le hP hJ hI.1 hI.2.2.1) (gMax_le hP hI hJ.1 hJ.2.2.1)
theorem gFree_tail {e : Nat × Nat} {I : List (Nat × Nat)} (h : gFree (e :: I)) : gFree I := fun V hV => by
  have := h V hV
  rw [gCn_cons] at this
  omega
theorem gFree_drop {e e' : Nat × Nat} {I : List (Nat × Nat)} (h : gFree (e' :: e :: I)) : gFree (e' :: I) := fun V hV => by
  have := h V hV
  simp only [gCn_cons] at this ⊢
  omega
theorem gFree_nil : gFree [] := fun V h => by simp [gCn]; omega
/-- the greedy step -/
theorem gMax_add {P P' : Nat × Nat → Prop} {I : List (Nat × Nat)} {e : Nat × Nat} (h : gMax P I) (he : e.1 < 8 ∧ e.2 < 8 ∧ e.1 ≠ e.2) (hP' : ∀ x, P' x ↔ P x ∨ x = e) (hF : gFree (e :: I)) : gMax P' (e :: I) := by
  obtain ⟨-, h2, h3, h4⟩ := h
  refine ⟨hF, ?_, ?_, ?_⟩
  · intro x hx
    rcases List.mem_cons.mp hx with rfl | hx
    · exact he
    · exact h2 x hx
  · intro x hx
    rcases List.mem_cons.mp hx with rfl | hx
    · exact (hP' _).mpr (Or.inr rfl)
    · exact (hP' _).mpr (Or.inl (h3 x hx))
  · intro x hx
    rcases (hP' x).mp hx with q | rfl
    · rcases h4 x q with r | r
      · exact Or.inl (List.mem_cons_of_mem _ r)
      · exact Or.inr fun z => r (gFree_drop z)
    · exact Or.inl List.mem_cons_self
theorem gMax_skip {P P' : Nat × Nat → Prop} {I : List (Nat × Nat)} {e : Nat × Nat} (h : gMax P I) (hP' : ∀ x, P' x ↔ P x ∨ x = e) (hF : ¬ gFree (e :: I)) : gMax P' I := by
  obtain ⟨h1, h2, h3, h4⟩ := h
  refine ⟨h1, h2, fun x hx => (hP' x).mpr (Or.inl (h3 x hx)), fun x hx => ?_⟩
  rcases (hP' x).mp hx with q | rfl
  · exact h4 x q
  · exact Or.inr hF
theorem gMax_none {P : Nat × Nat → Prop} (h : ∀ e, ¬ P e) : gMax P [] := ⟨gFree_nil, fun e h => by (cases h), fun e h => by (cases h), fun e he => absurd he (h e)⟩
theorem gMax_iff {P P' : Nat × Nat → Prop} {I : List (Nat × Nat)} (h : gMax P I) (hP' : ∀ x, P' x ↔ P x) : gMax P' I :=
  ⟨h.1, h.2.1, fun e he => (hP' e).mpr (h.2.2.1 e he), fun e he => h.2.2.2 e ((hP' e).mp he)⟩
end GSP
