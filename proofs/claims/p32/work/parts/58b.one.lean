section PVKA
theorem gc_n (τ : fm_S) : ∃ F : Nat → Bool, (∀ i, F i = true ↔ fst τ i) ∧ ∀ n, gc τ n = nI (cnt F n) := by
  have hd : ∃ F : Nat → Bool, ∀ i, F i = true ↔ fst τ i := ⟨fun i => @decide _ (Classical.propDecidable (fst τ i)), fun i => @decide_eq_true_iff _ (Classical.propDecidable _)⟩
  obtain ⟨F, hF⟩ := hd
  refine ⟨F, hF, fun n => ?_⟩
  induction n with
  | zero => rfl
  | succ n ih =>
    by_cases q : fst τ n
    · rw [(gc_s τ n).1 q, ih, nI_1, cnt, (hF n).mpr q] <;> rfl
    · rw [(gc_s τ n).2 q, ih, cnt, Bool.eq_false_iff.mpr (fun h => q ((hF n).mp h))] <;> rfl
theorem fst_ex {τ : fm_S} {x : Nat} (hx : x < 8) (ux : up τ x = true) : ∃ f, f < 8 ∧ fst τ f ∧ Gr τ x f := by
  obtain ⟨f, f1, f2⟩ := pk_least (fun b => Gr τ x b) ⟨x, Gr_self τ x⟩
  have hf : f ≤ x := by
    refine Classical.byContradiction fun q => f2 x (by omega) (Gr_self τ x)
  refine ⟨f, by omega, ⟨?_, fun b hb z => f2 b hb (Gr_trans f1 z)⟩, f1⟩
  rcases Gr_up f1 with q | q
  · rw [q]; unfold up at ux; simpa using ux
  · exact q
theorem gc_one {τ : fm_S} {c : Nat} (hw : WF τ c) {z : Nat} (hz : z < 8) (uz : up τ z = true) : gc τ c = 1 ↔ ∀ x y, x < 8 → y < 8 → up τ x = true → up τ y = true → Gr τ x y := by
  obtain ⟨F, hF, hg⟩ := gc_n τ
  have hc := hw.1
  have fc : ∀ f, f < 8 → fst τ f → f < c := fun f hf h => by
    refine Classical.byContradiction fun q => ?_
    have : up τ f = false := up_hi hw (by omega) hf
    unfold up at this
    simp at this
    exact h.1 this
  have hle := cnt_le F c
  have h1 : gc τ c = 1 ↔ cnt F c = 1 := by
    rw [hg c, show (1 : Int32) = nI 1 from rfl]
    exact nI_eq (by omega) (by omega)
  rw [h1]
  constructor
  · intro h x y hx hy ux uy
    obtain ⟨f, f1, f2, f3⟩ := fst_ex hx ux
    obtain ⟨g, g1, g2, g3⟩ := fst_ex hy uy
    have e : f = g := by
      have k1 := cnt_st (P := F) (fc f f1 f2) ((hF f).mpr f2)
      have k2 := cnt_st (P := F) (fc g g1 g2) ((hF g).mpr g2)
      exact cnt_inj (P := F) ((hF f).mpr f2) ((hF g).mpr g2) (by omega)
    subst e
    exact Gr_trans f3 (Gr_symm hw g3)
  · intro h
    obtain ⟨f, f1, f2, f3⟩ := fst_ex hz uz
    have k1 := cnt_st (P := F) (fc f f1 f2) ((hF f).mpr f2)
    refine Classical.byContradiction fun q => ?_
    obtain ⟨i, i1, i2, i3⟩ := nth_ex F c 0 (by omega)
    obtain ⟨j, j1, j2, j3⟩ := nth_ex F c 1 (by omega)
    have hij : i < j := by
      refine Classical.byContradiction fun w => ?_
      have := cnt_mn (P := F) (show j ≤ i by omega)
      omega
    have fi := (hF i).mp i2
    have fj := (hF j).mp j2
    have ui : ∀ k, fst τ k → up τ k = true := fun k hk => by unfold up; simpa using hk.1
    exact fj.2 i hij (h j i (by omega) (by omega) (ui j fj) (ui i fi))
end PVKA
