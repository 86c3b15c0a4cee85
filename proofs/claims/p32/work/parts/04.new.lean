section FMN
/-- more rounds than any loop of the law needs -/
def fG : Nat := 2000
/-- the script behind K -/
def fm_scr (K : fm_K) (b L : Nat) (xs : Nat → Int32) : Prop := K.1.2.1 = b ∧ K.1.2.2.1 = L ∧ K.1.2.2.2.1 = xs
theorem fm_scr_at {K : fm_K} {b L : Nat} {xs : Nat → Int32} {A : Nat → Prop} {U : State} {H : Heap} (h : fm_scr K b L xs) (hst : fm_st K A U H) : va_X b L xs U H ∧ b < H.size ∧ ¬ A b := by
  obtain ⟨rfl, rfl, rfl⟩ := h
  exact hst.2.2.2.2.2.2.2.2
/-- a row made anew: noughts -/
def fm_z (σ : fm_S) (q : Nat) : fm_S := (fun a b => if a = q then 0 else σ.1 a b, σ.2)
def fm_zl (σ : fm_S) (q : Nat) : fm_S := (σ.1, fun a b => if a = q then 0 else σ.2 a b)
theorem fm_in43 {K : fm_K} (h : fm_n K = 1 ∨ fm_n K = 2) : fm_in K 43 := by
  unfold fm_in fm_ids
  rcases h with h | h <;> rw [h] <;> rfl
theorem fm_in44 {K : fm_K} (h : fm_n K = 2) : fm_in K 44 := by
  unfold fm_in fm_ids
  rw [h]; rfl
theorem fm_in45 {K : fm_K} (h : fm_n K = 3) : fm_in K 45 := by
  unfold fm_in fm_ids
  rw [h]; rfl
/-- K with one row more -/
def fm_kx (K : fm_K) (n1 q a : Nat) : fm_K := ((K.1.1, (K.1.2.1, K.1.2.2.1, K.1.2.2.2.1, n1)), K.2.1, K.2.2.1, fun j => if j = q then a else K.2.2.2 j)
theorem fm_kx_ne {K : fm_K} {n1 q a j : Nat} (h : j ≠ q) : (fm_kx K n1 q a).2.2.2 j = K.2.2.2 j := if_neg h
theorem fm_kx_eq {K : fm_K} {n1 q a : Nat} : (fm_kx K n1 q a).2.2.2 q = a := if_pos rfl
theorem fm_kx_in {K : fm_K} {n0 n1 q a : Nat} (hn : fm_n K = n0) (hex : fm_ex n1 = fm_ex n0 ++ [q]) {k : Nat} (h : fm_in (fm_kx K n1 q a) k) : fm_in K k ∨ k = q := by
  have e : fm_ids (fm_kx K n1 q a) = fm_ids K ++ [q] := by
    show List.range 43 ++ fm_ex n1 = (List.range 43 ++ fm_ex (fm_n K)) ++ [q]
    rw [hn, hex, List.append_assoc]
  unfold fm_in at h
  rw [e] at h
  by_cases hl : fm_pos k < (fm_ids K).length
  · rw [List.getElem?_append_left hl] at h; exact Or.inl h
  · rw [List.getElem?_append_right (by omega)] at h
    right
    have := List.mem_of_getElem? h
    simpa using this
theorem fm_exlt {n : Nat} {q : Nat} (h : q ∈ fm_ex n) : 43 ≤ q ∧ q < 46 := by
  rcases fm_exb n with e | e | e | e <;> rw [e] at h
  · cases h
  · have := List.mem_singleton.mp h; omega
  · rcases List.mem_cons.mp h with h | h
    · omega
    · have := List.mem_singleton.mp h; omega
  · have := List.mem_singleton.mp h; omega
theorem fm_nin {K : fm_K} {q : Nat} (hq : 43 ≤ q) (h : q ∉ fm_ex (fm_n K)) {j : Nat} (hj : j ∈ fm_ids K) : j ≠ q := by
  rintro rfl
  rcases List.mem_append.mp hj with h1 | h1
  · have := List.mem_range.mp h1; omega
  · exact h h1
theorem fm_ce_kx {K : fm_K} {σ : fm_S} {n1 q a j : Nat} (hq : 43 ≤ q) (h : j ≠ q) : fm_ce (fm_kx K n1 q a) σ j = fm_ce K σ j := by
  have e : ∀ i, i < 43 → (fm_kx K n1 q a).2.2.2 i = K.2.2.2 i := fun i hi => fm_kx_ne (by omega)
  have e1 : fm_ob (fm_kx K n1 q a).2.2.2 σ j = fm_ob K.2.2.2 σ j := by
    unfold fm_ob
    simp only [e 1 (by omega), e 2 (by omega), e 3 (by omega), e 4 (by omega), e 5 (by omega), e 6 (by omega), e 7 (by omega), e 8 (by omega), e 9 (by omega), e 18 (by omega), e 19 (by omega), e 20 (by omega), e 21 (by omega), e 22 (by omega), e 23 (by omega), e 24 (by omega), e 25 (by omega), e 26 (by omega), e 27 (by omega), e 28 (by omega), e 29 (by omega), e 30 (by omega), e 31 (by omega)]
  have e2 : fm_ty j = 4 ∨ fm_ty j = 5 → ∀ i, i < 8 → (fm_kx K n1 q a).2.2.2 (j + 1 + i) = K.2.2.2 (j + 1 + i) := by
    intro ht i hi
    have hj : j < 43 := by
      apply Classical.byContradiction; intro hn
      have h0 : ∀ d, d < 3 → fm_ty (43 + d) ≠ 4 ∧ fm_ty (43 + d) ≠ 5 := by decide
      by_cases h3 : j < 46
      · have := h0 (j - 43) (by omega)
        rw [show 43 + (j - 43) = j by omega] at this
        rcases ht with ht | ht
        · exact this.1 ht
        · exact this.2 ht
      · have : fm_ty j = 0 := by
          unfold fm_ty
          rw [List.getD_eq_getElem?_getD, List.getElem?_eq_none (by simp; omega)]; rfl
        omega
    have h0 : ∀ j, j < 43 → fm_ty j = 4 ∨ fm_ty j = 5 → j ≤ 31 := by decide
    exact e _ (by have := h0 j hj ht; omega)
  have e3 : (fm_kx K n1 q a).2.2.1 = K.2.2.1 := rfl
  unfold fm_ce
  rw [e1, e3]
  by_cases h1 : fm_ty j = 1
  · rw [if_pos h1, if_pos h1]
  rw [if_neg h1, if_neg h1]
  by_cases h2 : fm_ty j = 2
  · rw [if_pos h2, if_pos h2]
  rw [if_neg h2, if_neg h2]
  by_cases h3 : fm_ty j = 3
  · rw [if_pos h3, if_pos h3]
  rw [if_neg h3, if_neg h3]
  by_cases h4 : fm_ty j = 4
  · have h9 : (fun i => if i < 8 then some ((fm_kx K n1 q a).2.2.2 (j + 1 + i)) else none) = (fun i => if i < 8 then some (K.2.2.2 (j + 1 + i)) else none) := funext fun i => by
      by_cases hi : i < 8
      · rw [if_pos hi, if_pos hi, e2 (Or.inl h4) i hi]
      · rw [if_neg hi, if_neg hi]
    rw [if_pos h4, if_pos h4, h9]
  rw [if_neg h4, if_neg h4]
  by_cases h5 : fm_ty j = 5
  · have h9 : (fun i => if i < 8 then some ((fm_kx K n1 q a).2.2.2 (j + 1 + i)) else none) = (fun i => if i < 8 then some (K.2.2.2 (j + 1 + i)) else none) := funext fun i => by
      by_cases hi : i < 8
      · rw [if_pos hi, if_pos hi, e2 (Or.inr h5) i hi]
      · rw [if_neg hi, if_neg hi]
    rw [if_pos h5, if_pos h5, h9]
  rw [if_neg h5, if_neg h5]
theorem fm_W_kx {K : fm_K} {σ σ' : fm_S} {n0 n1 q a : Nat} (hn : fm_n K = n0) (hex : fm_ex n1 = fm_ex n0 ++ [q]) (hq : 43 ≤ q) (hnq : q ∉ fm_ex n0) (hs : ∀ j, j ≠ q → fm_ce K σ' j = fm_ce K σ j) : fm_W (fm_kx K n1 q a) σ' = fm_W K σ ++ [(a, fm_ce (fm_kx K n1 q a) σ' q)] := by
  have e : fm_ids (fm_kx K n1 q a) = fm_ids K ++ [q] := by
    show List.range 43 ++ fm_ex n1 = (List.range 43 ++ fm_ex (fm_n K)) ++ [q]
    rw [hn, hex, List.append_assoc]
  unfold fm_W
  rw [e, List.map_append]
  congr 1
  · apply List.map_congr_left
    intro j hj
    have hne := fm_nin hq (by rw [hn]; exact hnq) hj
    show (_, _) = (_, _)
    rw [fm_kx_ne hne, fm_ce_kx hq hne, hs j hne]
  · show [(_, _)] = _
    rw [fm_kx_eq]
theorem fm_ex_nq {n0 n1 q : Nat} (hex : fm_ex n1 = fm_ex n0 ++ [q]) : 43 ≤ q ∧ q ∉ fm_ex n0 := by
  have hq : q ∈ fm_ex n1 := by rw [hex]; simp
  refine ⟨(fm_exlt hq).1, fun h => ?_⟩
  have hnd : (fm_ex n1).Nodup := by rcases fm_exb n1 with e | e | e | e <;> rw [e] <;> decide
  rw [hex, List.nodup_append] at hnd
  exact hnd.2.2 q h q (by simp) rfl
section
variable {p : Program} {l : Launch} {e : Env} {R : Room} {s : State} {m : MethodId} {args : Array Value} {below : List Frame} {meth : Method} {c : Code} {H : Heap} {locs : List Loc} {cells slots : Nat} {Q : State → Prop}
variable {cc : ByteArray} {pc : Nat} {ls : Array Slot} {rest st0 : List Value} {K : fm_K} {σ σ' : fm_S} {A : Nat → Prop}
/-- the world with the new row, and back -/
theorem fm_grown {n0 n1 q : Nat} (hn : fm_n K = n0) (hex : fm_ex n1 = fm_ex n0 ++ [q]) (hs : ∀ j, j ≠ q → fm_ce K σ' j = fm_ce K σ j) (hst : fm_st K A s s.heap) (hA : ∀ q, fm_A K s.heap.size q → A q) (hH : fm_H K σ A s H locs) {H1 : Heap} (z1 : H1.size = H.size + 1) (o1 : ∀ x, x < H.size → H1[x]? = H[x]?) (he : va_at (K.1.1, K.2.1) vwCl (H.size, fm_ce (fm_kx K n1 q H.size) σ' q) H1) :
    fm_H (fm_kx K n1 q H.size) σ' A s H1 locs ∧ fm_st (fm_kx K n1 q H.size) A s s.heap ∧ (∀ x, fm_A (fm_kx K n1 q H.size) s.heap.size x → A x) ∧ ∀ (τ : fm_S) (H2 : Heap) (locs2 : List Loc), fm_H (fm_kx K n1 q H.size) τ A s H2 locs2 → fm_H K τ A s H2 locs2 := by
  obtain ⟨hq, hnq⟩ := fm_ex_nq hex
  have hnew : A H.size := hA _ (Or.inr hH.2.2.1)
  have hW := fm_W_kx (a := H.size) hn hex hq hnq hs
  refine ⟨⟨?_, ?_, ?_⟩, hst, ?_, ?_⟩
  · rw [hW]
    refine (hH.1.kept (fun k x hx => o1 x.1 ((hH.1 k x hx).lt))).app (fun k x hx => ?_)
    match k, hx with
    | 0, hx => cases hx; exact he
  · rw [hW]
    exact hH.2.1.push hH.1 rfl hnew
  · exact ⟨by rw [z1]; exact Nat.le_succ_of_le hH.2.2.1, fun x h1 h2 => (o1 x (Nat.lt_of_lt_of_le h1 hH.2.2.1)).trans (hH.2.2.2.1 x h1 h2), hH.2.2.2.2⟩
  · intro x hx
    rcases hx with ⟨k, hk, rfl⟩ | hx
    · by_cases hkq : k = q
      · subst hkq; rw [fm_kx_eq]; exact hnew
      · rw [fm_kx_ne hkq]
        rcases fm_kx_in hn hex hk with h | h
        · exact hA _ (Or.inl ⟨k, h, rfl⟩)
        · exact absurd h hkq
    · exact hA _ (Or.inr hx)
  · intro τ H2 locs2 h
    have hW2 := fm_W_kx (σ := τ) (σ' := τ) (a := H.size) hn hex hq hnq (fun _ _ => rfl)
    obtain ⟨h1, h2, h3⟩ := h
    rw [hW2] at h1 h2
    refine ⟨fun k x hx => h1 k x ?_, ⟨fun i j x y hx hy hxy => h2.1 i j x y ?_ ?_ hxy, fun k x hx => h2.2 k x ?_⟩, h3⟩
    all_goals first | (rw [List.getElem?_append_left (List.getElem?_eq_some_iff.mp hx).1]; exact hx) | (rw [List.getElem?_append_left (List.getElem?_eq_some_iff.mp hy).1]; exact hy)
theorem fm_newI {n0 : Nat} (q n1 : Nat) (hn : fm_n K = n0) (hex : fm_ex n1 = fm_ex n0 ++ [q]) (ht : fm_ty q = 1) {n : Int32} (hpos : ¬ n < 0) (hlen : n.toNatClampNeg = fm_len q ∧ fm_len q ≤ 1000) (hx : p.tables.exec = Jvm.exec) (hb : c.code = cc) (harr : (Cond.arrayClass .int).before args s = true) (hst : fm_st K A s s.heap) (hA : ∀ q, fm_A K s.heap.size q → A q) (hH : fm_H K σ A s H locs) (hcells : cells + 1 ≤ R.cells) (hslots : slots + fm_len q ≤ R.slots) (hdg : decode cc pc = .ok (.newarray .int, 2))
    (kk : ∀ (K1 : fm_K) (H1 : Heap), fm_n K1 = n1 → (∀ j, j ≠ q → K1.2.2.2 j = K.2.2.2 j) → fm_H K1 (fm_z σ q) A s H1 locs → fm_st K1 A s s.heap → (∀ x, fm_A K1 s.heap.size x → A x) → (∀ (τ : fm_S) (H2 : Heap) (locs2 : List Loc), fm_H K1 τ A s H2 locs2 → fm_H K τ A s H2 locs2) →
      W p l e R s m args below meth c H1 locs (cells + 1) (slots + fm_len q) Q (F0 m (pc + 2) ls (.ref (K1.2.2.2 q) :: rest))) : W p l e R s m args below meth c H locs cells slots Q (F0 m pc ls (.int n :: rest)) := by
  have hq := (fm_ex_nq hex).1
  refine va_newaK (atype := .int) (g := F0 m pc ls (.int n :: rest)) (N := fm_len q) hx hb harr rfl hdg rfl hpos hlen.1 (by show fm_len q * 4 ≤ 536870912; omega) hcells hslots rfl fun H1 cI e1 z1 o1 _ hNm => ?_
  have hc : K.2.2.1 0 = cI := Option.some.inj (((hst.1.2 0 _ rfl).2 : s.vm.findClass ("[" ++ FieldType.int.toString) = some (K.2.2.1 0)).symm.trans hNm)
  subst hc
  have hs : ∀ j, j ≠ q → fm_ce K (fm_z σ q) j = fm_ce K σ j := fun j hj => by
    have a1 : (fm_z σ q).1 j = σ.1 j := funext fun b => by simp [fm_z, hj]
    have a2 : ∀ b, (fm_z σ q).1 60 b = σ.1 60 b := fun b => by
      have : ¬ (60 = q) := by
        intro h
        have hq2 : q ∈ fm_ex n1 := by rw [hex]; simp
        have := (fm_exlt hq2).2
        omega
      simp [fm_z, this]
    have a3 : (fm_z σ q).2 = σ.2 := rfl
    simp only [fm_ce, fm_ob, a1, a2, a3]
  obtain ⟨g1, g2, g3, g4⟩ := fm_grown hn hex hs hst hA hH z1 o1 (by
    have : fm_ce (fm_kx K n1 q H.size) (fm_z σ q) q = .inl (K.2.2.1 0, fm_len q, .inl (fun _ => 0)) := by
      unfold fm_ce
      rw [if_pos ht]
      have : (fm_z σ q).1 q = fun _ => 0 := funext fun b => by simp [fm_z]
      rw [this]; rfl
    rw [this]
    show H1[H.size]? = some (vp_cell _ _)
    exact e1.trans (congrArg some (vp_cell_i _ _ _).symm))
  have := kk _ H1 rfl (fun j hj => fm_kx_ne hj) g1 g2 g3 g4
  rw [fm_kx_eq] at this
  exact this
theorem fm_newL {n0 : Nat} (q n1 : Nat) (hn : fm_n K = n0) (hex : fm_ex n1 = fm_ex n0 ++ [q]) (ht : fm_ty q = 3) {n : Int32} (hpos : ¬ n < 0) (hlen : n.toNatClampNeg = fm_len q ∧ fm_len q ≤ 1000) (hx : p.tables.exec = Jvm.exec) (hb : c.code = cc) (harr : (Cond.arrayClass .long).before args s = true) (hst : fm_st K A s s.heap) (hA : ∀ q, fm_A K s.heap.size q → A q) (hH : fm_H K σ A s H locs) (hcells : cells + 1 ≤ R.cells) (hslots : slots + fm_len q ≤ R.slots) (hdg : decode cc pc = .ok (.newarray .long, 2))
    (kk : ∀ (K1 : fm_K) (H1 : Heap), fm_n K1 = n1 → (∀ j, j ≠ q → K1.2.2.2 j = K.2.2.2 j) → fm_H K1 (fm_zl σ q) A s H1 locs → fm_st K1 A s s.heap → (∀ x, fm_A K1 s.heap.size x → A x) → (∀ (τ : fm_S) (H2 : Heap) (locs2 : List Loc), fm_H K1 τ A s H2 locs2 → fm_H K τ A s H2 locs2) →
      W p l e R s m args below meth c H1 locs (cells + 1) (slots + fm_len q) Q (F0 m (pc + 2) ls (.ref (K1.2.2.2 q) :: rest))) : W p l e R s m args below meth c H locs cells slots Q (F0 m pc ls (.int n :: rest)) := by
  refine va_newaK (atype := .long) (g := F0 m pc ls (.int n :: rest)) (N := fm_len q) hx hb harr rfl hdg rfl hpos hlen.1 (by show fm_len q * 8 ≤ 536870912; omega) hcells hslots rfl fun H1 cI e1 z1 o1 _ hNm => ?_
  have hc : K.2.2.1 2 = cI := Option.some.inj (((hst.1.2 2 _ rfl).2 : s.vm.findClass ("[" ++ FieldType.long.toString) = some (K.2.2.1 2)).symm.trans hNm)
  subst hc
  have hs : ∀ j, j ≠ q → fm_ce K (fm_zl σ q) j = fm_ce K σ j := fun j hj => by
    have a1 : (fm_zl σ q).2 j = σ.2 j := funext fun b => by simp [fm_zl, hj]
    have a3 : (fm_zl σ q).1 = σ.1 := rfl
    simp only [fm_ce, fm_ob, a1, a3]
  obtain ⟨g1, g2, g3, g4⟩ := fm_grown hn hex hs hst hA hH z1 o1 (by
    have : fm_ce (fm_kx K n1 q H.size) (fm_zl σ q) q = .inl (K.2.2.1 2, fm_len q, .inr (.inl (fun _ => 0))) := by
      unfold fm_ce
      rw [if_neg (by rw [ht]; decide), if_neg (by rw [ht]; decide), if_pos ht]
      have : (fm_zl σ q).2 q = fun _ => 0 := funext fun b => by simp [fm_zl]
      rw [this]; rfl
    rw [this]
    show H1[H.size]? = some (vp_cell _ _)
    exact e1.trans (congrArg some (vp_cell_l _ _ _).symm))
  have := kk _ H1 rfl (fun j hj => fm_kx_ne hj) g1 g2 g3 g4
  rw [fm_kx_eq] at this
  exact this
-- ends of methods that make cells
theorem fm_zretW {r : Int32} {mc ms : Nat} (hx : p.tables.exec = Jvm.exec) (hb : c.code = cc) (hr : meth.sig.returnType = some .boolean) (hn : vp_nar .boolean r = r) (hlk : meth.locks = false) (hst : fm_st K (fm_A K s.heap.size) s s.heap) (hH : fm_H K σ (fm_A K s.heap.size) s H locs) (hc : cells ≤ mc) (hs : slots ≤ ms) (hdg : decode cc pc = .ok (.ireturn, 1)) :
    W p l e R s m args below meth c H locs cells slots (MQ below (fm_QI K r σ s.heap.size) args s mc ms (fm_A K s.heap.size)) (F0 m pc ls [.int r]) :=
  W.widen hc hs (W.zret (ty := .boolean) hx hb hr (congrArg Value.int hn) (fun t ht hW => ⟨⟨r, σ, rfl, ⟨rfl, rfl⟩, by rw [ht]; exact hH.1, hH.2.1, va_K.moved hW.alike hst.1⟩, hH.2.2.F ht⟩) hH.2.2.2.2 hdg hlk)
theorem fm_vretW {mc ms : Nat} (hx : p.tables.exec = Jvm.exec) (hb : c.code = cc) (hr : meth.sig.returnType = none) (hlk : meth.locks = false) (hst : fm_st K (fm_A K s.heap.size) s s.heap) (hH : fm_H K σ (fm_A K s.heap.size) s H locs) (hc : cells ≤ mc) (hs : slots ≤ ms) (hdg : decode cc pc = .ok (.return_, 1)) :
    W p l e R s m args below meth c H locs cells slots (MQ below (fm_QV K σ s.heap.size) args s mc ms (fm_A K s.heap.size)) (F0 m pc ls []) :=
  W.widen hc hs (W.vret hx hb hr (fun t ht hW => ⟨⟨σ, rfl, rfl, by rw [ht]; exact hH.1, hH.2.1, va_K.moved hW.alike hst.1⟩, hH.2.2.F ht⟩) hH.2.2.2.2 hdg hlk)
theorem fm_cvW {a : Array Value} {mc ms : Nat} (hr : va_Run p l e R s m args below meth c H locs cells slots mc ms (F0 m pc ls st0) rest (fm_QV K σ' H.size a) (fm_A K H.size)) (hA : ∀ q, fm_A K s.heap.size q → A q) (hH : fm_H K σ A s H locs)
    (kk : ∀ (H1 : Heap) (locs1 : List Loc), fm_H K σ' A s H1 locs1 → W p l e R s m args below meth c H1 locs1 (cells + mc) (slots + ms) Q (F0 m (pc + 3) ls rest)) : W p l e R s m args below meth c H locs cells slots Q (F0 m pc ls st0) :=
  va_callv hr hH.2.2 (fun q _ h => fm_sub hA hH.2.2 q h) (fm_sub hA hH.2.2) (fun u t H1 locs1 ht _ hp hB _ _ hS => by
    obtain rfl := hp
    exact kk H1 locs1 ⟨by rw [← ht]; exact hB.1, hB.2.1.weaken (fun _ q _ h => fm_sub hA hH.2.2 q.1 h), hS⟩)
end
def fm_WV (l : Launch) (y : MethodName) (ws : List Cond) (rm : Room) (K : fm_K) (as : List Value) (σ : fm_S) (σ' : fm_S) (mc ms : Nat) : Prop := ∀ sz, Met l y ws rm (va_Pc as (fm_Pre K σ sz)) (fm_QV K σ' sz) mc ms (fm_A K sz)
end FMN
