section FMC
theorem fm_ob_0 (ad : Nat → Nat) (σ : fm_S) : fm_ob ad σ 0 = (4, [.ref (ad 1), .ref (ad 2), .ref (ad 3), .ref (ad 4), .ref (ad 5), .ref (ad 6), .ref (ad 7), .ref (ad 8), .ref (ad 9), .ref (ad 18), .int (σ.1 60 0), .int (σ.1 60 1), .ref (ad 20), .ref (ad 22), .ref (ad 23), .ref (ad 24), .ref (ad 28), .ref (ad 30)]) := rfl
theorem fm_ob_18 (ad : Nat → Nat) (σ : fm_S) : fm_ob ad σ 18 = (1, [.ref (ad 19)]) := rfl
theorem fm_ob_20 (ad : Nat → Nat) (σ : fm_S) : fm_ob ad σ 20 = (1, [.ref (ad 21)]) := rfl
theorem fm_ob_24 (ad : Nat → Nat) (σ : fm_S) : fm_ob ad σ 24 = (2, [.ref (ad 25), .ref (ad 26), .ref (ad 27)]) := rfl
theorem fm_ob_28 (ad : Nat → Nat) (σ : fm_S) : fm_ob ad σ 28 = (0, [.ref (ad 29)]) := rfl
theorem fm_ob_30 (ad : Nat → Nat) (σ : fm_S) : fm_ob ad σ 30 = (3, [.ref (ad 31)]) := rfl
theorem fm_r4 {K : fm_K} {i : Int32} (h : ¬ (i < 0 ∨ 8 ≤ i.toNatClampNeg)) : fm_in K (9 + 1 + i.toNatClampNeg) ∧ fm_ty (9 + 1 + i.toNatClampNeg) = 1 ∧ fm_len (9 + 1 + i.toNatClampNeg) = 8 := by
  have h1 : i.toNatClampNeg < 8 := Nat.not_le.mp fun q => h (Or.inr q)
  have h2 : ∀ n, n < 8 → 9 + 1 + n < 43 ∧ fm_ty (9 + 1 + n) = 1 ∧ fm_len (9 + 1 + n) = 8 := by decide
  exact ⟨fm_inb (h2 _ h1).1, (h2 _ h1).2⟩
theorem fm_r5 {K : fm_K} {i : Int32} (h : ¬ (i < 0 ∨ 8 ≤ i.toNatClampNeg)) : fm_in K (31 + 1 + i.toNatClampNeg) ∧ fm_ty (31 + 1 + i.toNatClampNeg) = 3 ∧ fm_len (31 + 1 + i.toNatClampNeg) = 8 := by
  have h1 : i.toNatClampNeg < 8 := Nat.not_le.mp fun q => h (Or.inr q)
  have h2 : ∀ n, n < 8 → 31 + 1 + n < 43 ∧ fm_ty (31 + 1 + n) = 3 ∧ fm_len (31 + 1 + n) = 8 := by decide
  exact ⟨fm_inb (h2 _ h1).1, (h2 _ h1).2⟩
/-- links of nest mates: who, place, whom -/
def fm_nest : List (String × Nat × MethodName) := [(RX4, 218, yX1_clear), (RX4, 112, yX1_joins), (RX4, 119, yX1_join), (RX4, 128, yX1_pairCount), (RX4, 142, yX1_holds), (RX4, 139, yX1_groupOf), (RX4, 221, yX1_with), (RX4, 151, yX3_treesOf), (RX3, 22, yX1_without), (RX3, 36, yX1_holds), (RX3, 44, yX1_joins), (RX3, 49, yX1_degreeOf), (RX4, 186, yX2_rankOf), (RX2, 27, yX1_joins), (RX2, 36, yX1_with), (RX2, 50, yX1_holds), (RX2, 61, yX1_without), (RX4, 190, yX0_rankOf), (RX0, 21, yX1_with), (RX0, 27, yX1_joins), (RX4, 116, yX1_cut), (RX4, 132, yX1_degreeOf)]
def fm_strs : List (Nat × String) := [(198, "the two members are not linked"), (203, "there is no such member"), (208, "both members are the same"), (211, "a number is out of range"), (96, "there are 8 members")]
def fm_exs : List String := ["java/lang/IndexOutOfBoundsException", "java/lang/IllegalArgumentException", "java/lang/IllegalStateException", "java/util/NoSuchElementException"]
def fm_ncs : List (String × String) := [("java/lang/IllegalStateException", "java/lang/IllegalArgumentException"), ("java/lang/IllegalArgumentException", "java/lang/IndexOutOfBoundsException"), ("java/util/NoSuchElementException", "java/lang/IndexOutOfBoundsException")]
def fm_sup : List String := ["java/lang/RuntimeException", "java/lang/Exception", "java/lang/Throwable"]
/-- what of the start is carried everywhere -/
def fm_st (K : fm_K) (A : Nat → Prop) (U : State) (H : Heap) : Prop :=
  fm_Kn K U ∧ (∀ t ∈ fm_nest, va_Nw (.methodLinkNest t.1 t.2.1 t.2.2 "Formationist") U) ∧ vx_Zq Bundle.tN "UNASSIGNED_STACK" Bundle.steD A U H ∧ vx_Zq Bundle.tN "SUPPRESSED_SENTINEL" Bundle.listD A U H ∧ (∀ x ∈ fm_strs, ∃ a, vk_R RX4 x.1 x.2 a U) ∧ (∀ x ∈ fm_exs, va_Nw (.castable x x) U) ∧ (∀ x ∈ fm_ncs, va_Nc x.1 x.2 U) ∧ (∀ x ∈ fm_sup, va_Nw (.declares (Bundle.initS x)) U) ∧ (va_X K.1.2.1 K.1.2.2.1 K.1.2.2.2.1 U H ∧ K.1.2.1 < H.size ∧ ¬ A K.1.2.1)
theorem fm_st_at {K : fm_K} {A A' : Nat → Prop} {s : State} {H : Heap} {locs : List Loc} (hst : fm_st K A s s.heap) (hS : va_S A s.heap H locs) (hsub : ∀ q, A' q → A q) {U : State} (hU : U.heap = H) (hW : s.WarmedH U.vm) : fm_st K A' U U.heap := by
  obtain ⟨h1, h2, h3, h4, h5, h6, h7, h8, h9⟩ := hst
  refine ⟨va_K.moved hW.alike h1, fun t ht => va_Nw.warmM hW (h2 t ht), ?_, ?_, fun x hx => ?_, fun x hx => va_Nw.warmC hW (h6 x hx), fun x hx => va_Nc.moved hW.alike (h7 x hx), fun x hx => va_Nw.warmD hW (h8 x hx), ?_⟩
  · rw [hU]; exact vx_Zq.moved hW.alike ((h3.kept hS.2.1).narrow hsub)
  · rw [hU]; exact vx_Zq.moved hW.alike ((h4.kept hS.2.1).narrow hsub)
  · obtain ⟨a, ha⟩ := h5 x hx
    exact ⟨a, vk_R.warm hW ha⟩
  · rw [hU]
    exact ⟨(h9.1.kept (hS.2.1 _ h9.2.1 h9.2.2)).moved hW.alike, Nat.lt_of_lt_of_le h9.2.1 hS.1, fun q => h9.2.2 (hsub _ q)⟩
def fm_Pre (K : fm_K) (σ : fm_S) (sz : Nat) (U : State) : Prop := U.heap.size = sz ∧ va_P (K.1.1, K.2.1) vwCl (fm_W K σ) U.heap ∧ va_D (fun _ => True) (fm_W K σ) ∧ fm_st K (fm_A K sz) U U.heap
def fm_Post (K : fm_K) (A : Nat → Prop) (σ : fm_S) (t : State) : Prop := va_P (K.1.1, K.2.1) vwCl (fm_W K σ) t.heap ∧ va_D A (fm_W K σ) ∧ fm_Kn K t
theorem fm_blind {as : List Value} {K : fm_K} {σ : fm_S} {sz : Nat} : FrameBlind (va_Pc as (fm_Pre K σ sz)) := by
  intro a U g mk h
  obtain ⟨h0, h1, h2, h3, h4, h5, h6, h7, h8, h9, h10, h11, h12⟩ := h
  have hal : U.vm.Alike (U.calling g mk a).vm := Vm.Alike.refl U.vm
  exact ⟨h0, h1, h2, h3, va_K.moved hal h4, fun t ht => va_Nw.same rfl rfl (h5 t ht), vx_Zq.moved hal h6, vx_Zq.moved hal h7, fun x hx => by
    obtain ⟨a9, ha⟩ := h8 x hx
    exact ⟨a9, vk_R.same rfl ha⟩, fun x hx => va_Nw.same rfl rfl (h9 x hx), fun x hx => va_Nc.moved hal (h10 x hx), fun x hx => va_Nw.same rfl rfl (h11 x hx), h12.1.moved hal, h12.2⟩
theorem fm_sub {K : fm_K} {A : Nat → Prop} {s : State} {H : Heap} {locs : List Loc} (hA : ∀ q, fm_A K s.heap.size q → A q) (hS : va_S A s.heap H locs) : ∀ q, fm_A K H.size q → A q := by
  intro q h
  rcases h with h | h
  · exact hA q (Or.inl h)
  · exact hA q (Or.inr (Nat.le_trans hS.1 h))
theorem fm_pre {K : fm_K} {σ : fm_S} {A : Nat → Prop} {s : State} {H : Heap} {locs : List Loc} {as : List Value} (hst : fm_st K A s s.heap) (hA : ∀ q, fm_A K s.heap.size q → A q) (hH : fm_H K σ A s H locs) : ∀ U : State, U.heap = H → s.WarmedH U.vm → va_Pc as (fm_Pre K σ H.size) as.toArray U := by
  intro U hU hW
  have h := fm_st_at (A' := fm_A K H.size) hst hH.2.2 (fm_sub hA hH.2.2) hU hW
  exact ⟨rfl, by rw [hU], by rw [hU]; exact hH.1, hH.2.1.weaken (fun _ _ _ _ => trivial), h⟩
theorem fm_recv {K : fm_K} {σ : fm_S} {A : Nat → Prop} {s : State} {H : Heap} {locs : List Loc} (hst : fm_st K A s s.heap) (hH : fm_H K σ A s H locs) {q : Nat} (hq : fm_in K q) (ht : fm_ty q = 0) {ci : Nat} {fs : List Value} (hob : fm_ob K.2.2.2 σ q = (ci, fs)) {r : vw_C} (hc : vwCl[ci]? = some r) : ∃ cell : Cell, H[K.2.2.2 q]? = some cell ∧ cell.vm.isStatics = false ∧ s.vm.findClass r.1 = some cell.cls :=
  va_recv (fs := fs) (ci := ci) (q0 := fm_pos q) hst.1 hH.1 hc (by rw [fm_obj K σ hq ht, hob])
/-- contracts: called so, over this store, the answer and the store behind it -/
def fm_QI (K : fm_K) (r : Int32) (σ : fm_S) (sz : Nat) : Array Value → State → Outcome → State → Prop := va_Qi (fun (r' : Int32) (u : fm_S) => r' = r ∧ u = σ) (fun u t => fm_Post K (fm_A K sz) u t) (fm_A K sz)
def fm_QL (K : fm_K) (r : Int64) (σ : fm_S) (sz : Nat) : Array Value → State → Outcome → State → Prop := va_Ql (fun (r' : Int64) (u : fm_S) => r' = r ∧ u = σ) (fun u t => fm_Post K (fm_A K sz) u t) (fm_A K sz)
def fm_QV (K : fm_K) (σ : fm_S) (sz : Nat) : Array Value → State → Outcome → State → Prop := va_Qv (fun (u : fm_S) => u = σ) (fun u t => fm_Post K (fm_A K sz) u t) (fm_A K sz)
def fm_CI (l : Launch) (y : MethodName) (ws : List Cond) (rm : Room) (K : fm_K) (as : List Value) (σ : fm_S) (r : Int32) (σ' : fm_S) : Prop := ∀ sz, Met l y ws rm (va_Pc as (fm_Pre K σ sz)) (fm_QI K r σ' sz) 0 0 (fm_A K sz)
def fm_CL (l : Launch) (y : MethodName) (ws : List Cond) (rm : Room) (K : fm_K) (as : List Value) (σ : fm_S) (r : Int64) (σ' : fm_S) : Prop := ∀ sz, Met l y ws rm (va_Pc as (fm_Pre K σ sz)) (fm_QL K r σ' sz) 0 0 (fm_A K sz)
def fm_CV (l : Launch) (y : MethodName) (ws : List Cond) (rm : Room) (K : fm_K) (as : List Value) (σ : fm_S) (σ' : fm_S) : Prop := ∀ sz, Met l y ws rm (va_Pc as (fm_Pre K σ sz)) (fm_QV K σ' sz) 0 0 (fm_A K sz)
/-- .. of a method that may throw -/
abbrev fm_OI : Type := Except (String × fm_S) (Int32 × fm_S)
abbrev fm_OV : Type := Except (String × fm_S) fm_S
def fm_YI (K : fm_K) (o : fm_OI) (sz : Nat) : Array Value → State → Outcome → State → Prop := va_Qi (fun (r' : Int32) (u : fm_S) => o = .ok (r', u)) (fun u t => fm_Post K (fm_A K sz) u t) (fm_A K sz)
def fm_YV (K : fm_K) (o : fm_OV) (sz : Nat) : Array Value → State → Outcome → State → Prop := va_Qv (fun (u : fm_S) => o = .ok u) (fun u t => fm_Post K (fm_A K sz) u t) (fm_A K sz)
def fm_ZI (K : fm_K) (o : fm_OI) (sz : Nat) : String → State → State → Prop := vx_X (fun (_ : fm_S) => True) (fun E u t => o = .error (E, u) ∧ fm_Post K (fm_A K sz) u t) (fm_A K sz)
def fm_ZV (K : fm_K) (o : fm_OV) (sz : Nat) : String → State → State → Prop := vx_X (fun (_ : fm_S) => True) (fun E u t => o = .error (E, u) ∧ fm_Post K (fm_A K sz) u t) (fm_A K sz)
def fm_XI (l : Launch) (y : MethodName) (ws : List Cond) (rm : Room) (K : fm_K) (as : List Value) (σ : fm_S) (o : fm_OI) (n : Nat) : Prop := ∀ sz, vx_Met l y ws rm (va_Pc as (fm_Pre K σ sz)) (fm_YI K o sz) (fm_ZI K o sz) n (6 * n) (fm_A K sz)
def fm_XV (l : Launch) (y : MethodName) (ws : List Cond) (rm : Room) (K : fm_K) (as : List Value) (σ : fm_S) (o : fm_OV) (n : Nat) : Prop := ∀ sz, vx_Met l y ws rm (va_Pc as (fm_Pre K σ sz)) (fm_YV K o sz) (fm_ZV K o sz) n (6 * n) (fm_A K sz)
/-- a body's start -/
theorem fm_start {l : Launch} {y : MethodName} {ws ws' : List Cond} {rm : Room} {K : fm_K} {σ : fm_S} {sz : Nat} {as : List Value} {cc : ByteArray} {maxL : Nat} {ret : Option FieldType} {Qc : Nat → Array Value → State → Outcome → State → Prop} {mc ms : Nat}
    (hy : plainName y.cls = true) (hw : ws = Cond.code y cc maxL ret :: ws') (hn : (lg_sl as).length ≤ maxL)
    (body : ∀ (p : Program) (e : Env) (s : State) (m : MethodId) (args : Array Value) (below : List Frame) (meth : Method) (c : Code), CallFix p m c cc maxL s args ws y.cls → meth.sig.returnType = ret → meth.locks = false → fm_st K (fm_A K s.heap.size) s s.heap → fm_H K σ (fm_A K s.heap.size) s s.heap [] → ∀ ls, lv_has ls maxL (lv_args 0 as) →
      W p l e rm s m args below meth c s.heap [] 0 0 (MQ below (Qc s.heap.size) args s mc ms (fm_A K s.heap.size)) (F0 m 0 ls [])) : Met l y ws rm (va_Pc as (fm_Pre K σ sz)) (Qc sz) mc ms (fm_A K sz) := by
  refine Met.ofW (cc := cc) (maxL := maxL) (ret := ret) hy hw ?_
  intro p e s m args below meth c s₁ B hml hv
  obtain ⟨rfl, rfl, hP, hD0, hst⟩ := hv
  have hl := lv_entry as hn
  rw [lg_entry_eq]
  generalize (lg_sl as ++ List.replicate (maxL - (lg_sl as).length) Slot.unset).toArray = ls at hl ⊢
  exact body p e s m _ below meth c ⟨B.exec, B.bytes, hml, findClass_of_methodNamed B.named, atoms_spec (ws := ws) B.pre⟩ B.returns B.notSynchronized hst ⟨hP, ⟨hD0.1, fun k q hq => by
    obtain ⟨q9, h1, -, rfl⟩ := fm_getN K σ hq
    exact Or.inl ⟨q9, h1, rfl⟩⟩, va_S.rf⟩ ls hl
theorem fm_startX {l : Launch} {y : MethodName} {ws ws' : List Cond} {rm : Room} {K : fm_K} {σ : fm_S} {sz : Nat} {as : List Value} {cc : ByteArray} {maxL : Nat} {ret : Option FieldType} {Qc : Nat → Array Value → State → Outcome → State → Prop} {XC : Nat → String → State → State → Prop} {mc ms : Nat}
    (hy : plainName y.cls = true) (hw : ws = Cond.code y cc maxL ret :: ws') (hn : (lg_sl as).length ≤ maxL)
    (body : ∀ (p : Program) (e : Env) (s : State) (m : MethodId) (args : Array Value) (below : List Frame) (meth : Method) (c : Code), CallFix p m c cc maxL s args ws y.cls → meth.sig.returnType = ret → meth.locks = false → (∀ x ∈ c.exceptionTable.toList, False) → fm_st K (fm_A K s.heap.size) s s.heap → fm_H K σ (fm_A K s.heap.size) s s.heap [] → ∀ ls, lv_has ls maxL (lv_args 0 as) →
      W p l e rm s m args below meth c s.heap [] 0 0 (vx_MQ below (Qc s.heap.size) (XC s.heap.size) args s mc ms (fm_A K s.heap.size)) (F0 m 0 ls [])) : vx_Met l y ws rm (va_Pc as (fm_Pre K σ sz)) (Qc sz) (XC sz) mc ms (fm_A K sz) := by
  refine vx_ofW (cc := cc) (maxL := maxL) (ret := ret) hy hw ?_
  intro p e s m args below meth c s₁ B hml hex hv
  obtain ⟨rfl, rfl, hP, hD0, hst⟩ := hv
  have hl := lv_entry as hn
  rw [lg_entry_eq]
  generalize (lg_sl as ++ List.replicate (maxL - (lg_sl as).length) Slot.unset).toArray = ls at hl ⊢
  exact body p e s m _ below meth c ⟨B.exec, B.bytes, hml, findClass_of_methodNamed B.named, atoms_spec (ws := ws) B.pre⟩ B.returns B.notSynchronized hex hst ⟨hP, ⟨hD0.1, fun k q hq => by
    obtain ⟨q9, h1, -, rfl⟩ := fm_getN K σ hq
    exact Or.inl ⟨q9, h1, rfl⟩⟩, va_S.rf⟩ ls hl
section
variable {p : Program} {l : Launch} {e : Env} {R : Room} {s : State} {m : MethodId} {args : Array Value} {below : List Frame} {meth : Method} {c : Code} {H : Heap} {locs : List Loc} {cells slots : Nat} {Q : State → Prop}
variable {cc : ByteArray} {pc : Nat} {ls : Array Slot} {rest st0 : List Value} {K : fm_K} {σ σ' : fm_S} {A : Nat → Prop}
theorem fm_alen (hx : p.tables.exec = Jvm.exec) (hb : c.code = cc) (hK : fm_Kn K s) (hH : fm_H K σ A s H locs) (q : Nat) (hq : fm_in K q) (ht : fm_ty q = 1) (hdg : decode cc pc = .ok (.arraylength, 1))
    (kk : W p l e R s m args below meth c H locs cells slots Q (F0 m (pc + 1) ls (.int (Int32.ofNat (fm_len q)) :: rest))) : W p l e R s m args below meth c H locs cells slots Q (F0 m pc ls (.ref (K.2.2.2 q) :: rest)) :=
  va_alen (x := (fm_len q, .inl (σ.1 q))) (cA := K.2.2.1 0) (ty := .int) hx hb hK hH.1 (fm_pos q) 0 (by rw [fm_get _ _ hq]; simp [fm_ce, ht]) rfl rfl hdg kk
-- ends
theorem fm_iret {r : Int32} (hx : p.tables.exec = Jvm.exec) (hb : c.code = cc) (hr : meth.sig.returnType = some .int) (hlk : meth.locks = false) (hst : fm_st K (fm_A K s.heap.size) s s.heap) (hH : fm_H K σ (fm_A K s.heap.size) s H locs) (hdg : decode cc pc = .ok (.ireturn, 1)) :
    W p l e R s m args below meth c H locs 0 0 (MQ below (fm_QI K r σ s.heap.size) args s 0 0 (fm_A K s.heap.size)) (F0 m pc ls [.int r]) :=
  W.iret hx hb hr (fun t ht hW => ⟨⟨r, σ, rfl, ⟨rfl, rfl⟩, by rw [ht]; exact hH.1, hH.2.1, va_K.moved hW.alike hst.1⟩, hH.2.2.F ht⟩) hH.2.2.2.2 hdg hlk
theorem fm_zret {r : Int32} (hx : p.tables.exec = Jvm.exec) (hb : c.code = cc) (hr : meth.sig.returnType = some .boolean) (hn : vp_nar .boolean r = r) (hlk : meth.locks = false) (hst : fm_st K (fm_A K s.heap.size) s s.heap) (hH : fm_H K σ (fm_A K s.heap.size) s H locs) (hdg : decode cc pc = .ok (.ireturn, 1)) :
    W p l e R s m args below meth c H locs 0 0 (MQ below (fm_QI K r σ s.heap.size) args s 0 0 (fm_A K s.heap.size)) (F0 m pc ls [.int r]) :=
  W.zret (ty := .boolean) hx hb hr (congrArg Value.int hn) (fun t ht hW => ⟨⟨r, σ, rfl, ⟨rfl, rfl⟩, by rw [ht]; exact hH.1, hH.2.1, va_K.moved hW.alike hst.1⟩, hH.2.2.F ht⟩) hH.2.2.2.2 hdg hlk
theorem fm_lret {r : Int64} (hx : p.tables.exec = Jvm.exec) (hb : c.code = cc) (hr : meth.sig.returnType = some .long) (hlk : meth.locks = false) (hst : fm_st K (fm_A K s.heap.size) s s.heap) (hH : fm_H K σ (fm_A K s.heap.size) s H locs) (hdg : decode cc pc = .ok (.lreturn, 1)) :
    W p l e R s m args below meth c H locs 0 0 (MQ below (fm_QL K r σ s.heap.size) args s 0 0 (fm_A K s.heap.size)) (F0 m pc ls [.long r]) :=
  W.lret hx hb hr (fun t ht hW => ⟨⟨r, σ, rfl, ⟨rfl, rfl⟩, by rw [ht]; exact hH.1, hH.2.1, va_K.moved hW.alike hst.1⟩, hH.2.2.F ht⟩) hH.2.2.2.2 hdg hlk
theorem fm_vret (hx : p.tables.exec = Jvm.exec) (hb : c.code = cc) (hr : meth.sig.returnType = none) (hlk : meth.locks = false) (hst : fm_st K (fm_A K s.heap.size) s s.heap) (hH : fm_H K σ (fm_A K s.heap.size) s H locs) (hdg : decode cc pc = .ok (.return_, 1)) :
    W p l e R s m args below meth c H locs 0 0 (MQ below (fm_QV K σ s.heap.size) args s 0 0 (fm_A K s.heap.size)) (F0 m pc ls []) :=
  W.vret hx hb hr (fun t ht hW => ⟨⟨σ, rfl, rfl, by rw [ht]; exact hH.1, hH.2.1, va_K.moved hW.alike hst.1⟩, hH.2.2.F ht⟩) hH.2.2.2.2 hdg hlk
theorem fm_iretX {r : Int32} {o : fm_OI} {mc ms : Nat} (hx : p.tables.exec = Jvm.exec) (hb : c.code = cc) (hr : meth.sig.returnType = some .int) (hlk : meth.locks = false) (hst : fm_st K (fm_A K s.heap.size) s s.heap) (hH : fm_H K σ (fm_A K s.heap.size) s H locs) (ho : o = .ok (r, σ)) (hc : cells ≤ mc) (hs : slots ≤ ms) (hdg : decode cc pc = .ok (.ireturn, 1)) :
    W p l e R s m args below meth c H locs cells slots (vx_MQ below (fm_YI K o s.heap.size) (fm_ZI K o s.heap.size) args s mc ms (fm_A K s.heap.size)) (F0 m pc ls [.int r]) :=
  W.widen hc hs (vx_ret (W.iret hx hb hr (fun t ht hW => ⟨⟨r, σ, rfl, ho, by rw [ht]; exact hH.1, hH.2.1, va_K.moved hW.alike hst.1⟩, hH.2.2.F ht⟩) hH.2.2.2.2 hdg hlk))
theorem fm_zretX {r : Int32} {o : fm_OI} {mc ms : Nat} (hx : p.tables.exec = Jvm.exec) (hb : c.code = cc) (hr : meth.sig.returnType = some .boolean) (hn : vp_nar .boolean r = r) (hlk : meth.locks = false) (hst : fm_st K (fm_A K s.heap.size) s s.heap) (hH : fm_H K σ (fm_A K s.heap.size) s H locs) (ho : o = .ok (r, σ)) (hc : cells ≤ mc) (hs : slots ≤ ms) (hdg : decode cc pc = .ok (.ireturn, 1)) :
    W p l e R s m args below meth c H locs cells slots (vx_MQ below (fm_YI K o s.heap.size) (fm_ZI K o s.heap.size) args s mc ms (fm_A K s.heap.size)) (F0 m pc ls [.int r]) :=
  W.widen hc hs (vx_ret (W.zret (ty := .boolean) hx hb hr (congrArg Value.int hn) (fun t ht hW => ⟨⟨r, σ, rfl, ho, by rw [ht]; exact hH.1, hH.2.1, va_K.moved hW.alike hst.1⟩, hH.2.2.F ht⟩) hH.2.2.2.2 hdg hlk))
theorem fm_vretX {o : fm_OV} {mc ms : Nat} (hx : p.tables.exec = Jvm.exec) (hb : c.code = cc) (hr : meth.sig.returnType = none) (hlk : meth.locks = false) (hst : fm_st K (fm_A K s.heap.size) s s.heap) (hH : fm_H K σ (fm_A K s.heap.size) s H locs) (ho : o = .ok σ) (hc : cells ≤ mc) (hs : slots ≤ ms) (hdg : decode cc pc = .ok (.return_, 1)) :
    W p l e R s m args below meth c H locs cells slots (vx_MQ below (fm_YV K o s.heap.size) (fm_ZV K o s.heap.size) args s mc ms (fm_A K s.heap.size)) (F0 m pc ls []) :=
  W.widen hc hs (vx_ret (W.vret hx hb hr (fun t ht hW => ⟨⟨σ, rfl, ho, by rw [ht]; exact hH.1, hH.2.1, va_K.moved hW.alike hst.1⟩, hH.2.2.F ht⟩) hH.2.2.2.2 hdg hlk))
-- an exception goes on to the caller
theorem fm_outI {E : String} {ce : Cell} {q : Addr} {o : fm_OI} {mc ms : Nat} {Qc : Array Value → State → Outcome → State → Prop} (hout : ∀ x ∈ c.exceptionTable.toList, False) (hlk : meth.locks = false) (hst : fm_st K (fm_A K s.heap.size) s s.heap) (hH : fm_H K σ (fm_A K s.heap.size) s H locs) (ho : o = .error (E, σ)) (hce : H[q]? = some ce) (hcv : ce.vm = .none) (hcl : s.vm.findClass E = some ce.cls) (hc : cells ≤ mc) (hs : slots ≤ ms) :
    vx_W p l e R s m args below meth c H locs cells slots (vx_MQ below Qc (fm_ZI K o s.heap.size) args s mc ms (fm_A K s.heap.size)) (F0 m pc ls rest) q :=
  vx_out (fun x h => (hout x h).elim) hlk hce hcv hcl (fun t ht hvm => ⟨σ, trivial, ⟨ho, by rw [ht]; exact hH.1, hH.2.1, va_K.moved hvm hst.1⟩, hH.2.2.F ht⟩) hH.2.2.2.2 hc hs
theorem fm_outV {E : String} {ce : Cell} {q : Addr} {o : fm_OV} {mc ms : Nat} {Qc : Array Value → State → Outcome → State → Prop} (hout : ∀ x ∈ c.exceptionTable.toList, False) (hlk : meth.locks = false) (hst : fm_st K (fm_A K s.heap.size) s s.heap) (hH : fm_H K σ (fm_A K s.heap.size) s H locs) (ho : o = .error (E, σ)) (hce : H[q]? = some ce) (hcv : ce.vm = .none) (hcl : s.vm.findClass E = some ce.cls) (hc : cells ≤ mc) (hs : slots ≤ ms) :
    vx_W p l e R s m args below meth c H locs cells slots (vx_MQ below Qc (fm_ZV K o s.heap.size) args s mc ms (fm_A K s.heap.size)) (F0 m pc ls rest) q :=
  vx_out (fun x h => (hout x h).elim) hlk hce hcv hcl (fun t ht hvm => ⟨σ, trivial, ⟨ho, by rw [ht]; exact hH.1, hH.2.1, va_K.moved hvm hst.1⟩, hH.2.2.F ht⟩) hH.2.2.2.2 hc hs
/-- the store behind a throw: nothing but the new object -/
theorem fm_thrown (hst : fm_st K (fm_A K s.heap.size) s s.heap) (hH : fm_H K σ (fm_A K s.heap.size) s H locs) {t : State} (hvm : s.vm.Alike t.vm) (h1 : H.size ≤ t.heap.size) (h2 : ∀ q : Nat, q < H.size → t.heap[q]? = H[q]?) : fm_Post K (fm_A K s.heap.size) σ t ∧ va_F (fm_A K s.heap.size) s t :=
  ⟨⟨hH.1.kept (fun k q hk => h2 q.1 ((hH.1 k q hk).lt)), hH.2.1, va_K.moved hvm hst.1⟩, Nat.le_trans hH.2.2.1 h1, fun q hq hn => (h2 q (Nat.lt_of_lt_of_le hq hH.2.2.1)).trans (hH.2.2.2.1 q hq hn)⟩
abbrev fm_names : List String := ["java/lang/RuntimeException", "java/lang/Exception"]
abbrev fm_oddw (cls : String) : List Cond := [.castable cls cls, .declares (Bundle.initS "java/lang/RuntimeException"), .declares (Bundle.initS "java/lang/Exception"), .declares (Bundle.initS "java/lang/Throwable")]
theorem fm_hat {ic : Nat} {cls : String} (h1 : ∀ w ∈ (vx_atS RX4 ic cls fm_names).filter goodWord, w.before args s = true) (h2 : ∀ w ∈ (vx_atS RX4 ic cls fm_names).filter (fun w => !goodWord w), w ∈ fm_oddw cls) (h3 : va_Nw (.castable cls cls) s) (h4 : ∀ x ∈ fm_sup, va_Nw (.declares (Bundle.initS x)) s) : ∀ w ∈ vx_atS RX4 ic cls fm_names, w.before args s = true :=
  vx_hat (B := fm_oddw cls) h1 h2 (vx_c (va_Nw.use rfl h3) (vx_c (va_Nw.use rfl (h4 _ (List.mem_of_getElem? (i := 0) rfl))) (vx_c (va_Nw.use rfl (h4 _ (List.mem_of_getElem? (i := 1) rfl))) (vx_c (va_Nw.use rfl (h4 _ (List.mem_of_getElem? (i := 2) rfl))) vx_n))))
-- calls
theorem fm_ci {r : Int32} {a : Array Value} (hr : va_Run p l e R s m args below meth c H locs cells slots 0 0 (F0 m pc ls st0) rest (fm_QI K r σ' H.size a) (fm_A K H.size)) (hA : ∀ q, fm_A K s.heap.size q → A q) (hH : fm_H K σ A s H locs)
    (kk : ∀ (H1 : Heap) (locs1 : List Loc), fm_H K σ' A s H1 locs1 → W p l e R s m args below meth c H1 locs1 cells slots Q (F0 m (pc + 3) ls (.int r :: rest))) : W p l e R s m args below meth c H locs cells slots Q (F0 m pc ls st0) :=
  va_calli hr hH.2.2 (fun q _ h => fm_sub hA hH.2.2 q h) (fm_sub hA hH.2.2) (fun r' u t H1 locs1 ht _ hp hB _ _ hS => by
    obtain ⟨rfl, rfl⟩ := hp
    exact kk H1 locs1 ⟨by rw [← ht]; exact hB.1, hB.2.1.weaken (fun _ q _ h => fm_sub hA hH.2.2 q.1 h), hS⟩)
theorem fm_cl {r : Int64} {a : Array Value} (hr : va_Run p l e R s m args below meth c H locs cells slots 0 0 (F0 m pc ls st0) rest (fm_QL K r σ' H.size a) (fm_A K H.size)) (hA : ∀ q, fm_A K s.heap.size q → A q) (hH : fm_H K σ A s H locs)
    (kk : ∀ (H1 : Heap) (locs1 : List Loc), fm_H K σ' A s H1 locs1 → W p l e R s m args below meth c H1 locs1 cells slots Q (F0 m (pc + 3) ls (.long r :: rest))) : W p l e R s m args below meth c H locs cells slots Q (F0 m pc ls st0) :=
  va_calll hr hH.2.2 (fun q _ h => fm_sub hA hH.2.2 q h) (fm_sub hA hH.2.2) (fun r' u t H1 locs1 ht _ hp hB _ _ hS => by
    obtain ⟨rfl, rfl⟩ := hp
    exact kk H1 locs1 ⟨by rw [← ht]; exact hB.1, hB.2.1.weaken (fun _ q _ h => fm_sub hA hH.2.2 q.1 h), hS⟩)
theorem fm_cv {a : Array Value} (hr : va_Run p l e R s m args below meth c H locs cells slots 0 0 (F0 m pc ls st0) rest (fm_QV K σ' H.size a) (fm_A K H.size)) (hA : ∀ q, fm_A K s.heap.size q → A q) (hH : fm_H K σ A s H locs)
    (kk : ∀ (H1 : Heap) (locs1 : List Loc), fm_H K σ' A s H1 locs1 → W p l e R s m args below meth c H1 locs1 cells slots Q (F0 m (pc + 3) ls rest)) : W p l e R s m args below meth c H locs cells slots Q (F0 m pc ls st0) :=
  va_callv hr hH.2.2 (fun q _ h => fm_sub hA hH.2.2 q h) (fm_sub hA hH.2.2) (fun u t H1 locs1 ht _ hp hB _ _ hS => by
    obtain rfl := hp
    exact kk H1 locs1 ⟨by rw [← ht]; exact hB.1, hB.2.1.weaken (fun _ q _ h => fm_sub hA hH.2.2 q.1 h), hS⟩)
theorem fm_cxi {a : Array Value} {o : fm_OI} {mc ms : Nat} (hr : vx_Run p l e R s m args below meth c H locs cells slots mc ms (F0 m pc ls st0) rest (fm_YI K o H.size a) (fm_ZI K o H.size) (fm_A K H.size)) (hA : ∀ q, fm_A K s.heap.size q → A q) (hH : fm_H K σ A s H locs)
    (kx : ∀ (E : String) (σ1 : fm_S) (ce : Cell) (q9 : Addr) (H1 : Heap) (locs1 : List Loc), o = .error (E, σ1) → fm_H K σ1 A s H1 locs1 → H1[q9]? = some ce → ce.vm = .none → s.vm.findClass E = some ce.cls → vx_W p l e R s m args below meth c H1 locs1 (cells + mc) (slots + ms) Q (F0 m pc ls rest) q9)
    (kk : ∀ (r : Int32) (σ1 : fm_S) (H1 : Heap) (locs1 : List Loc), o = .ok (r, σ1) → fm_H K σ1 A s H1 locs1 → W p l e R s m args below meth c H1 locs1 (cells + mc) (slots + ms) Q (F0 m (pc + 3) ls (.int r :: rest))) : W p l e R s m args below meth c H locs cells slots Q (F0 m pc ls st0) :=
  vx_calli hr hH.2.2 (fun q _ h => fm_sub hA hH.2.2 q h) (fm_sub hA hH.2.2) (fun q _ h => fm_sub hA hH.2.2 q h)
    (fun E ce q9 u t H1 locs1 ht _ _ hB _ _ hS hce hcv hcl => kx E u ce q9 H1 locs1 hB.1 ⟨by rw [← ht]; exact hB.2.1, hB.2.2.1.weaken (fun _ q _ h => fm_sub hA hH.2.2 q.1 h), hS⟩ hce hcv hcl)
    (fun r' u t H1 locs1 ht _ hp hB _ _ hS => kk r' u H1 locs1 hp ⟨by rw [← ht]; exact hB.1, hB.2.1.weaken (fun _ q _ h => fm_sub hA hH.2.2 q.1 h), hS⟩)
theorem fm_cxv {a : Array Value} {o : fm_OV} {mc ms : Nat} (hr : vx_Run p l e R s m args below meth c H locs cells slots mc ms (F0 m pc ls st0) rest (fm_YV K o H.size a) (fm_ZV K o H.size) (fm_A K H.size)) (hA : ∀ q, fm_A K s.heap.size q → A q) (hH : fm_H K σ A s H locs)
    (kx : ∀ (E : String) (σ1 : fm_S) (ce : Cell) (q9 : Addr) (H1 : Heap) (locs1 : List Loc), o = .error (E, σ1) → fm_H K σ1 A s H1 locs1 → H1[q9]? = some ce → ce.vm = .none → s.vm.findClass E = some ce.cls → vx_W p l e R s m args below meth c H1 locs1 (cells + mc) (slots + ms) Q (F0 m pc ls rest) q9)
    (kk : ∀ (σ1 : fm_S) (H1 : Heap) (locs1 : List Loc), o = .ok σ1 → fm_H K σ1 A s H1 locs1 → W p l e R s m args below meth c H1 locs1 (cells + mc) (slots + ms) Q (F0 m (pc + 3) ls rest)) : W p l e R s m args below meth c H locs cells slots Q (F0 m pc ls st0) :=
  vx_callv hr hH.2.2 (fun q _ h => fm_sub hA hH.2.2 q h) (fm_sub hA hH.2.2) (fun q _ h => fm_sub hA hH.2.2 q h)
    (fun E ce q9 u t H1 locs1 ht _ _ hB _ _ hS hce hcv hcl => kx E u ce q9 H1 locs1 hB.1 ⟨by rw [← ht]; exact hB.2.1, hB.2.2.1.weaken (fun _ q _ h => fm_sub hA hH.2.2 q.1 h), hS⟩ hce hcv hcl)
    (fun u t H1 locs1 ht _ hp hB _ _ hS => kk u H1 locs1 hp ⟨by rw [← ht]; exact hB.1, hB.2.1.weaken (fun _ q _ h => fm_sub hA hH.2.2 q.1 h), hS⟩)
end
-- a mirror's rows
theorem mi_pos {α : Type} {c : Prop} [Decidable c] {a b : Option α} {r : α} (hc : c) (h : (if c then a else b) = some r) : a = some r := by rwa [if_pos hc] at h
theorem mi_neg {α : Type} {c : Prop} [Decidable c] {a b : Option α} {r : α} (hc : ¬ c) (h : (if c then a else b) = some r) : b = some r := by rwa [if_neg hc] at h
theorem mi_chk {α : Type} {c : Prop} [Decidable c] {b : Option α} {r : α} (h : (if c then none else b) = some r) : ¬ c ∧ b = some r := by
  by_cases hc : c
  · rw [if_pos hc] at h; cases h
  · rw [if_neg hc] at h; exact ⟨hc, h⟩
def mb1 {α γ : Type} (o : Option α) (f : α → Option γ) : Option γ := match o with | none => none | some a => f a
def mb2 {α β γ : Type} (o : Option (α × β)) (f : α → β → Option γ) : Option γ := match o with | none => none | some a => f a.1 a.2
def mb3 {α β δ γ : Type} (o : Option (α × β × δ)) (f : α → β → δ → Option γ) : Option γ := match o with | none => none | some a => f a.1 a.2.1 a.2.2
def mb4 {α β δ ε γ : Type} (o : Option (α × β × δ × ε)) (f : α → β → δ → ε → Option γ) : Option γ := match o with | none => none | some a => f a.1 a.2.1 a.2.2.1 a.2.2.2
def mb5 {α β δ ε ζ γ : Type} (o : Option (α × β × δ × ε × ζ)) (f : α → β → δ → ε → ζ → Option γ) : Option γ := match o with | none => none | some a => f a.1 a.2.1 a.2.2.1 a.2.2.2.1 a.2.2.2.2
theorem mi_b1 {α γ : Type} {o : Option α} {f : α → Option γ} {r : γ} (h : mb1 o f = some r) : ∃ a, o = some a ∧ f a = some r := by
  cases o with
  | none => cases h
  | some a => exact ⟨a, rfl, h⟩
theorem mi_b2 {α β γ : Type} {o : Option (α × β)} {f : α → β → Option γ} {r : γ} (h : mb2 o f = some r) : ∃ a b, o = some (a, b) ∧ f a b = some r := by
  cases o with
  | none => cases h
  | some a => exact ⟨a.1, a.2, rfl, h⟩
theorem mi_b3 {α β δ γ : Type} {o : Option (α × β × δ)} {f : α → β → δ → Option γ} {r : γ} (h : mb3 o f = some r) : ∃ a b d, o = some (a, b, d) ∧ f a b d = some r := by
  cases o with
  | none => cases h
  | some a => exact ⟨a.1, a.2.1, a.2.2, rfl, h⟩
theorem mi_b4 {α β δ ε γ : Type} {o : Option (α × β × δ × ε)} {f : α → β → δ → ε → Option γ} {r : γ} (h : mb4 o f = some r) : ∃ a b d e, o = some (a, b, d, e) ∧ f a b d e = some r := by
  cases o with
  | none => cases h
  | some a => exact ⟨a.1, a.2.1, a.2.2.1, a.2.2.2, rfl, h⟩
theorem mi_b5 {α β δ ε ζ γ : Type} {o : Option (α × β × δ × ε × ζ)} {f : α → β → δ → ε → ζ → Option γ} {r : γ} (h : mb5 o f = some r) : ∃ a b d e z, o = some (a, b, d, e, z) ∧ f a b d e z = some r := by
  cases o with
  | none => cases h
  | some a => exact ⟨a.1, a.2.1, a.2.2.1, a.2.2.2.1, a.2.2.2.2, rfl, h⟩
/-- a loop's end: go on, or leave the method with an answer -/
def ml1 {α ρ γ : Type} (o : Option (Except ρ α)) (f : α → Option γ) (g : ρ → Option γ) : Option γ := match o with | none => none | some (.error r) => g r | some (.ok a) => f a
theorem mi_l1 {α ρ γ : Type} {o : Option (Except ρ α)} {f : α → Option γ} {g : ρ → Option γ} {r : γ} (h : ml1 o f g = some r) : ∃ x, o = some x ∧ (∀ a, x = .ok a → f a = some r) ∧ (∀ a, x = .error a → g a = some r) := by
  cases o with
  | none => cases h
  | some x =>
    refine ⟨x, rfl, ?_, ?_⟩
    · intro a ha; subst ha; exact h
    · intro a ha; subst ha; exact h
def ml2 {α β ρ γ : Type} (o : Option (Except ρ (α × β))) (f : α → β → Option γ) (g : ρ → Option γ) : Option γ := match o with | none => none | some (.error r) => g r | some (.ok a) => f a.1 a.2
theorem mi_l2 {α β ρ γ : Type} {o : Option (Except ρ (α × β))} {f : α → β → Option γ} {g : ρ → Option γ} {r : γ} (h : ml2 o f g = some r) : ∃ x, o = some x ∧ (∀ a b, x = .ok (a, b) → f a b = some r) ∧ (∀ a, x = .error a → g a = some r) := by
  cases o with
  | none => cases h
  | some x =>
    refine ⟨x, rfl, ?_, ?_⟩
    · intro a b ha; subst ha; exact h
    · intro a ha; subst ha; exact h
def ml3 {α β δ ρ γ : Type} (o : Option (Except ρ (α × β × δ))) (f : α → β → δ → Option γ) (g : ρ → Option γ) : Option γ := match o with | none => none | some (.error r) => g r | some (.ok a) => f a.1 a.2.1 a.2.2
theorem mi_l3 {α β δ ρ γ : Type} {o : Option (Except ρ (α × β × δ))} {f : α → β → δ → Option γ} {g : ρ → Option γ} {r : γ} (h : ml3 o f g = some r) : ∃ x, o = some x ∧ (∀ a b d, x = .ok (a, b, d) → f a b d = some r) ∧ (∀ a, x = .error a → g a = some r) := by
  cases o with
  | none => cases h
  | some x =>
    refine ⟨x, rfl, ?_, ?_⟩
    · intro a b d ha; subst ha; exact h
    · intro a ha; subst ha; exact h
/-- a call that may throw: the exception goes on -/
def mx {ε α γ : Type} (o : Option (Except ε α)) (f : α → Option (Except ε γ)) : Option (Except ε γ) := match o with | none => none | some (.error x) => some (.error x) | some (.ok a) => f a
theorem mi_x {ε α γ : Type} {o : Option (Except ε α)} {f : α → Option (Except ε γ)} {r : Except ε γ} (h : mx o f = some r) : ∃ x, o = some x ∧ (∀ a, x = .ok a → f a = some r) ∧ (∀ a, x = .error a → r = .error a) := by
  cases o with
  | none => cases h
  | some x =>
    refine ⟨x, rfl, ?_, ?_⟩
    · intro a ha; subst ha; exact h
    · intro a ha; subst ha; exact (Option.some.inj h).symm
theorem fm_bad205 : ∀ w ∈ (vx_atS RX4 205 "java/lang/IndexOutOfBoundsException" fm_names).filter (fun w => !goodWord w), w ∈ fm_oddw "java/lang/IndexOutOfBoundsException" := by decide +kernel
theorem fm_bad210 : ∀ w ∈ (vx_atS RX4 210 "java/lang/IllegalArgumentException" fm_names).filter (fun w => !goodWord w), w ∈ fm_oddw "java/lang/IllegalArgumentException" := by decide +kernel
theorem fm_bad98 : ∀ w ∈ (vx_atS RX4 98 "java/lang/IllegalStateException" fm_names).filter (fun w => !goodWord w), w ∈ fm_oddw "java/lang/IllegalStateException" := by decide +kernel
theorem fm_bad200 : ∀ w ∈ fx_at200.filter (fun w => !goodWord w), w ∈ fm_oddw "java/util/NoSuchElementException" := by decide +kernel
/-- more rounds than any loop here needs -/
def fF : Nat := 1000
end FMC
