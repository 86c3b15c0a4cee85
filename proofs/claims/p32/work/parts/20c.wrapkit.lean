section FMH
def mh2 {ε α γ : Type} (o : Option (Except (ε × fm_S) (α × fm_S))) (f : α → fm_S → Option γ) (k : ε → fm_S → Option γ) : Option γ := match o with | none => none | some (.error x) => k x.1 x.2 | some (.ok a) => f a.1 a.2
def mh1 {ε γ : Type} (o : Option (Except (ε × fm_S) fm_S)) (f : fm_S → Option γ) (k : ε → fm_S → Option γ) : Option γ := match o with | none => none | some (.error x) => k x.1 x.2 | some (.ok a) => f a
theorem mi_h2 {ε α γ : Type} {o : Option (Except (ε × fm_S) (α × fm_S))} {f : α → fm_S → Option γ} {k : ε → fm_S → Option γ} {r : γ} (h : mh2 o f k = some r) : ∃ x, o = some x ∧ (∀ a σ, x = .ok (a, σ) → f a σ = some r) ∧ (∀ E σ, x = .error (E, σ) → k E σ = some r) := by
  cases o with
  | none => cases h
  | some x =>
    refine ⟨x, rfl, ?_, ?_⟩
    · intro a b ha; subst ha; exact h
    · intro a b ha; subst ha; exact h
theorem mi_h1 {ε γ : Type} {o : Option (Except (ε × fm_S) fm_S)} {f : fm_S → Option γ} {k : ε → fm_S → Option γ} {r : γ} (h : mh1 o f k = some r) : ∃ x, o = some x ∧ (∀ a, x = .ok a → f a = some r) ∧ (∀ E σ, x = .error (E, σ) → k E σ = some r) := by
  cases o with
  | none => cases h
  | some x =>
    refine ⟨x, rfl, ?_, ?_⟩
    · intro a ha; subst ha; exact h
    · intro a b ha; subst ha; exact h
/-- a method that catches what its callee throws: new objects, no exception leaves it -/
def fm_WI (l : Launch) (y : MethodName) (ws : List Cond) (rm : Room) (K : fm_K) (as : List Value) (σ : fm_S) (r : Int32) (σ' : fm_S) (mc ms : Nat) : Prop := ∀ sz, Met l y ws rm (va_Pc as (fm_Pre K σ sz)) (fm_QI K r σ' sz) mc ms (fm_A K sz)
theorem fm_startW {l : Launch} {y : MethodName} {ws ws' : List Cond} {rm : Room} {K : fm_K} {σ : fm_S} {sz : Nat} {as : List Value} {cc : ByteArray} {maxL : Nat} {ret : Option FieldType} {hh : List (Nat × Nat × Nat × Nat)} {Qc : Nat → Array Value → State → Outcome → State → Prop} {mc ms : Nat}
    (hy : plainName y.cls = true) (hw : ws = Cond.codeWith y cc maxL ret hh :: ws') (hn : (lg_sl as).length ≤ maxL)
    (body : ∀ (p : Program) (e : Env) (s : State) (m : MethodId) (args : Array Value) (below : List Frame) (meth : Method) (c : Code), CallFix p m c cc maxL s args ws y.cls → meth.sig.returnType = ret → meth.locks = false → c.exceptionTable.toList = tableOf hh → fm_st K (fm_A K s.heap.size) s s.heap → fm_H K σ (fm_A K s.heap.size) s s.heap [] → ∀ ls, lv_has ls maxL (lv_args 0 as) →
      W p l e rm s m args below meth c s.heap [] 0 0 (MQ below (Qc s.heap.size) args s mc ms (fm_A K s.heap.size)) (F0 m 0 ls [])) : Met l y ws rm (va_Pc as (fm_Pre K σ sz)) (Qc sz) mc ms (fm_A K sz) := by
  refine va_MetW (cc := cc) (maxL := maxL) (ret := ret) (hh := hh) hy hw ?_
  intro p e s m args below meth c s₁ B hml hv
  obtain ⟨rfl, rfl, hP, hD0, hst⟩ := hv
  have hl := lv_entry as hn
  rw [lg_entry_eq]
  generalize (lg_sl as ++ List.replicate (maxL - (lg_sl as).length) Slot.unset).toArray = ls at hl ⊢
  have hts := atoms_spec (ws := ws) B.pre
  exact body p e s m _ below meth c ⟨B.exec, B.bytes, hml, findClass_of_methodNamed B.named, hts⟩ B.returns B.notSynchronized (vx_table (x := y) B (hts _ (by rw [hw]; exact List.mem_cons_self))) hst ⟨hP, ⟨hD0.1, fun k q hq => by
    obtain ⟨q9, h1, -, rfl⟩ := fm_getN K σ hq
    exact Or.inl ⟨q9, h1, rfl⟩⟩, va_S.rf⟩ ls hl
variable {p : Program} {l : Launch} {e : Env} {R : Room} {s : State} {m : MethodId} {args : Array Value} {below : List Frame} {meth : Method} {c : Code} {H : Heap} {locs : List Loc} {cells slots : Nat} {Q : State → Prop}
variable {cc : ByteArray} {pc : Nat} {ls : Array Slot} {rest st0 : List Value} {K : fm_K} {σ σ' : fm_S} {A : Nat → Prop}
theorem fm_iretW {r : Int32} {mc ms : Nat} (hx : p.tables.exec = Jvm.exec) (hb : c.code = cc) (hr : meth.sig.returnType = some .int) (hlk : meth.locks = false) (hst : fm_st K (fm_A K s.heap.size) s s.heap) (hH : fm_H K σ (fm_A K s.heap.size) s H locs) (hc : cells ≤ mc) (hs : slots ≤ ms) (hdg : decode cc pc = .ok (.ireturn, 1)) :
    W p l e R s m args below meth c H locs cells slots (MQ below (fm_QI K r σ s.heap.size) args s mc ms (fm_A K s.heap.size)) (F0 m pc ls [.int r]) :=
  W.widen hc hs (W.iret hx hb hr (fun t ht hW => ⟨⟨r, σ, rfl, ⟨rfl, rfl⟩, by rw [ht]; exact hH.1, hH.2.1, va_K.moved hW.alike hst.1⟩, hH.2.2.F ht⟩) hH.2.2.2.2 hdg hlk)
/-- a call of such a method -/
theorem fm_ciW {r : Int32} {a : Array Value} {mc ms : Nat} (hr : va_Run p l e R s m args below meth c H locs cells slots mc ms (F0 m pc ls st0) rest (fm_QI K r σ' H.size a) (fm_A K H.size)) (hA : ∀ q, fm_A K s.heap.size q → A q) (hH : fm_H K σ A s H locs)
    (kk : ∀ (H1 : Heap) (locs1 : List Loc), fm_H K σ' A s H1 locs1 → W p l e R s m args below meth c H1 locs1 (cells + mc) (slots + ms) Q (F0 m (pc + 3) ls (.int r :: rest))) : W p l e R s m args below meth c H locs cells slots Q (F0 m pc ls st0) :=
  va_calli hr hH.2.2 (fun q _ h => fm_sub hA hH.2.2 q h) (fm_sub hA hH.2.2) (fun r' u t H1 locs1 ht _ hp hB _ _ hS => by
    obtain ⟨rfl, rfl⟩ := hp
    exact kk H1 locs1 ⟨by rw [← ht]; exact hB.1, hB.2.1.weaken (fun _ q _ h => fm_sub hA hH.2.2 q.1 h), hS⟩)
end FMH
