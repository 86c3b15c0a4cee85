section FMJ
def cAO (ty : FieldType) (U : State) : Prop := (Cond.arrayOver (.array ty)).before #[] U = true
theorem cAO.moved {ty : FieldType} {u U : State} (hvm : u.vm.Alike U.vm) (h : cAO ty u) : cAO ty U := by
  obtain ⟨comp, c, k, h1, h2, h3, h4, h5⟩ := Stand.arrayOver_specB h
  obtain ⟨k', hk', he⟩ := hvm.2.2 _ _ h3
  have e1 := va_idx_bare U.vm comp
  have e2 := va_idx_bare u.vm comp
  have e3 : U.vm.bare = u.vm.bare := by first | exact hvm.bare_eq | exact hvm.bare_eq.symm
  rw [e3] at e1
  have hi : (U.vm.classes.findIdx? fun (x : Class) => match x.kind with | .array component _ => component == comp | _ => false) = some c := (e1.symm.trans e2).trans h2
  have hkind : k'.kind = .array comp (.array ty) := by rw [he]; exact h4
  have f1 : U.vm.findClass (FieldType.array ty).toString = some comp := by rw [hvm.findClass]; exact h1
  have f2 : U.vm.findClass ("[" ++ (FieldType.array ty).toString) = some c := by rw [hvm.findClass]; exact h5
  unfold cAO Cond.before Cond.holds
  simp only [Cond.value]
  rw [f1, Option.bind_some]
  refine (congrArg (fun o : Option Nat => (o.bind (fun c => (U.vm.classes[c]?).map fun (k : Class) => match k.kind with | .array _ ty' => decide (ty' = FieldType.array ty) && decide (U.vm.findClass ("[" ++ (FieldType.array ty).toString) = some c) | _ => false) == some true)) hi).trans ?_
  simp [hk', hkind, f2]
def c_nest : List (String × Nat × MethodName) := [(RX4, 42, yX1_init), (RX4, 65, yX2_init), (RX4, 72, yX0_init), (RX4, 79, yX3_init)]
def cX (K : fm_K) (U : State) : Prop := fm_Kn K U ∧ (∀ t ∈ c_nest, va_Nw (.methodLinkNest t.1 t.2.1 t.2.2 "Formationist") U) ∧ cAO .int U ∧ cAO .long U
theorem cX.warm {K : fm_K} {s U : State} (hW : s.WarmedH U.vm) (h : cX K s) : cX K U := ⟨va_K.moved hW.alike h.1, fun t ht => va_Nw.warmM hW (h.2.1 t ht), cAO.moved hW.alike h.2.2.1, cAO.moved hW.alike h.2.2.2⟩
theorem cX.call {K : fm_K} {U : State} {g : JFrame} {mk : MethodId} {a : Array Value} (h : cX K U) : cX K (U.calling g mk a) := ⟨va_K.moved (u := U) (U := U.calling g mk a) (Vm.Alike.refl U.vm) h.1, fun t ht => va_Nw.same rfl rfl (h.2.1 t ht), cAO.moved (Vm.Alike.refl U.vm) h.2.2.1, cAO.moved (Vm.Alike.refl U.vm) h.2.2.2⟩
def cPre (K : fm_K) (n : Nat) (f : Nat → va_E) (U : State) : Prop := cW K n f U.heap ∧ cX K U
theorem cblind {as : List Value} {K : fm_K} {n : Nat} {f : Nat → va_E} : FrameBlind (va_Pc as (cPre K n f)) := by
  intro a U g mk h
  obtain ⟨h0, h1, h2⟩ := h
  exact ⟨h0, h1, h2.call⟩
def cQ (K : fm_K) (n : Nat) (f : Nat → va_E) : Array Value → State → Outcome → State → Prop := va_Qv (fun _ : Unit => True) (fun _ t => cW K n f t.heap) (cA K)
abbrev cM (l : Launch) (y : MethodName) (ws : List Cond) (rm : Room) (K : fm_K) (as : List Value) (n : Nat) (f : Nat → va_E) (n' : Nat) (f' : Nat → va_E) (mc ms : Nat) : Prop := Met l y ws rm (va_Pc as (cPre K n f)) (cQ K n' f') mc ms (cA K)
theorem c_start {l : Launch} {y : MethodName} {ws ws' : List Cond} {rm : Room} {K : fm_K} {as : List Value} {n n' : Nat} {f f' : Nat → va_E} {cc : ByteArray} {maxL mc ms : Nat} {ret : Option FieldType}
    (hy : plainName y.cls = true) (hw : ws = Cond.code y cc maxL ret :: ws') (hn : (lg_sl as).length ≤ maxL)
    (body : ∀ (p : Program) (e : Env) (s : State) (m : MethodId) (args : Array Value) (below : List Frame) (meth : Method) (c : Code), CallFix p m c cc maxL s args ws y.cls → meth.sig.returnType = ret → meth.locks = false → meth.name = y.name → cX K s → cH K n f s s.heap [] → ∀ ls, lv_has ls maxL (lv_args 0 as) →
      W p l e rm s m args below meth c s.heap [] 0 0 (MQ below (cQ K n' f') args s mc ms (cA K)) (F0 m 0 ls [])) : cM l y ws rm K as n f n' f' mc ms := by
  refine Met.ofW (cc := cc) (maxL := maxL) (ret := ret) hy hw ?_
  intro p e s m args below meth c s₁ B hml hv
  obtain ⟨rfl, hP, hX⟩ := hv
  have hl := lv_entry as hn
  rw [lg_entry_eq]
  generalize (lg_sl as ++ List.replicate (maxL - (lg_sl as).length) Slot.unset).toArray = ls at hl ⊢
  exact body p e s m _ below meth c ⟨B.exec, B.bytes, hml, findClass_of_methodNamed B.named, atoms_spec (ws := ws) B.pre⟩ B.returns B.notSynchronized (name_of_methodNamed B.named B.method).1 hX ⟨hP, va_S.rf⟩ ls hl
section
variable {p : Program} {l : Launch} {e : Env} {R : Room} {s : State} {m : MethodId} {args : Array Value} {below : List Frame} {meth : Method} {c : Code} {H : Heap} {locs : List Loc} {cells slots : Nat} {Q : State → Prop}
variable {cc : ByteArray} {pc : Nat} {ls : Array Slot} {rest st0 : List Value} {K : fm_K}
theorem c_vret {n : Nat} {f : Nat → va_E} (hx : p.tables.exec = Jvm.exec) (hb : c.code = cc) (hr : meth.sig.returnType = none) (hlk : meth.locks = false) (hH : cH K n f s H locs) (hdg : decode cc pc = .ok (.return_, 1)) :
    W p l e R s m args below meth c H locs cells slots (MQ below (cQ K n f) args s cells slots (cA K)) (F0 m pc ls []) :=
  W.vret hx hb hr (fun t ht _ => ⟨⟨(), rfl, trivial, by show cW K n f t.heap; rw [ht]; exact hH.1⟩, hH.2.F ht⟩) hH.2.2.2 hdg hlk
theorem c_call {a : Array Value} {n n' : Nat} {f f' : Nat → va_E} {mc ms : Nat} (hr : va_Run p l e R s m args below meth c H locs cells slots mc ms (F0 m pc ls st0) rest (cQ K n' f' a) (cA K)) (hH : cH K n f s H locs)
    (kk : ∀ (H1 : Heap) (locs1 : List Loc), cH K n' f' s H1 locs1 → W p l e R s m args below meth c H1 locs1 (cells + mc) (slots + ms) Q (F0 m (pc + 3) ls rest)) : W p l e R s m args below meth c H locs cells slots Q (F0 m pc ls st0) :=
  va_callv hr hH.2 (fun q _ h => h) (fun q h => h) (fun _ t H1 locs1 ht _ _ hB _ _ hS => kk H1 locs1 ⟨by rw [← ht]; exact hB, hS⟩)
end
theorem c_n1 : ∀ i, i < 64 → ¬ ((64 : Int32) ≤ nI i) := by decide +kernel
theorem c_n2 : ∀ i, i < 8 → ¬ ((8 : Int32) ≤ nI i) := by decide +kernel
theorem c_n3 : ∀ i, i < 64 → nI i + 1 = nI (i + 1) := by decide +kernel
theorem c_n4 : ∀ i, i < 64 → (nI i).toNatClampNeg = i ∧ ¬ nI i < 0 := by decide +kernel
theorem c_up (x : Int32) (i : Nat) : upd (fun b => if b < i then x else 0) i x = fun b => if b < i + 1 then x else 0 := by
  funext b
  unfold upd
  by_cases h : b = i
  · subst h; simp
  · by_cases h2 : b < i
    · simp [h, h2, show b < i + 1 by omega]
    · simp [h, h2, show ¬ b < i + 1 by omega]
abbrev rmJ7_fill9 : Room := { frames := 0, cells := 0, slots := 0, locals := 0 }
set_option maxHeartbeats 600000 in
theorem c_fill (l : Launch) {K : fm_K} (hm : cMo K) {n q : Nat} (hq : q < n) (F : Nat → va_E) (x : Int32) : cM l yJ7_fill_53178 wsJ7_fill_53178 rmJ7_fill9 K [.ref (K.2.2.2 q), .int x] n (cU F q (.inl (K.2.2.1 0, 8, .inl (fun _ => 0)))) n (cU F q (.inl (K.2.2.1 0, 8, .inl (fun b => if b < 8 then x else 0)))) 0 0 := by
  refine c_start (cc := cJ7_fill_53178) (maxL := 4) (ret := none) (by decide) rfl (Nat.le_of_ble_eq_true rfl) ?_
  intro p e s m args below meth c C hr hlk hnm0 hX hH ls hl
  have C : CallFix p m c cJ7_fill_53178 4 s args wsJ7_fill_53178 RJ7 := C
  obtain ⟨hx, hb, hml, hown, hts⟩ := id C
  have hl : lv_has ls 4 [(0, .ref (K.2.2.2 q)), (1, .int x)] := hl
  generalize hQ : MQ below _ args s _ _ _ = Q
  refine lv_iconst (v := 0) hx hb dJ7_fill_53178_0 (by decide) ?_
  refine lv_istore_n (lv' := [(2, .int (0 : Int32)), (0, .ref (K.2.2.2 q)), (1, .int x)]) hx hb dJ7_fill_53178_1 rfl hl (by decide) rfl (fun ls hl => ?_)
  refine lv_aload_n hx hb dJ7_fill_53178_2 rfl (lv_at hl 1 rfl) ?_
  refine va_alen (x := (8, .inl (fun _ => 0))) (cA := K.2.2.1 0) (ty := .int) (v := 8) hx hb hX.1 (c_one hH hq) 0 0 (by rw [cU_s]; rfl) rfl rfl dJ7_fill_53178_3 ?_
  refine lv_istore_n (lv' := [(3, .int (8 : Int32)), (2, .int (0 : Int32)), (0, .ref (K.2.2.2 q)), (1, .int x)]) hx hb dJ7_fill_53178_4 rfl hl (by decide) rfl (fun ls hl => ?_)
  have L : ∀ d i, i + d = 8 → ∀ (ls : Array Slot) (H : Heap) (locs : List Loc), lv_has ls 4 [(3, .int (8 : Int32)), (2, .int (nI i)), (0, .ref (K.2.2.2 q)), (1, .int x)] → cH K n (cU F q (.inl (K.2.2.1 0, 8, .inl (fun b => if b < i then x else 0)))) s H locs → W p l e rmJ7_fill9 s m args below meth c H locs 0 0 Q (F0 m 5 ls []) := by
    intro d
    induction d with
    | zero =>
      intro i hi ls H locs hl hH
      have hi : i = 8 := by omega
      subst hi
      refine lv_iload_n hx hb dJ7_fill_53178_5 rfl (lv_at hl 1 rfl) ?_
      refine lv_iload_n hx hb dJ7_fill_53178_6 rfl (lv_at hl 0 rfl) ?_
      refine lv_icmp_ge (tgt := 20) hx hb dJ7_fill_53178_7 (by decide) (fun hc => ?_) (fun hc => absurd (by decide) hc)
      subst hQ
      exact c_vret hx hb hr hlk hH dJ7_fill_53178_20
    | succ d ih =>
      intro i hi ls H locs hl hH
      have hi8 : i < 8 := by omega
      refine lv_iload_n hx hb dJ7_fill_53178_5 rfl (lv_at hl 1 rfl) ?_
      refine lv_iload_n hx hb dJ7_fill_53178_6 rfl (lv_at hl 0 rfl) ?_
      refine lv_icmp_ge (tgt := 20) hx hb dJ7_fill_53178_7 (by decide) (fun hc => absurd hc (c_n2 i hi8)) (fun hc => ?_)
      refine lv_aload_n hx hb dJ7_fill_53178_10 rfl (lv_at hl 2 rfl) ?_
      refine lv_iload_n hx hb dJ7_fill_53178_11 rfl (lv_at hl 1 rfl) ?_
      refine lv_iload_n hx hb dJ7_fill_53178_12 rfl (lv_at hl 3 rfl) ?_
      obtain ⟨e1, e2⟩ := c_n4 i (by omega)
      refine c_ist hm hx hb hX.1 q (g' := fun b => if b < i + 1 then x else 0) hH hq (by rw [e1]; exact fun h => h.elim (fun h => e2 h) (fun h => by omega)) (by rw [e1]; exact c_up x i) dJ7_fill_53178_13 (fun H locs hH => ?_)
      refine lv_iinc (v := nI i + 1) (lv' := [(2, .int (nI i + 1)), (3, .int (8 : Int32)), (0, .ref (K.2.2.2 q)), (1, .int x)]) hx hb dJ7_fill_53178_14 hl (k := 1) rfl rfl (by decide) rfl (fun ls hl => ?_)
      refine lv_goto (tgt := 5) hx hb dJ7_fill_53178_17 (by decide) ?_
      rw [c_n3 i (by omega)] at hl
      exact ih (i + 1) (by omega) _ _ _ (lv_sub hl [1, 0, 2, 3] rfl) hH
  exact L 8 0 rfl ls _ _ (lv_sub hl [0, 1, 2, 3] rfl) (by simpa using hH)

abbrev rmX1_init : Room := { frames := 1, cells := 1, slots := 8, locals := 16 }
set_option maxHeartbeats 600000 in
set_option maxRecDepth 100000 in
theorem c_X1_init (l : Launch) {K : fm_K} (hm : cMo K) {k0 : Nat} {F : Nat → va_E} (hf : F k0 = .inr (1, [.ref (K.2.2.2 (k0 + 1))])) (h1 : F (k0 + 1) = .inl (K.2.2.1 0, 8, .inl (fun _ => 0))) : cM l yX1_init wsX1_init rmX1_init K [.ref (K.2.2.2 k0)] (k0 + 1) (cU F k0 (.inr (1, [.null]))) (k0 + 2) (F) 1 8 := by
  refine c_start (cc := cX1_init) (maxL := 1) (ret := none) (by decide) rfl (Nat.le_of_ble_eq_true rfl) ?_
  intro p e s m args below meth c C hr hlk hin2 hX hH ls hl
  have C : CallFix p m c cX1_init 1 s args wsX1_init RX1 := C
  obtain ⟨hx, hb, hml, hown, hts⟩ := id C
  have hl : lv_has ls 1 [(0, .ref (K.2.2.2 k0))] := hl
  refine lv_aload_n hx hb dX1_init_0 rfl (lv_at hl 0 rfl) ?_
  refine W.objInit hx hb hown (hts (.methodLink RX1 3 objectInit) (List.mem_of_getElem? (i := 1) rfl)) (hts (.instanceMethod objectInit) (List.mem_of_getElem? (i := 2) rfl)) (hts _ (List.mem_of_getElem? (i := 3) rfl)) rfl (by rw [hml]; exact hl.1) rfl dX1_init_1 (Nat.le_of_ble_eq_true rfl) (Nat.le_of_ble_eq_true rfl) ?_
  refine W.eq (g2 := F0 m 4 ls []) rfl ?_
  refine lv_aload_n hx hb dX1_init_4 rfl (lv_at hl 0 rfl) ?_
  refine lv_bipush (v := 8) hx hb dX1_init_5 (by decide) ?_
  refine c_newa hm (atype := .int) (N := 8) (a0 := (8, .inl (fun _ => 0))) hx hb (hts (.arrayClass .int) (List.mem_of_getElem? (i := 4) rfl)) (hX.1.2 0 _ rfl).2 hH (cU_n (by omega) |>.trans h1) (fun cI => rfl) (by decide) rfl (by decide) (Nat.le_of_ble_eq_true rfl) (Nat.le_of_ble_eq_true rfl) dX1_init_7 (fun H hH => ?_)
  refine W.widen (k := 1) (n := 8) (by omega) (by omega) ?_
  refine c_putF hm (T := TX1) (N := 1) (ty := .array .int) hx hb hts (fun _ h => List.mem_cons_of_mem _ (List.mem_append_right _ h)) tyX1 tyX1_ok nmX1 hown hX.1 k0 (fs := [.null]) (fs' := [.ref (K.2.2.2 (k0 + 1))]) hH (by omega) rfl 0 (by decide) (List.mem_of_getElem? (i := 5) rfl) rfl rfl hin2 rfl (by decide +kernel) rfl rfl (Nat.le_of_ble_eq_true rfl) rfl dX1_init_9 (fun H locs hH => ?_)
  rw [cU_self hf] at hH
  exact c_vret hx hb hr hlk hH dX1_init_12
abbrev rmX2_init : Room := { frames := 1, cells := 3, slots := 24, locals := 16 }
set_option maxHeartbeats 600000 in
set_option maxRecDepth 100000 in
theorem c_X2_init (l : Launch) {K : fm_K} (hm : cMo K) {k0 : Nat} {F : Nat → va_E} (hf : F k0 = .inr (2, [.ref (K.2.2.2 (k0 + 1)), .ref (K.2.2.2 (k0 + 2)), .ref (K.2.2.2 (k0 + 3))])) (h1 : F (k0 + 1) = .inl (K.2.2.1 0, 8, .inl (fun _ => 0))) (h2 : F (k0 + 2) = .inl (K.2.2.1 0, 8, .inl (fun _ => 0))) (h3 : F (k0 + 3) = .inl (K.2.2.1 0, 8, .inl (fun _ => 0))) : cM l yX2_init wsX2_init rmX2_init K [.ref (K.2.2.2 k0)] (k0 + 1) (cU F k0 (.inr (2, [.null, .null, .null]))) (k0 + 4) (F) 3 24 := by
  refine c_start (cc := cX2_init) (maxL := 1) (ret := none) (by decide) rfl (Nat.le_of_ble_eq_true rfl) ?_
  intro p e s m args below meth c C hr hlk hin2 hX hH ls hl
  have C : CallFix p m c cX2_init 1 s args wsX2_init RX2 := C
  obtain ⟨hx, hb, hml, hown, hts⟩ := id C
  have hl : lv_has ls 1 [(0, .ref (K.2.2.2 k0))] := hl
  refine lv_aload_n hx hb dX2_init_0 rfl (lv_at hl 0 rfl) ?_
  refine W.objInit hx hb hown (hts (.methodLink RX2 3 objectInit) (List.mem_of_getElem? (i := 1) rfl)) (hts (.instanceMethod objectInit) (List.mem_of_getElem? (i := 2) rfl)) (hts _ (List.mem_of_getElem? (i := 3) rfl)) rfl (by rw [hml]; exact hl.1) rfl dX2_init_1 (Nat.le_of_ble_eq_true rfl) (Nat.le_of_ble_eq_true rfl) ?_
  refine W.eq (g2 := F0 m 4 ls []) rfl ?_
  refine lv_aload_n hx hb dX2_init_4 rfl (lv_at hl 0 rfl) ?_
  refine lv_bipush (v := 8) hx hb dX2_init_5 (by decide) ?_
  refine c_newa hm (atype := .int) (N := 8) (a0 := (8, .inl (fun _ => 0))) hx hb (hts (.arrayClass .int) (List.mem_of_getElem? (i := 4) rfl)) (hX.1.2 0 _ rfl).2 hH (cU_n (by omega) |>.trans h1) (fun cI => rfl) (by decide) rfl (by decide) (Nat.le_of_ble_eq_true rfl) (Nat.le_of_ble_eq_true rfl) dX2_init_7 (fun H hH => ?_)
  refine W.widen (k := 1) (n := 8) (by omega) (by omega) ?_
  refine c_putF hm (T := TX2) (N := 3) (ty := .array .int) hx hb hts (fun _ h => List.mem_cons_of_mem _ (List.mem_append_right _ h)) tyX2 tyX2_ok nmX2 hown hX.1 k0 (fs := [.null, .null, .null]) (fs' := [.ref (K.2.2.2 (k0 + 1)), .null, .null]) hH (by omega) rfl 0 (by decide) (List.mem_of_getElem? (i := 5) rfl) rfl rfl hin2 rfl (by decide +kernel) rfl rfl (Nat.le_of_ble_eq_true rfl) rfl dX2_init_9 (fun H locs hH => ?_)
  refine lv_aload_n hx hb dX2_init_12 rfl (lv_at hl 0 rfl) ?_
  refine lv_bipush (v := 8) hx hb dX2_init_13 (by decide) ?_
  refine c_newa hm (atype := .int) (N := 8) (a0 := (8, .inl (fun _ => 0))) hx hb (hts (.arrayClass .int) (List.mem_of_getElem? (i := 4) rfl)) (hX.1.2 0 _ rfl).2 hH (cU_n (by omega) |>.trans h2) (fun cI => rfl) (by decide) rfl (by decide) (Nat.le_of_ble_eq_true rfl) (Nat.le_of_ble_eq_true rfl) dX2_init_15 (fun H hH => ?_)
  refine W.widen (k := 2) (n := 16) (by omega) (by omega) ?_
  refine c_putF hm (T := TX2) (N := 3) (ty := .array .int) hx hb hts (fun _ h => List.mem_cons_of_mem _ (List.mem_append_right _ h)) tyX2 tyX2_ok nmX2 hown hX.1 k0 (fs := [.ref (K.2.2.2 (k0 + 1)), .null, .null]) (fs' := [.ref (K.2.2.2 (k0 + 1)), .ref (K.2.2.2 (k0 + 2)), .null]) hH (by omega) rfl 1 (by decide) (List.mem_of_getElem? (i := 6) rfl) rfl rfl hin2 rfl (by decide +kernel) rfl rfl (Nat.le_of_ble_eq_true rfl) rfl dX2_init_17 (fun H locs hH => ?_)
  refine lv_aload_n hx hb dX2_init_20 rfl (lv_at hl 0 rfl) ?_
  refine lv_bipush (v := 8) hx hb dX2_init_21 (by decide) ?_
  refine c_newa hm (atype := .int) (N := 8) (a0 := (8, .inl (fun _ => 0))) hx hb (hts (.arrayClass .int) (List.mem_of_getElem? (i := 4) rfl)) (hX.1.2 0 _ rfl).2 hH (cU_n (by omega) |>.trans h3) (fun cI => rfl) (by decide) rfl (by decide) (Nat.le_of_ble_eq_true rfl) (Nat.le_of_ble_eq_true rfl) dX2_init_23 (fun H hH => ?_)
  refine W.widen (k := 3) (n := 24) (by omega) (by omega) ?_
  refine c_putF hm (T := TX2) (N := 3) (ty := .array .int) hx hb hts (fun _ h => List.mem_cons_of_mem _ (List.mem_append_right _ h)) tyX2 tyX2_ok nmX2 hown hX.1 k0 (fs := [.ref (K.2.2.2 (k0 + 1)), .ref (K.2.2.2 (k0 + 2)), .null]) (fs' := [.ref (K.2.2.2 (k0 + 1)), .ref (K.2.2.2 (k0 + 2)), .ref (K.2.2.2 (k0 + 3))]) hH (by omega) rfl 2 (by decide) (List.mem_of_getElem? (i := 7) rfl) rfl rfl hin2 rfl (by decide +kernel) rfl rfl (Nat.le_of_ble_eq_true rfl) rfl dX2_init_25 (fun H locs hH => ?_)
  rw [cU_self hf] at hH
  exact c_vret hx hb hr hlk hH dX2_init_28
abbrev rmX0_init : Room := { frames := 1, cells := 1, slots := 256, locals := 16 }
set_option maxHeartbeats 600000 in
set_option maxRecDepth 100000 in
theorem c_X0_init (l : Launch) {K : fm_K} (hm : cMo K) {k0 : Nat} {F : Nat → va_E} (hf : F k0 = .inr (0, [.ref (K.2.2.2 (k0 + 1))])) (h1 : F (k0 + 1) = .inl (K.2.2.1 0, 256, .inl (fun _ => 0))) : cM l yX0_init wsX0_init rmX0_init K [.ref (K.2.2.2 k0)] (k0 + 1) (cU F k0 (.inr (0, [.null]))) (k0 + 2) (F) 1 256 := by
  refine c_start (cc := cX0_init) (maxL := 1) (ret := none) (by decide) rfl (Nat.le_of_ble_eq_true rfl) ?_
  intro p e s m args below meth c C hr hlk hin2 hX hH ls hl
  have C : CallFix p m c cX0_init 1 s args wsX0_init RX0 := C
  obtain ⟨hx, hb, hml, hown, hts⟩ := id C
  have hl : lv_has ls 1 [(0, .ref (K.2.2.2 k0))] := hl
  refine lv_aload_n hx hb dX0_init_0 rfl (lv_at hl 0 rfl) ?_
  refine W.objInit hx hb hown (hts (.methodLink RX0 3 objectInit) (List.mem_of_getElem? (i := 1) rfl)) (hts (.instanceMethod objectInit) (List.mem_of_getElem? (i := 2) rfl)) (hts _ (List.mem_of_getElem? (i := 3) rfl)) rfl (by rw [hml]; exact hl.1) rfl dX0_init_1 (Nat.le_of_ble_eq_true rfl) (Nat.le_of_ble_eq_true rfl) ?_
  refine W.eq (g2 := F0 m 4 ls []) rfl ?_
  refine lv_aload_n hx hb dX0_init_4 rfl (lv_at hl 0 rfl) ?_
  refine lv_sipush (v := 256) hx hb dX0_init_5 (by decide) ?_
  refine c_newa hm (atype := .int) (N := 256) (a0 := (256, .inl (fun _ => 0))) hx hb (hts (.arrayClass .int) (List.mem_of_getElem? (i := 4) rfl)) (hX.1.2 0 _ rfl).2 hH (cU_n (by omega) |>.trans h1) (fun cI => rfl) (by decide) rfl (by decide) (Nat.le_of_ble_eq_true rfl) (Nat.le_of_ble_eq_true rfl) dX0_init_8 (fun H hH => ?_)
  refine W.widen (k := 1) (n := 256) (by omega) (by omega) ?_
  refine c_putF hm (T := TX0) (N := 1) (ty := .array .int) hx hb hts (fun _ h => List.mem_cons_of_mem _ (List.mem_append_right _ h)) tyX0 tyX0_ok nmX0 hown hX.1 k0 (fs := [.null]) (fs' := [.ref (K.2.2.2 (k0 + 1))]) hH (by omega) rfl 0 (by decide) (List.mem_of_getElem? (i := 5) rfl) rfl rfl hin2 rfl (by decide +kernel) rfl rfl (Nat.le_of_ble_eq_true rfl) rfl dX0_init_10 (fun H locs hH => ?_)
  rw [cU_self hf] at hH
  exact c_vret hx hb hr hlk hH dX0_init_13
abbrev rmX3_init : Room := { frames := 1, cells := 9, slots := 72, locals := 16 }
set_option maxHeartbeats 600000 in
set_option maxRecDepth 100000 in
theorem c_X3_init (l : Launch) {K : fm_K} (hm : cMo K) {k0 : Nat} {F : Nat → va_E} (hf : F k0 = .inr (3, [.ref (K.2.2.2 (k0 + 1))])) (h1 : F (k0 + 1) = .inl (K.2.2.1 4, 8, .inr (.inr (.inr (.inr (fun i => if i < 8 then some (K.2.2.2 (k0 + 1 + 1 + i)) else none)))))) (h2 : ∀ i, i < 8 → F (k0 + 1 + 1 + i) = .inl (K.2.2.1 2, 8, .inr (.inl (fun _ => 0)))) : cM l yX3_init wsX3_init rmX3_init K [.ref (K.2.2.2 k0)] (k0 + 1) (cU F k0 (.inr (3, [.null]))) (k0 + 10) (F) 9 72 := by
  refine c_start (cc := cX3_init) (maxL := 1) (ret := none) (by decide) rfl (Nat.le_of_ble_eq_true rfl) ?_
  intro p e s m args below meth c C hr hlk hin2 hX hH ls hl
  have C : CallFix p m c cX3_init 1 s args wsX3_init RX3 := C
  obtain ⟨hx, hb, hml, hown, hts⟩ := id C
  have hl : lv_has ls 1 [(0, .ref (K.2.2.2 k0))] := hl
  refine lv_aload_n hx hb dX3_init_0 rfl (lv_at hl 0 rfl) ?_
  refine W.objInit hx hb hown (hts (.methodLink RX3 3 objectInit) (List.mem_of_getElem? (i := 1) rfl)) (hts (.instanceMethod objectInit) (List.mem_of_getElem? (i := 2) rfl)) (hts _ (List.mem_of_getElem? (i := 3) rfl)) rfl (by rw [hml]; exact hl.1) rfl dX3_init_1 (Nat.le_of_ble_eq_true rfl) (Nat.le_of_ble_eq_true rfl) ?_
  refine W.eq (g2 := F0 m 4 ls []) rfl ?_
  refine lv_aload_n hx hb dX3_init_4 rfl (lv_at hl 0 rfl) ?_
  refine lv_bipush (v := 8) hx hb dX3_init_5 (by decide) ?_
  refine lv_bipush (v := 8) hx hb dX3_init_7 (by decide) ?_
  refine c_mna hm (ty := .long) (z := (8, .inr (.inl (fun _ => 0)))) hx hb hown (hts (.classLink RX3 9 "[[J") (List.mem_of_getElem? (i := 4) rfl)) hX.2.2.2 (hts (.arrayClass .long) (List.mem_of_getElem? (i := 5) rfl)) (hX.1.2 4 _ rfl).2 (hX.1.2 2 _ rfl).2 hH (cU_n (by omega) |>.trans h1) (fun i hi => cU_n (by omega) |>.trans (h2 i hi)) (by decide) (by decide) (by decide) (Nat.le_of_ble_eq_true rfl) (Nat.le_of_ble_eq_true rfl) (fun cI => (arrV_new cI 8 (.long 0)).trans rfl) dX3_init_9 (fun H hH => ?_)
  refine W.widen (k := 9) (n := 72) (by omega) (by omega) ?_
  refine c_putF hm (T := TX3) (N := 1) (ty := .array (.array .long)) hx hb hts (fun _ h => List.mem_cons_of_mem _ (List.mem_append_right _ h)) tyX3 tyX3_ok nmX3 hown hX.1 k0 (fs := [.null]) (fs' := [.ref (K.2.2.2 (k0 + 1))]) hH (by omega) rfl 0 (by decide) (List.mem_of_getElem? (i := 6) rfl) rfl rfl hin2 rfl (by decide +kernel) rfl rfl (Nat.le_of_ble_eq_true rfl) rfl dX3_init_13 (fun H locs hH => ?_)
  rw [cU_self hf] at hH
  exact c_vret hx hb hr hlk hH dX3_init_16
end FMJ
