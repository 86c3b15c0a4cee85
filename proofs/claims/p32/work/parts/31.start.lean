section FMS
theorem fs_arr {ty : FieldType} {args : Array Value} {s : State} (h : (Cond.arrayClass ty).before args s = true) (hr : ∀ cA : ClassId, s.vm.findClass ("[" ++ ty.toString) = some cA → va_RA s cA ty) : ∃ cA : ClassId, ArrOfT s cA ty ∧ va_RA s cA ty := by
  obtain ⟨c, k, comp, h1, h2, h3⟩ := Cond.arrayClass_spec (args := args) (first := s) (o := none) (s := s) (idx := []) h
  exact ⟨c, fun n z => ⟨fun k h => (by cases h), k, h2, comp, h3⟩, hr c h1⟩
theorem fs_over {ty : FieldType} {args : Array Value} {s : State} (h : (Cond.arrayOver (.array ty)).before args s = true) : ∃ cA : ClassId, ArrOfT s cA (.array ty) ∧ va_RA s cA (.array ty) := by
  obtain ⟨comp, c, k, h1, h2, h3, h4, h5⟩ := Stand.arrayOver_specB (args := args) (first := s) (o := none) (s := s) (idx := []) h
  exact ⟨c, fun n z => ⟨fun k h => (by cases h), k, h3, comp, h4⟩, h5⟩
theorem fs_str {args : Array Value} {s : State} {k : Nat} {tx : String} (h1 : (Cond.stringRef RX4 k tx).before args s = true) (h2 : (Cond.exactly (.string RX4 k) "java/lang/String").before args s = true) : ∃ a, vk_R RX4 k tx a s := by
  obtain ⟨a, c, cA, kA, q1, -⟩ := Cond.exactly_spec (args := args) (first := s) (o := none) (s := s) (idx := []) h2
  exact ⟨a, vk_R.of (A := args) h1 q1⟩
theorem fs_in {K : fm_K} (hn : fm_n K = 0) {q : Nat} (h : fm_in K q) : q < 43 := by
  have h1 := List.mem_of_getElem? h
  unfold fm_ids at h1
  rw [hn] at h1
  rcases List.mem_append.mp h1 with h1 | h1
  · exact List.mem_range.mp h1
  · cases h1
theorem fs_P {K : fm_K} {σ : fm_S} {s : State} {H : Heap} {locs : List Loc} (hm : cMo K) (hn : fm_n K = 0) (h : cH K 43 (fm_ce K σ) s H locs) : fm_H K σ (cA K) s H locs := by
  refine ⟨fun k q hq => ?_, ⟨fun i j p q hi hj e => ?_, fun k q hq => ?_⟩, h.2⟩
  · obtain ⟨q9, h1, -, rfl⟩ := fm_getN K σ hq
    exact h.1.2 q9 (fs_in hn h1)
  · obtain ⟨q1, h1, p1, rfl⟩ := fm_getN K σ hi
    obtain ⟨q2, h2, p2, rfl⟩ := fm_getN K σ hj
    have e : K.2.2.2 q1 = K.2.2.2 q2 := e
    rw [hm q1, hm q2] at e
    rw [← p1, ← p2, show q1 = q2 by omega]
  · obtain ⟨q9, h1, -, rfl⟩ := fm_getN K σ hq
    show K.2.2.2 0 ≤ K.2.2.2 q9
    rw [hm q9]; omega
def fs_pick {α : Type} (a b c d e f : α) (n : Nat) : α := match n with
  | 0 => a | 1 => b | 2 => c | 3 => d | 4 => e | _ => f
theorem fs_n4 : ∀ j, j < 18 → defaultValue (tyX4 j) = vp_V [.null, .null, .null, .null, .null, .null, .null, .null, .null, .null, .int 0, .int 0, .null, .null, .null, .null, .null, .null] j := by
  intro j hj
  match j, hj with
  | 0, _ => rfl
  | 1, _ => rfl
  | 2, _ => rfl
  | 3, _ => rfl
  | 4, _ => rfl
  | 5, _ => rfl
  | 6, _ => rfl
  | 7, _ => rfl
  | 8, _ => rfl
  | 9, _ => rfl
  | 10, _ => rfl
  | 11, _ => rfl
  | 12, _ => rfl
  | 13, _ => rfl
  | 14, _ => rfl
  | 15, _ => rfl
  | 16, _ => rfl
  | 17, _ => rfl
  | n + 18, h => exact absurd h (by omega)
def R_law : String := "FormationistLaw"
def lw_P (b : Addr) (xs : List Int32) (args : Array Value) (s : State) : Prop := args = #[.ref b] ∧ s.IntsAt b xs ∧ xs.length ≤ 260 ∧ (Jvm.Cond.and given_1 narrow_1).before args s = true
def lw_Q (_ : Array Value) (s : State) (o : Outcome) (t : State) : Prop := o = .returned (some (.int 1)) ∧ Framed s o t [] 600130 7301080
def lw_Z (below : List Frame) (a : Array Value) (s : State) : State → Prop := fun t => ∃ o, t.status = .running ∧ Ended t below o ∧ lw_Q a s o t
/-- the law's own end, with 1 on the stack, nothing written that was there before, its room as the claim has it -/
theorem lw_ret {p : Program} {l : Launch} {e : Env} {s : State} {m : MethodId} {below : List Frame} {meth : Method} {c : Code} {b : Nat} (hx : p.tables.exec = Jvm.exec) (hb : c.code = code) (hr : meth.sig.returnType = ret) (hlocks : meth.locks = false) {pc : Nat} {H : Heap} {ls : Array Slot} (hdg : decode code pc = .ok (.ireturn, 1)) : W p l e room_1 s m #[Value.ref b] below meth c H [] 600130 7301080 (lw_Z below #[Value.ref b] s) (F0 m pc ls [.int 1]) := by
  intro T hT X
  obtain ⟨fs, hret, hrun, hended, hW, hframe⟩ := X.leave (v := some (.int 1)) (hlocks := hlocks) (fun h => by rw [hr] at h; cases h)
  have hmeth' : T.vm.method? m = some meth := X.method'
  refine ⟨T.setFrames fs, ?_, .returned (some (.int 1)), hrun, hended, rfl, ⟨_, rfl⟩, hW, hframe⟩
  jvm_step X.here [X.here.top, hx, hb, hdg, hmeth', hr, ret, narrow_b1]
  (try refine ⟨rfl, ?_⟩); (try refine ⟨rfl, ?_⟩)
  first | (intro acts; rw [hret _ acts rfl rfl rfl]) | rw [hret _ _ rfl rfl rfl]
  exact Steps.refl _
/-- what holds at the law's entry: the machine, the code, the tables' words (any of lw_tbl by 'hts w (by decide +kernel)'), the script of L ints xs at the cell b, what the Statement gives of the start (any of its parts by flat_of_before) -/
def lw_At (p : Program) (s : State) (m : MethodId) (meth : Method) (c : Code) (b L : Nat) (xs : Nat → Int32) : Prop :=
  p.tables.exec = Jvm.exec ∧ c.code = code ∧ meth.sig.returnType = ret ∧ c.maxLocals = 1 ∧ s.vm.findClass R_law = some m.cls ∧ (∀ w ∈ lw_tbl, w.before #[Value.ref b] s = true) ∧ va_X b L xs s s.heap ∧ b < s.heap.size ∧ meth.locks = false ∧ (Jvm.Cond.and given_1 narrow_1).before #[Value.ref b] s = true
theorem fs_t1 : ∀ t ∈ fm_nest, Cond.methodLinkNest t.1 t.2.1 t.2.2 "Formationist" ∈ lw_tbl := by decide +kernel
theorem fs_t2 : ∀ t ∈ c_nest, Cond.methodLinkNest t.1 t.2.1 t.2.2 "Formationist" ∈ lw_tbl := by decide +kernel
theorem fs_t3 : ∀ x ∈ fm_strs, Cond.stringRef RX4 x.1 x.2 ∈ lw_tbl := by decide +kernel
theorem fs_t4 : ∀ x ∈ fm_strs, Cond.exactly (.string RX4 x.1) "java/lang/String" ∈ flatC (Jvm.Cond.and given_1 narrow_1) := by decide +kernel
theorem fs_t5 : ∀ x ∈ fm_exs, Cond.castable x x ∈ lw_tbl := by decide +kernel
theorem fs_t6 : ∀ x ∈ fm_ncs, Cond.not (.castable x.1 x.2) ∈ flatC (Jvm.Cond.and given_1 narrow_1) := by decide +kernel
theorem fs_t7 : ∀ x ∈ fm_sup, Cond.declares (Bundle.initS x) ∈ lw_tbl := by decide +kernel
theorem fs_t8 : Cond.laysStatic Bundle.tN "UNASSIGNED_STACK" Bundle.steD ∈ lw_tbl ∧ Cond.laysStatic Bundle.tN "SUPPRESSED_SENTINEL" Bundle.listD ∈ lw_tbl ∧ Cond.initialized Bundle.tN ∈ lw_tbl := by decide +kernel
theorem fs_t9 : Cond.isRef (.static Bundle.tN "UNASSIGNED_STACK" Bundle.steD) ∈ flatC (Jvm.Cond.and given_1 narrow_1) ∧ Cond.isRef (.static Bundle.tN "SUPPRESSED_SENTINEL" Bundle.listD) ∈ flatC (Jvm.Cond.and given_1 narrow_1) := by decide +kernel
theorem fs_t10 : Cond.arrayOver (.array .int) ∈ lw_tbl ∧ Cond.arrayOver (.array .long) ∈ lw_tbl := by decide +kernel
theorem fm_st_call {K : fm_K} {A : Nat → Prop} {U : State} {g : JFrame} {mk : MethodId} {a : Array Value} (h : fm_st K A U U.heap) : fm_st K A (U.calling g mk a) (U.calling g mk a).heap := by
  obtain ⟨h4, h5, h6, h7, h8, h9, h10, h11, h12⟩ := h
  have hal : U.vm.Alike (U.calling g mk a).vm := Vm.Alike.refl U.vm
  exact ⟨va_K.moved hal h4, fun t ht => va_Nw.same rfl rfl (h5 t ht), vx_Zq.moved hal h6, vx_Zq.moved hal h7, fun x hx => by
    obtain ⟨a9, ha⟩ := h8 x hx
    exact ⟨a9, vk_R.same rfl ha⟩, fun x hx => va_Nw.same rfl rfl (h9 x hx), fun x hx => va_Nc.moved hal (h10 x hx), fun x hx => va_Nw.same rfl rfl (h11 x hx), h12.1.moved hal, h12.2⟩
/-- ahead of all making -/
def hPre (K : fm_K) (U : State) : Prop := U.heap.size = K.2.2.2 0 ∧ cX K U ∧ fm_st K (cA K) U U.heap
theorem hblind {as : List Value} {K : fm_K} : FrameBlind (va_Pc as (hPre K)) := by
  intro a U g mk h
  obtain ⟨h0, h1, h2, h3⟩ := h
  exact ⟨h0, h1, h2.call, fm_st_call h3⟩
theorem hpre {K : fm_K} {s : State} {as : List Value} (hz : s.heap.size = K.2.2.2 0) (hX : cX K s) (hst : fm_st K (cA K) s s.heap) : ∀ U : State, U.heap = s.heap → s.WarmedH U.vm → va_Pc as (hPre K) as.toArray U := fun U hU hW =>
  ⟨rfl, by rw [hU]; exact hz, hX.warm hW, fm_st_at (A' := cA K) hst va_S.rf (fun _ h => h) hU hW⟩
def hQ1 (K : fm_K) (r : Int32) : Array Value → State → Outcome → State → Prop := va_Qi (fun (r' : Int32) (_ : Unit) => r' = r) (fun _ _ => True) (cA K)
set_option maxHeartbeats 4000000 in
set_option maxRecDepth 100000 in
theorem kL_holds (l : Launch) (hfl : l.stackTraces = false) {K : fm_K} (hm : cMo K) (hn : fm_n K = 0) {b L : Nat} {xs : Nat → Int32} (hsc : fm_scr K b L xs) {r : Int32} {σ' : fm_S} (h : mL_holds xs L (cσ 8 0) = some (r, σ')) : Met l yL_holds wsL_holds rmL_holds (va_Pc [.ref b] (hPre K)) (hQ1 K r) 900 7100 (cA K) := by
  refine Met.ofW (cc := cL_holds) (maxL := 10) (ret := some .boolean) (by decide) rfl ?_
  intro p e s m args below meth c s₁ B hml hv
  obtain ⟨rfl, hz, hX, hst⟩ := hv
  have hl := lv_entry [.ref b] (n := 10) (Nat.le_of_ble_eq_true rfl)
  rw [lg_entry_eq]
  generalize (lg_sl [.ref b] ++ List.replicate (10 - (lg_sl [.ref b]).length) Slot.unset).toArray = ls at hl ⊢
  have hl : lv_has ls 10 [(0, .ref b)] := hl
  have C : CallFix p m c cL_holds 10 s _ wsL_holds RL := ⟨B.exec, B.bytes, hml, findClass_of_methodNamed B.named, atoms_spec (ws := wsL_holds) B.pre⟩
  obtain ⟨hx, hb, hml, hown, hts⟩ := id C
  have hr := B.returns
  have hlk := B.notSynchronized
  have hK := hst.1
  have hH : cH K 0 (fm_ce K (cσ 0 0)) s s.heap [] := ⟨⟨hz, fun q h => absurd h (by omega)⟩, va_S.rf⟩
  generalize hQ : MQ below _ _ s _ _ _ = Q
  refine c_new hm (ci := 4) (fs := [.null, .null, .null, .null, .null, .null, .null, .null, .null, .null, .int 0, .int 0, .null, .null, .null, .null, .null, .null]) (C := RX4) (T := TX4) (N := 18) hx hb hts (fun _ h => List.mem_cons_of_mem _ (List.mem_append_left _ (List.mem_append_left _ (List.mem_append_left _ (List.mem_append_left _ (List.mem_append_left _ (List.mem_append_left _ (List.mem_append_left _ (List.mem_append_left _ (List.mem_append_right _ h)))))))))) tyX4 tyX4_ok hown (hts (.classLink RL 39 RX4) (List.mem_of_getElem? (i := 1) rfl)) (hts (.instantiable RX4 18) (List.mem_of_getElem? (i := 2) rfl)) (hts (.initialized RX4) (List.mem_of_getElem? (i := 3) rfl)) hK hH rfl fs_n4 (Nat.le_of_ble_eq_true rfl) (Nat.le_of_ble_eq_true rfl) dL_holds_0 (fun H hH => ?_)
  refine W.widen (k := 1) (n := 18) (Nat.le_of_ble_eq_true rfl) (Nat.le_of_ble_eq_true rfl) ?_
  refine lv_dup hx hb dL_holds_3 rfl ?_
  refine c_call (va_runI (As := []) (rest := [.ref (K.2.2.2 0)]) C (c_X4_init l hm) (cwI 0 hts ggL_holds_X4_init rfl rfl rfl (hts (.initialized RX4) (List.mem_of_getElem? (i := 3) rfl)) (hts (.methodLink RL 167 yX4_init) (List.mem_of_getElem? (i := 6) rfl)) (hts (.instanceMethod yX4_init) (List.mem_of_getElem? (i := 7) rfl)) rfl (by decide +kernel) ⟨(Nat.le_of_ble_eq_true rfl), (Nat.le_of_ble_eq_true rfl)⟩) ⟨cblind, cpre hX hH⟩ rfl rfl hl.1 rfl (lv_room (Nat.le_of_ble_eq_true rfl)) dL_holds_4 ⟨(Nat.le_of_ble_eq_true rfl), (Nat.le_of_ble_eq_true rfl)⟩) hH (fun H locs hH => ?_)
  refine W.widen (k := 40) (n := 545) (Nat.le_of_ble_eq_true rfl) (Nat.le_of_ble_eq_true rfl) ?_
  refine lv_astore_n (lv' := [(1, .ref (K.2.2.2 0)), (0, .ref b)]) hx hb dL_holds_7 rfl hl (by decide) rfl (fun ls hl => ?_)
  refine lv_bipush (v := 48) hx hb dL_holds_8 (by decide) ?_
  refine c_newa hm (atype := .int) (N := 48) (a0 := (48, .inl (fun _ => 0))) hx hb (hts (.arrayClass .int) (List.mem_of_getElem? (i := 4) rfl)) (hK.2 0 _ rfl).2 hH (cF1 K 8 0 40 (by decide) (by decide) (by decide) rfl rfl) (fun cI => rfl) (by decide) rfl (by decide) (Nat.le_of_ble_eq_true rfl) (Nat.le_of_ble_eq_true rfl) dL_holds_10 (fun H hH => ?_)
  refine W.widen (k := 41) (n := 593) (Nat.le_of_ble_eq_true rfl) (Nat.le_of_ble_eq_true rfl) ?_
  refine lv_astore_n (lv' := [(2, .ref (K.2.2.2 40)), (1, .ref (K.2.2.2 0)), (0, .ref b)]) hx hb dL_holds_12 rfl hl (by decide) rfl (fun ls hl => ?_)
  refine lv_bipush (v := 25) hx hb dL_holds_13 (by decide) ?_
  refine c_newa hm (atype := .int) (N := 25) (a0 := (25, .inl (fun _ => 0))) hx hb (hts (.arrayClass .int) (List.mem_of_getElem? (i := 4) rfl)) (hK.2 0 _ rfl).2 hH (cF1 K 8 0 41 (by decide) (by decide) (by decide) rfl rfl) (fun cI => rfl) (by decide) rfl (by decide) (Nat.le_of_ble_eq_true rfl) (Nat.le_of_ble_eq_true rfl) dL_holds_15 (fun H hH => ?_)
  refine W.widen (k := 42) (n := 618) (Nat.le_of_ble_eq_true rfl) (Nat.le_of_ble_eq_true rfl) ?_
  refine lv_astore_n (lv' := [(3, .ref (K.2.2.2 41)), (2, .ref (K.2.2.2 40)), (1, .ref (K.2.2.2 0)), (0, .ref b)]) hx hb dL_holds_17 rfl hl (by decide) rfl (fun ls hl => ?_)
  refine lv_bipush (v := 25) hx hb dL_holds_18 (by decide) ?_
  refine c_newa hm (atype := .int) (N := 25) (a0 := (25, .inl (fun _ => 0))) hx hb (hts (.arrayClass .int) (List.mem_of_getElem? (i := 4) rfl)) (hK.2 0 _ rfl).2 hH (cF1 K 8 0 42 (by decide) (by decide) (by decide) rfl rfl) (fun cI => rfl) (by decide) rfl (by decide) (Nat.le_of_ble_eq_true rfl) (Nat.le_of_ble_eq_true rfl) dL_holds_20 (fun H hH => ?_)
  refine W.widen (k := 43) (n := 643) (Nat.le_of_ble_eq_true rfl) (Nat.le_of_ble_eq_true rfl) ?_
  refine lv_astore (lv' := [(4, .ref (K.2.2.2 42)), (3, .ref (K.2.2.2 41)), (2, .ref (K.2.2.2 40)), (1, .ref (K.2.2.2 0)), (0, .ref b)]) hx hb dL_holds_22 hl (by decide) rfl (fun ls hl => ?_)
  have hH := fs_P hm hn hH
  have hA : ∀ q, fm_A K s.heap.size q → cA K q := fun q h => by
    show K.2.2.2 0 ≤ q
    rcases h with ⟨k, _, rfl⟩ | h
    · rw [hm k]; omega
    · rw [← hz]; exact h
  refine wL_holds hsc hfl C hst hA hn h (fun H locs ls pc hd hnar hH => ?_) _ _ _ hl hH
  subst hQ
  exact W.zret (ty := .boolean) hx hb hr (congrArg Value.int hnar) (fun t ht hW => ⟨⟨r, (), rfl, rfl, trivial⟩, hH.2.2.F ht⟩) hH.2.2.2.2 hd hlk
abbrev rmL_isHeld : Room := { frames := 10, cells := 900, slots := 7100, locals := 249 }
set_option maxHeartbeats 4000000 in
set_option maxRecDepth 100000 in
theorem kL_isHeld (l : Launch) (hfl : l.stackTraces = false) {K : fm_K} (hm : cMo K) (hn : fm_n K = 0) {b L : Nat} {xs : Nat → Int32} (hsc : fm_scr K b L xs) {r : Int32} {σ' : fm_S} (hnar : vp_nar .boolean r = r) (h : mL_holds xs L (cσ 8 0) = some (r, σ')) : Met l yL_isHeld wsL_isHeld rmL_isHeld (va_Pc [.ref b] (hPre K)) (hQ1 K r) 900 7100 (cA K) := by
  refine va_MetW (cc := cL_isHeld) (maxL := 2) (ret := some .boolean) (hh := [(0, 4, 5, 193), (0, 4, 8, 195), (0, 4, 11, 197)]) (by decide) rfl ?_
  intro p e s m args below meth c s₁ B hml hv
  obtain ⟨rfl, hz, hX, hst⟩ := hv
  have hl := lv_entry [.ref b] (n := 2) (Nat.le_of_ble_eq_true rfl)
  rw [lg_entry_eq]
  generalize (lg_sl [.ref b] ++ List.replicate (2 - (lg_sl [.ref b]).length) Slot.unset).toArray = ls at hl ⊢
  have hl : lv_has ls 2 [(0, .ref b)] := hl
  have C : CallFix p m c cL_isHeld 2 s _ wsL_isHeld RL := ⟨B.exec, B.bytes, hml, findClass_of_methodNamed B.named, atoms_spec (ws := wsL_isHeld) B.pre⟩
  obtain ⟨hx, hb, hml, hown, hts⟩ := id C
  have hr := B.returns
  have hlk := B.notSynchronized
  generalize hQ : MQ below _ _ s _ _ _ = Q
  refine lv_aload_n hx hb dL_isHeld_0 rfl (lv_at hl 0 rfl) ?_
  refine va_calli (va_runS (As := [.ref b]) (rest := []) C (kL_holds l hfl hm hn hsc h) (va_cwS 1 hts gL_isHeld_L_holds rfl rfl rfl (by decide +kernel) ⟨(Nat.le_of_ble_eq_true rfl), (Nat.le_of_ble_eq_true rfl)⟩) ⟨hblind, hpre hz hX hst⟩ rfl rfl hl.1 rfl (lv_room (Nat.le_of_ble_eq_true rfl)) dL_isHeld_1 ⟨(Nat.le_of_ble_eq_true rfl), (Nat.le_of_ble_eq_true rfl)⟩) (va_S.rf (A := cA K)) (fun _ _ h => h) (fun _ h => h) (fun r' u t H1 locs1 ht _ hp _ _ _ hS => ?_)
  cases hp
  subst hQ
  refine W.widen (k := 900) (n := 7100) (Nat.le_of_ble_eq_true rfl) (Nat.le_of_ble_eq_true rfl) ?_
  exact W.zret (ty := .boolean) hx hb hr (congrArg Value.int hnar) (fun t ht hW => ⟨⟨r, (), rfl, rfl, trivial⟩, hS.F ht⟩) hS.2.2 dL_isHeld_4 hlk
theorem fs_t11 : Cond.arrayClass .int ∈ wsL_law ∧ Cond.arrayClass .boolean ∈ wsL_law ∧ Cond.arrayClass .long ∈ wsL_law := ⟨List.mem_of_getElem? (i := 13) rfl, List.mem_of_getElem? (i := 23) rfl, List.mem_of_getElem? (i := 71) rfl⟩
set_option maxHeartbeats 4000000 in
set_option maxRecDepth 100000 in
theorem whole_start0 {p : Program} {e : Env} {s : State} {m : MethodId} {below : List Frame} {meth : Method} {c : Code} (l : Launch) (hflags : l.flags = flags0) {b L : Nat} {xs : Nat → Int32} {σ' : fm_S} (hlaw : mL_holds xs L (cσ 8 0) = some (1, σ')) (C0 : lw_At p s m meth c b L xs) : W p l e room_1 s m #[Value.ref b] below meth c s.heap [] 0 0 (lw_Z below #[Value.ref b] s) (entryFrame m ([Value.ref b] : List Value).toArray 1) := by
  obtain ⟨hx, hb, hr, hml, hown, htsL, hXs, hbl, hlk, hgv⟩ := C0
  have hfl : l.stackTraces = false := by
    unfold Launch.stackTraces
    rw [hflags]
    decide +kernel
  have hq := flat_of_before _ hgv
  have hts : ∀ w ∈ wsL_law, w.before #[Value.ref b] s = true := fun w h => htsL w (wsL_law_in w h)
  have C : CallFix p m c cL_law 1 s #[Value.ref b] wsL_law RL := ⟨hx, hb, hml, hown, hts⟩
  obtain ⟨c0, i0, k0⟩ := u_known (C := RX0) (T := TX0) (N := 1) hts (fun w h => inlX0 w h) (htsL (.instantiable RX0 1) (by decide +kernel))
  obtain ⟨c1, i1, k1⟩ := u_known (C := RX1) (T := TX1) (N := 1) hts (fun w h => inlX1 w h) (htsL (.instantiable RX1 1) (by decide +kernel))
  obtain ⟨c2, i2, k2⟩ := u_known (C := RX2) (T := TX2) (N := 3) hts (fun w h => inlX2 w h) (htsL (.instantiable RX2 3) (by decide +kernel))
  obtain ⟨c3, i3, k3⟩ := u_known (C := RX3) (T := TX3) (N := 1) hts (fun w h => inlX3 w h) (htsL (.instantiable RX3 1) (by decide +kernel))
  obtain ⟨c4, i4, k4⟩ := u_known (C := RX4) (T := TX4) (N := 18) hts (fun w h => inlX4 w h) (htsL (.instantiable RX4 18) (by decide +kernel))
  obtain ⟨a0, r0, s0⟩ := fs_arr (hts _ fs_t11.1) (fun _ h => h)
  obtain ⟨a1, r1, s1⟩ := fs_arr (hts _ fs_t11.2.1) (fun _ h => h)
  obtain ⟨a2, r2, s2⟩ := fs_arr (hts _ fs_t11.2.2) (fun _ h => h)
  obtain ⟨a3, r3, s3⟩ := fs_over (htsL _ fs_t10.1)
  obtain ⟨a4, r4, s4⟩ := fs_over (htsL _ fs_t10.2)
  obtain ⟨K, hKd⟩ : ∃ K : fm_K, K = ((fs_pick c0 c1 c2 c3 c4 c4, (b, L, xs, 0)), fs_pick i0 i1 i2 i3 i4 i4, fs_pick a0 a1 a2 a3 a4 a4, fun q => s.heap.size + q) := ⟨_, rfl⟩
  have had : ∀ q, K.2.2.2 q = s.heap.size + q := fun q => by rw [hKd]
  have hm : cMo K := fun q => by rw [had, had]; omega
  have hn : fm_n K = 0 := by rw [hKd]
  have hsc : fm_scr K b L xs := by rw [hKd]; exact ⟨rfl, rfl, rfl⟩
  have hK : fm_Kn K s := by
    rw [hKd]
    refine ⟨fun k q hq => ?_, fun k q hq => ?_⟩
    · match k, hq with
      | 0, hq => cases hq; exact k0
      | 1, hq => cases hq; exact k1
      | 2, hq => cases hq; exact k2
      | 3, hq => cases hq; exact k3
      | 4, hq => cases hq; exact k4
      | n + 5, hq => cases hq
    · match k, hq with
      | 0, hq => cases hq; exact ⟨r0, s0⟩
      | 1, hq => cases hq; exact ⟨r1, s1⟩
      | 2, hq => cases hq; exact ⟨r2, s2⟩
      | 3, hq => cases hq; exact ⟨r3, s3⟩
      | 4, hq => cases hq; exact ⟨r4, s4⟩
      | n + 5, hq => cases hq
  have hX : cX K s := ⟨hK, fun t ht => va_Nw.of rfl (htsL _ (fs_t2 t ht)), htsL _ fs_t10.1, htsL _ fs_t10.2⟩
  have hA0 : ∀ a : Nat, a < s.heap.size → ¬ cA K a := fun a ha h => by
    have h : K.2.2.2 0 ≤ a := h
    rw [had] at h; omega
  have hXK : va_X K.1.2.1 K.1.2.2.1 K.1.2.2.2.1 s s.heap ∧ K.1.2.1 < s.heap.size ∧ ¬ cA K K.1.2.1 := by
    obtain ⟨e1, e2, e3⟩ := hsc
    rw [e1, e2, e3]
    exact ⟨hXs, hbl, hA0 b hbl⟩
  have hst : fm_st K (cA K) s s.heap := ⟨hK, fun t ht => va_Nw.of rfl (htsL _ (fs_t1 t ht)), vx_Zqof (htsL _ fs_t8.1) (htsL _ fs_t8.2.2) (hq _ fs_t9.1) hA0, vx_Zqof (htsL _ fs_t8.2.1) (htsL _ fs_t8.2.2) (hq _ fs_t9.2) hA0, fun x hx => fs_str (htsL _ (fs_t3 x hx)) (hq _ (fs_t4 x hx)), fun x hx => va_Nw.of rfl (htsL _ (fs_t5 x hx)), fun x hx => va_Nc.of (hq _ (fs_t6 x hx)), fun x hx => va_Nw.of rfl (htsL _ (fs_t7 x hx)), hXK⟩
  have hz : s.heap.size = K.2.2.2 0 := by rw [had]; rfl
  have hl := lv_entry ([.ref b]) (n := 1) (Nat.le_of_ble_eq_true rfl)
  rw [lg_entry_eq]
  generalize (lg_sl ([.ref b]) ++ List.replicate (1 - (lg_sl ([.ref b])).length) Slot.unset).toArray = ls at hl ⊢
  have hl : lv_has ls 1 [(0, .ref b)] := hl
  refine lv_aload_n hx hb dL_law_0 rfl (lv_at hl 0 rfl) ?_
  refine va_calli (vx_runSW (As := [.ref b]) (rest := []) C (kL_isHeld l hfl hm hn hsc (by decide) hlaw) (vx_cwSW 1 hts gL_law_L_isHeld rfl rfl rfl (by decide +kernel) ⟨(Nat.le_of_ble_eq_true rfl), (Nat.le_of_ble_eq_true rfl)⟩) ⟨hblind, hpre hz hX hst⟩ rfl rfl hl.1 rfl (lv_room (Nat.le_of_ble_eq_true rfl)) dL_law_1 ⟨(Nat.le_of_ble_eq_true rfl), (Nat.le_of_ble_eq_true rfl)⟩) (va_S.rf (A := cA K)) (fun _ _ h => h) (fun _ h => h) (fun r' u t H1 locs1 ht _ hp _ _ _ hS => ?_)
  cases hp
  refine va_forget (fun q hq => by have h := hS.2.2 q hq; have h : K.2.2.2 0 ≤ q.base := h; rw [had] at h; omega) ?_
  refine W.widen (k := 600130) (n := 7301080) (Nat.le_of_ble_eq_true rfl) (Nat.le_of_ble_eq_true rfl) ?_
  exact lw_ret hx hb hr hlk dL_law_4
end FMS
