section FMS
theorem fs_arr {ty : FieldType} {args : Array Value} {s : State} (h : (Cond.arrayClass ty).before args s = true) (hr : ∀ cA : ClassId, s.vm.findClass ("[" ++ ty.toString) = some cA → va_RA s cA ty) : ∃ cA : ClassId, ArrOfT s cA ty ∧ va_RA s cA ty := by
  obtain ⟨c, k, comp, h1, h2, h3⟩ := Cond.arrayClass_spec (args := args) (first := s) (o := none) (s := s) (idx := []) h
  exact ⟨c, fun n z => ⟨fun k h => (by cases h), k, h2, comp, h3⟩, hr c h1⟩
theorem fs_over {ty : FieldType} {args : Array Value} {s : State} (h : (Cond.arrayOver (.array ty)).before args s = true) : ∃ cA : ClassId, ArrOfT s cA (.array ty) ∧ va_RA s cA (.array ty) := by
  obtain ⟨comp, c, k, h1, h2, h3, h4, h5⟩ := Stand.arrayOver_specB (args := args) (first := s) (o := none) (s := s) (idx := []) h
  exact ⟨c, fun n z => ⟨fun k h => (by cases h), k, h3, comp, h4⟩, h5⟩
theorem fs_str {args : Array Value} {s : State} {k : Nat} {tx : String} (h1 : (Cond.stringRef RX4 k tx).before args s = true) (h2 : (Cond.exactly (.string RX4 k) "java/lang/String").before args s = true) : ∃ a, vk_R RX4 k tx a s := by
  obtain ⟨a, c, cA, kA, q1, -⟩ := Cond.exactly_spec (args := args) (first := s) (o := none) (s := s) (idx := []) h2
  exact ⟨a, vk_R.of (A := args) h1 q1⟩
theorem fs_P {K : fm_K} {σ : fm_S} {s : State} {H : Heap} {locs : List Loc} (hm : cMo K) (h : cH K 56 (fm_ce K σ) s H locs) : fm_H K σ (cA K) s H locs := by
  refine ⟨fun k q hq => ?_, ⟨fun i j p q hi hj e => ?_, fun k q hq => ?_⟩, h.2⟩
  · obtain ⟨h1, rfl⟩ := fm_getN K σ hq
    exact h.1.2 k h1
  · obtain ⟨h1, rfl⟩ := fm_getN K σ hi
    obtain ⟨h2, rfl⟩ := fm_getN K σ hj
    have e : K.2.2.2 i = K.2.2.2 j := e
    rw [hm i, hm j] at e
    omega
  · obtain ⟨h1, rfl⟩ := fm_getN K σ hq
    show K.2.2.2 0 ≤ K.2.2.2 k
    rw [hm k]; omega
def fs_pick {α : Type} (a b c d e f : α) (n : Nat) : α := match n with
  | 0 => a | 1 => b | 2 => c | 3 => d | 4 => e | _ => f
theorem fs_n4 : ∀ j, j < 18 → defaultValue (tyX4 j) = vp_V [.null, .null, .null, .null, .null, .null, .null, .null, .null, .null, .int 0, .int 0, .null, .null, .null, .null, .null, .null] j := by
  intro j hj
  match j, hj with
  | 0, _ => rfl
  | 1, _ => rfl
  | 2, _ => rfl
  | 3, _ => rfl
  | 4, _ => rfl
  | 5, _ => rfl
  | 6, _ => rfl
  | 7, _ => rfl
  | 8, _ => rfl
  | 9, _ => rfl
  | 10, _ => rfl
  | 11, _ => rfl
  | 12, _ => rfl
  | 13, _ => rfl
  | 14, _ => rfl
  | 15, _ => rfl
  | 16, _ => rfl
  | 17, _ => rfl
  | n + 18, h => exact absurd h (by omega)
theorem fs_n5 : ∀ j, j < 17 → defaultValue (tyX5 j) = vp_V [.null, .null, .null, .null, .null, .null, .null, .null, .null, .null, .int 0, .int 0, .null, .null, .null, .null, .int 0] j := by
  intro j hj
  match j, hj with
  | 0, _ => rfl
  | 1, _ => rfl
  | 2, _ => rfl
  | 3, _ => rfl
  | 4, _ => rfl
  | 5, _ => rfl
  | 6, _ => rfl
  | 7, _ => rfl
  | 8, _ => rfl
  | 9, _ => rfl
  | 10, _ => rfl
  | 11, _ => rfl
  | 12, _ => rfl
  | 13, _ => rfl
  | 14, _ => rfl
  | 15, _ => rfl
  | 16, _ => rfl
  | n + 17, h => exact absurd h (by omega)
def R_law : String := "FormationistLaw"
def lw_P (b : Addr) (xs : List Int32) (args : Array Value) (s : State) : Prop := args = #[.ref b] ∧ s.IntsAt b xs ∧ xs.length ≤ 2048 ∧ (Jvm.Cond.and given_1 narrow_1).before args s = true
def lw_Q (_ : Array Value) (s : State) (o : Outcome) (t : State) : Prop := o = .returned (some (.int 1)) ∧ Framed s o t [] 630926 7203325
def lw_Z (below : List Frame) (a : Array Value) (s : State) : State → Prop := fun t => ∃ o, t.status = .running ∧ Ended t below o ∧ lw_Q a s o t
/-- the law's own end, with 1 on the stack, nothing written that was there before, its room as the claim has it -/
theorem lw_ret {p : Program} {l : Launch} {e : Env} {s : State} {m : MethodId} {below : List Frame} {meth : Method} {c : Code} {b : Nat} (hx : p.tables.exec = Jvm.exec) (hb : c.code = code) (hr : meth.sig.returnType = ret) (hlocks : meth.locks = false) {pc : Nat} {H : Heap} {ls : Array Slot} (hdg : decode code pc = .ok (.ireturn, 1)) : W p l e room_1 s m #[Value.ref b] below meth c H [] 630926 7203325 (lw_Z below #[Value.ref b] s) (F0 m pc ls [.int 1]) := by
  intro T hT X
  obtain ⟨fs, hret, hrun, hended, hW, hframe⟩ := X.leave (v := some (.int 1)) (hlocks := hlocks) (fun h => by rw [hr] at h; cases h)
  have hmeth' : T.vm.method? m = some meth := X.method'
  refine ⟨T.setFrames fs, ?_, .returned (some (.int 1)), hrun, hended, rfl, ⟨_, rfl⟩, hW, hframe⟩
  jvm_step X.here [X.here.top, hx, hb, hdg, hmeth', hr, ret, narrow_b1]
  (try refine ⟨rfl, ?_⟩); (try refine ⟨rfl, ?_⟩)
  first | (intro acts; rw [hret _ acts rfl rfl rfl]) | rw [hret _ _ rfl rfl rfl]
  exact Steps.refl _
/-- what holds at the law's entry: the machine, the code, the tables' words (any of lw_tbl by 'hts w (by decide +kernel)'), the script of L ints xs at the cell b, what the Statement gives of the start (any of its parts by flat_of_before) -/
def lw_At (p : Program) (s : State) (m : MethodId) (meth : Method) (c : Code) (b L : Nat) (xs : Nat → Int32) : Prop :=
  p.tables.exec = Jvm.exec ∧ c.code = code ∧ meth.sig.returnType = ret ∧ c.maxLocals = 7 ∧ s.vm.findClass R_law = some m.cls ∧ (∀ w ∈ lw_tbl, w.before #[Value.ref b] s = true) ∧ va_X b L xs s s.heap ∧ b < s.heap.size ∧ meth.locks = false ∧ (Jvm.Cond.and given_1 narrow_1).before #[Value.ref b] s = true
theorem fs_t1 : ∀ t ∈ fm_nest, Cond.methodLinkNest t.1 t.2.1 t.2.2 "Formationist" ∈ lw_tbl := by decide +kernel
theorem fs_t2 : ∀ t ∈ c_nest, Cond.methodLinkNest t.1 t.2.1 t.2.2 "Formationist" ∈ lw_tbl := by decide +kernel
theorem fs_t3 : ∀ x ∈ fm_strs, Cond.stringRef RX4 x.1 x.2 ∈ lw_tbl := by decide +kernel
theorem fs_t4 : ∀ x ∈ fm_strs, Cond.exactly (.string RX4 x.1) "java/lang/String" ∈ flatC (Jvm.Cond.and given_1 narrow_1) := by decide +kernel
theorem fs_t5 : ∀ x ∈ fm_exs, Cond.castable x x ∈ lw_tbl := by decide +kernel
theorem fs_t6 : ∀ x ∈ fm_ncs, Cond.not (.castable x.1 x.2) ∈ flatC (Jvm.Cond.and given_1 narrow_1) := by decide +kernel
theorem fs_t7 : ∀ x ∈ fm_sup, Cond.declares (Bundle.initS x) ∈ lw_tbl := by decide +kernel
theorem fs_t8 : Cond.laysStatic Bundle.tN "UNASSIGNED_STACK" Bundle.steD ∈ lw_tbl ∧ Cond.laysStatic Bundle.tN "SUPPRESSED_SENTINEL" Bundle.listD ∈ lw_tbl ∧ Cond.initialized Bundle.tN ∈ lw_tbl := by decide +kernel
theorem fs_t9 : Cond.isRef (.static Bundle.tN "UNASSIGNED_STACK" Bundle.steD) ∈ flatC (Jvm.Cond.and given_1 narrow_1) ∧ Cond.isRef (.static Bundle.tN "SUPPRESSED_SENTINEL" Bundle.listD) ∈ flatC (Jvm.Cond.and given_1 narrow_1) := by decide +kernel
theorem fs_t10 : Cond.arrayOver (.array .int) ∈ lw_tbl ∧ Cond.arrayOver (.array .long) ∈ lw_tbl := by decide +kernel
theorem fs_t11 : Cond.arrayClass .int ∈ wsL_law ∧ Cond.arrayClass .boolean ∈ wsL_law ∧ Cond.arrayClass .long ∈ wsL_law := ⟨List.mem_of_getElem? (i := 13) rfl, List.mem_of_getElem? (i := 16) rfl, List.mem_of_getElem? (i := 6) rfl⟩
set_option maxHeartbeats 4000000 in
set_option maxRecDepth 100000 in
theorem whole_start0 {p : Program} {e : Env} {s : State} {m : MethodId} {below : List Frame} {meth : Method} {c : Code} (l : Launch) (hflags : l.flags = flags0) {b L : Nat} {xs : Nat → Int32} (hlaw : mL_law_L xs L fF 0 (cσ 8 64) = some (.ok ())) (C0 : lw_At p s m meth c b L xs) : W p l e room_1 s m #[Value.ref b] below meth c s.heap [] 0 0 (lw_Z below #[Value.ref b] s) (entryFrame m ([Value.ref b] : List Value).toArray 7) := by
  obtain ⟨hx, hb, hr, hml, hown, htsL, hXs, hbl, hlk, hgv⟩ := C0
  have hfl : l.stackTraces = false := by
    unfold Launch.stackTraces
    rw [hflags]
    decide +kernel
  have hq := flat_of_before _ hgv
  have hts : ∀ w ∈ wsL_law, w.before #[Value.ref b] s = true := fun w h => htsL w (wsL_law_in w h)
  have C : CallFix p m c cL_law 7 s #[Value.ref b] wsL_law RL := ⟨hx, hb, hml, hown, hts⟩
  obtain ⟨c0, i0, k0⟩ := u_known (C := RX0) (T := TX0) (N := 1) hts (fun w h => inlX0 w h) (htsL (.instantiable RX0 1) (by decide +kernel))
  obtain ⟨c1, i1, k1⟩ := u_known (C := RX1) (T := TX1) (N := 1) hts (fun w h => inlX1 w h) (htsL (.instantiable RX1 1) (by decide +kernel))
  obtain ⟨c2, i2, k2⟩ := u_known (C := RX2) (T := TX2) (N := 3) hts (fun w h => inlX2 w h) (htsL (.instantiable RX2 3) (by decide +kernel))
  obtain ⟨c3, i3, k3⟩ := u_known (C := RX3) (T := TX3) (N := 1) hts (fun w h => inlX3 w h) (htsL (.instantiable RX3 1) (by decide +kernel))
  obtain ⟨c4, i4, k4⟩ := u_known (C := RX4) (T := TX4) (N := 18) hts (fun w h => inlX4 w h) (htsL (.instantiable RX4 18) (by decide +kernel))
  obtain ⟨c5, i5, k5⟩ := u_known (C := RX5) (T := TX5) (N := 17) hts (fun w h => inlX5 w h) (htsL (.instantiable RX5 17) (by decide +kernel))
  obtain ⟨a0, r0, s0⟩ := fs_arr (hts _ fs_t11.1) (fun _ h => h)
  obtain ⟨a1, r1, s1⟩ := fs_arr (hts _ fs_t11.2.1) (fun _ h => h)
  obtain ⟨a2, r2, s2⟩ := fs_arr (hts _ fs_t11.2.2) (fun _ h => h)
  obtain ⟨a3, r3, s3⟩ := fs_over (htsL _ fs_t10.1)
  obtain ⟨a4, r4, s4⟩ := fs_over (htsL _ fs_t10.2)
  obtain ⟨K, hKd⟩ : ∃ K : fm_K, K = (fs_pick c0 c1 c2 c3 c4 c5, fs_pick i0 i1 i2 i3 i4 i5, fs_pick a0 a1 a2 a3 a4 a4, fun q => s.heap.size + q) := ⟨_, rfl⟩
  have had : ∀ q, K.2.2.2 q = s.heap.size + q := fun q => by rw [hKd]
  have hm : cMo K := fun q => by rw [had, had]; omega
  have hK : fm_Kn K s := by
    rw [hKd]
    refine ⟨fun k q hq => ?_, fun k q hq => ?_⟩
    · match k, hq with
      | 0, hq => cases hq; exact k0
      | 1, hq => cases hq; exact k1
      | 2, hq => cases hq; exact k2
      | 3, hq => cases hq; exact k3
      | 4, hq => cases hq; exact k4
      | 5, hq => cases hq; exact k5
      | n + 6, hq => cases hq
    · match k, hq with
      | 0, hq => cases hq; exact ⟨r0, s0⟩
      | 1, hq => cases hq; exact ⟨r1, s1⟩
      | 2, hq => cases hq; exact ⟨r2, s2⟩
      | 3, hq => cases hq; exact ⟨r3, s3⟩
      | 4, hq => cases hq; exact ⟨r4, s4⟩
      | n + 5, hq => cases hq
  have hX : cX K s := ⟨hK, fun t ht => va_Nw.of rfl (htsL _ (fs_t2 t ht)), htsL _ fs_t10.1, htsL _ fs_t10.2⟩
  have hA0 : ∀ a : Nat, a < s.heap.size → ¬ cA K a := fun a ha h => by
    have h : K.2.2.2 0 ≤ a := h
    rw [had] at h; omega
  have hst : fm_st K (cA K) s s.heap := ⟨hK, fun t ht => va_Nw.of rfl (htsL _ (fs_t1 t ht)), vx_Zqof (htsL _ fs_t8.1) (htsL _ fs_t8.2.2) (hq _ fs_t9.1) hA0, vx_Zqof (htsL _ fs_t8.2.1) (htsL _ fs_t8.2.2) (hq _ fs_t9.2) hA0, fun x hx => fs_str (htsL _ (fs_t3 x hx)) (hq _ (fs_t4 x hx)), fun x hx => va_Nw.of rfl (htsL _ (fs_t5 x hx)), fun x hx => va_Nc.of (hq _ (fs_t6 x hx)), fun x hx => va_Nw.of rfl (htsL _ (fs_t7 x hx))⟩
  have hH : cH K 0 (fm_ce K (cσ 0 0)) s s.heap [] := ⟨⟨by rw [had]; rfl, fun q h => absurd h (by omega)⟩, va_S.rf⟩
  have hl := lv_entry ([.ref b]) (n := 7) (Nat.le_of_ble_eq_true rfl)
  rw [lg_entry_eq]
  generalize (lg_sl ([.ref b]) ++ List.replicate (7 - (lg_sl ([.ref b])).length) Slot.unset).toArray = ls at hl ⊢
  have hl : lv_has ls 7 [(0, .ref b)] := hl

  refine c_new hm (ci := 4) (fs := [.null, .null, .null, .null, .null, .null, .null, .null, .null, .null, .int 0, .int 0, .null, .null, .null, .null, .null, .null]) (C := RX4) (T := TX4) (N := 18) hx hb hts (fun w h => inlX4 w h) tyX4 tyX4_ok hown (hts (.classLink RL 8 RX4) (List.mem_of_getElem? (i := 0) rfl)) (hts (.instantiable RX4 18) (List.mem_of_getElem? (i := 1) rfl)) (hts (.initialized RX4) (List.mem_of_getElem? (i := 2) rfl)) hK hH rfl fs_n4 (Nat.le_of_ble_eq_true rfl) (Nat.le_of_ble_eq_true rfl) dL_law_0 (fun H hH => ?_)
  refine W.widen (k := 1) (n := 18) (by omega) (by omega) ?_
  refine lv_dup hx hb dL_law_3 rfl ?_
  refine c_call (va_runI (As := []) (rest := [.ref (K.2.2.2 0)]) C (c_X4_init l hm) (cwI 0 hts gL_law_X4_init rfl rfl rfl (hts (.initialized RX4) (List.mem_of_getElem? (i := 2) rfl)) (hts (.methodLink RL 86 yX4_init) (List.mem_of_getElem? (i := 7) rfl)) (hts (.instanceMethod yX4_init) (List.mem_of_getElem? (i := 8) rfl)) rfl (by decide +kernel) ⟨(Nat.le_of_ble_eq_true rfl), (Nat.le_of_ble_eq_true rfl)⟩) ⟨cblind, cpre hX hH⟩ rfl rfl hl.1 rfl (lv_room (Nat.le_of_ble_eq_true rfl)) dL_law_4 ⟨(Nat.le_of_ble_eq_true rfl), (Nat.le_of_ble_eq_true rfl)⟩) hH (fun H locs hH => ?_)
  refine W.widen (k := 40) (n := 545) (by omega) (by omega) ?_
  refine lv_astore_n (lv' := [(1, .ref (K.2.2.2 0)), (0, .ref b)]) hx hb dL_law_7 rfl hl (by decide) rfl (fun ls hl => ?_)
  refine c_new hm (ci := 5) (fs := [.null, .null, .null, .null, .null, .null, .null, .null, .null, .null, .int 0, .int 0, .null, .null, .null, .null, .int 0]) (C := RX5) (T := TX5) (N := 17) hx hb hts (fun w h => inlX5 w h) tyX5 tyX5_ok hown (hts (.classLink RL 87 RX5) (List.mem_of_getElem? (i := 3) rfl)) (hts (.instantiable RX5 17) (List.mem_of_getElem? (i := 4) rfl)) (hts (.initialized RX5) (List.mem_of_getElem? (i := 5) rfl)) hK hH rfl fs_n5 (Nat.le_of_ble_eq_true rfl) (Nat.le_of_ble_eq_true rfl) dL_law_8 (fun H hH => ?_)
  refine W.widen (k := 41) (n := 562) (by omega) (by omega) ?_
  refine lv_dup hx hb dL_law_11 rfl ?_
  have m5 : Cond.methodLink RL 89 yX5_init ∈ wsL_law ∧ Cond.instanceMethod yX5_init ∈ wsL_law := ⟨List.mem_of_getElem? (i := 69) rfl, List.mem_of_getElem? (i := 70) rfl⟩
  refine c_call (va_runI (As := []) (rest := [.ref (K.2.2.2 40)]) C (c_X5_init l hm) (cwI 0 hts gL_law_X5_init rfl rfl rfl (hts (.initialized RX5) (List.mem_of_getElem? (i := 5) rfl)) (hts _ m5.1) (hts _ m5.2) rfl (by decide +kernel) ⟨(Nat.le_of_ble_eq_true rfl), (Nat.le_of_ble_eq_true rfl)⟩) ⟨cblind, cpre hX hH⟩ rfl rfl hl.1 rfl (lv_room (Nat.le_of_ble_eq_true rfl)) dL_law_12 ⟨(Nat.le_of_ble_eq_true rfl), (Nat.le_of_ble_eq_true rfl)⟩) hH (fun H locs hH => ?_)
  refine W.widen (k := 55) (n := 898) (by omega) (by omega) ?_
  refine lv_astore_n (lv' := [(2, .ref (K.2.2.2 40)), (1, .ref (K.2.2.2 0)), (0, .ref b)]) hx hb dL_law_15 rfl hl (by decide) rfl (fun ls hl => ?_)
  refine lv_iconst (v := 1) hx hb dL_law_16 (by decide) ?_
  refine c_newa hm (atype := .long) (N := 1) (a0 := (1, .inr (.inl (fun _ => 0)))) hx hb (hts _ fs_t11.2.2) (hK.2 2 _ rfl).2 hH (cF3 K 8 64 55 rfl rfl) (fun cI => rfl) (by decide) rfl (by decide) (Nat.le_of_ble_eq_true rfl) (Nat.le_of_ble_eq_true rfl) dL_law_17 (fun H hH => ?_)
  refine W.widen (k := 56) (n := 899) (by omega) (by omega) ?_
  refine lv_astore_n (lv' := [(3, .ref (K.2.2.2 55)), (2, .ref (K.2.2.2 40)), (1, .ref (K.2.2.2 0)), (0, .ref b)]) hx hb dL_law_19 rfl hl (by decide) rfl (fun ls hl => ?_)
  refine lv_iconst (v := 0) hx hb dL_law_20 (by decide) ?_
  refine lv_istore (lv' := [(4, .int (0 : Int32)), (3, .ref (K.2.2.2 55)), (2, .ref (K.2.2.2 40)), (1, .ref (K.2.2.2 0)), (0, .ref b)]) hx hb dL_law_21 hl (by decide) rfl (fun ls hl => ?_)
  have hH := fs_P hm hH
  have hAq : ∀ q, fm_A K s.heap.size q → cA K q := fun q h => by
    show K.2.2.2 0 ≤ q
    rw [had]
    rcases h with ⟨k, _, rfl⟩ | h
    · rw [had]; omega
    · exact h
  refine wL_law_L hfl C hst hAq hXs hbl (hA0 b hbl) fF 56 899 0 (cσ 8 64) (by decide) (by decide) hlaw (fun σ ls H locs hH => ?_) _ _ _ (lv_sub hl [4, 3, 2, 1, 0] rfl) hH
  refine va_forget (fun q hq => by have h := hH.2.2.2.2 q hq; have h : K.2.2.2 0 ≤ q.base := h; rw [had] at h; omega) ?_
  refine lv_iconst (v := 1) hx hb dL_law_1595 (by decide) ?_
  exact lw_ret hx hb hr hlk dL_law_1596
end FMS
