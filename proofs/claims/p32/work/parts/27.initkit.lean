section FMI
/-- a world that grows from K's first address on: of the picture f the first n cells stand -/
def cW (K : fm_K) (n : Nat) (f : Nat → va_E) (H : Heap) : Prop := H.size = K.2.2.2 n ∧ ∀ q, q < n → va_at (K.1.1, K.2.1) vwCl (K.2.2.2 q, f q) H
def cU (f : Nat → va_E) (k : Nat) (e : va_E) : Nat → va_E := fun q => if q = k then e else f q
def cMo (K : fm_K) : Prop := ∀ q, K.2.2.2 q = K.2.2.2 0 + q
def cA (K : fm_K) : Nat → Prop := fun q => K.2.2.2 0 ≤ q
def cH (K : fm_K) (n : Nat) (f : Nat → va_E) (s : State) (H : Heap) (locs : List Loc) : Prop := cW K n f H ∧ va_S (cA K) s.heap H locs
theorem cU_s (f : Nat → va_E) (k : Nat) (e : va_E) : cU f k e k = e := if_pos rfl
theorem cU_n {f : Nat → va_E} {k q : Nat} {e : va_E} (h : q ≠ k) : cU f k e q = f q := if_neg h
theorem cU_u (f : Nat → va_E) (k : Nat) (a b : va_E) : cU (cU f k a) k b = cU f k b := by
  funext q; by_cases h : q = k <;> simp [cU, h]
theorem cU_self {f : Nat → va_E} {k : Nat} {e : va_E} (h : f k = e) : cU f k e = f := by
  funext q; by_cases hq : q = k
  · subst hq; rw [cU_s, h]
  · exact cU_n hq
theorem cW.congr {K : fm_K} {n : Nat} {f g : Nat → va_E} {H : Heap} (h : cW K n f H) (e : ∀ q, q < n → g q = f q) : cW K n g H := ⟨h.1, fun q hq => by rw [e q hq]; exact h.2 q hq⟩
theorem cW.push {K : fm_K} {n : Nat} {f : Nat → va_E} {H H1 : Heap} (hm : cMo K) (h : cW K n f H) {e : va_E} (hz : H1.size = K.2.2.2 n + 1) (ho : ∀ q, q < K.2.2.2 n → H1[q]? = H[q]?) (he : va_at (K.1.1, K.2.1) vwCl (K.2.2.2 n, e) H1) : cW K (n + 1) (cU f n e) H1 := by
  refine ⟨by rw [hz, hm n, hm (n + 1)]; omega, fun q hq => ?_⟩
  by_cases hn : q = n
  · subst hn; rw [cU_s]; exact he
  · rw [cU_n hn]
    have hq' : q < n := by omega
    exact (h.2 q hq').kept (ho _ (by show K.2.2.2 q < _; rw [hm q, hm n]; omega))
theorem cW.put {K : fm_K} {n : Nat} {f : Nat → va_E} {H H1 : Heap} (hm : cMo K) (h : cW K n f H) {k : Nat} {e : va_E} (hz : H1.size = H.size) (ho : ∀ q, q ≠ K.2.2.2 k → H1[q]? = H[q]?) (he : va_at (K.1.1, K.2.1) vwCl (K.2.2.2 k, e) H1) : cW K n (cU f k e) H1 := by
  refine ⟨hz.trans h.1, fun q hq => ?_⟩
  by_cases hn : q = k
  · subst hn; rw [cU_s]; exact he
  · rw [cU_n hn]
    exact (h.2 q hq).kept (ho _ (by show K.2.2.2 q ≠ _; rw [hm q, hm k]; omega))
theorem cS.push {K : fm_K} {s : State} {H H1 : Heap} {locs : List Loc} (h : va_S (cA K) s.heap H locs) (hz : H.size ≤ H1.size) (ho : ∀ q, q < H.size → H1[q]? = H[q]?) : va_S (cA K) s.heap H1 locs :=
  ⟨Nat.le_trans h.1 hz, fun q h1 h2 => (ho q (Nat.lt_of_lt_of_le h1 h.1)).trans (h.2.1 q h1 h2), h.2.2⟩
variable {p : Program} {l : Launch} {e : Env} {R : Room} {s : State} {m : MethodId} {args : Array Value} {below : List Frame} {meth : Method} {c : Code} {H : Heap} {locs : List Loc} {cells slots : Nat} {Q : State → Prop}
variable {cc : ByteArray} {pc : Nat} {ls : Array Slot} {rest : List Value} {K : fm_K} {F : Nat → va_E} {n0 : Nat}
theorem c_newa (hm : cMo K) (hx : p.tables.exec = Jvm.exec) (hb : c.code = cc) {atype : ArrayType} (harr : (Cond.arrayClass (newarray.typeOf atype)).before args s = true) {cA0 : ClassId} (hRA : s.vm.findClass ("[" ++ (newarray.typeOf atype).toString) = some cA0) (hH : cH K n0 F s H locs) {n : Int32} {N : Nat} {a0 : vp_A} (hF : F n0 = .inl (cA0, a0)) (ha : ∀ cI : ClassId, vp_cell cI a0 = arrV cI N (fun _ => defaultValue (newarray.typeOf atype)))
    (hn : ¬ n < 0) (hN : n.toNatClampNeg = N) (hbytes : N * componentBytes (newarray.typeOf atype) ≤ 536870912) (hcells : cells + 1 ≤ R.cells) (hslots : slots + N ≤ R.slots) (hdg : decode cc pc = .ok (.newarray atype, 2))
    (kk : ∀ H1 : Heap, cH K (n0 + 1) F s H1 locs → W p l e R s m args below meth c H1 locs (cells + 1) (slots + N) Q (F0 m (pc + 2) ls (.ref (K.2.2.2 n0) :: rest))) : W p l e R s m args below meth c H locs cells slots Q (F0 m pc ls (.int n :: rest)) := by
  refine va_newaK hx hb harr rfl hdg rfl hn hN hbytes hcells hslots hH.1.1 fun H1 cI e1 z1 o1 _ hNm => ?_
  cases hRA.symm.trans hNm
  have h1 := hH.1.push hm (e := F n0) z1 o1 (by rw [hF]; show H1[K.2.2.2 n0]? = some (vp_cell _ _); rw [ha]; exact e1)
  rw [cU_self rfl] at h1
  exact kk H1 ⟨h1, cS.push hH.2 (by rw [z1, hH.1.1]; omega) (fun q hq => o1 q (by rw [← hH.1.1]; exact hq))⟩
theorem c_new (hm : cMo K) (hx : p.tables.exec = Jvm.exec) (hb : c.code = cc) {own C : String} {T : u_T} {N ci index : Nat} {Ts : List Cond} (hts : ∀ w ∈ Ts, w.before args s = true) (hin : ∀ w ∈ u_ws C T N, w ∈ Ts) (ty : Nat → FieldType) (hty : ∀ k, k < N → parseFieldDescriptor (T k).2.2.1 = some (ty k)) (hown : s.vm.findClass own = some m.cls) (hcl : (Cond.classLink own index C).before args s = true) (hinst : (Cond.instantiable C N).before args s = true) (hini : (Cond.initialized C).before args s = true)
    (hK : fm_Kn K s) (hH : cH K n0 F s H locs) (hc : vwCl[ci]? = some (C, T, N)) {fs : List Value} (hfs : ∀ j, j < N → defaultValue (ty j) = vp_V fs j) (hcells : cells + 1 ≤ R.cells) (hslots : slots + N ≤ R.slots) (hdg : decode cc pc = .ok (.new index, 3))
    (kk : ∀ H1 : Heap, cH K (n0 + 1) (cU F n0 (.inr (ci, fs))) s H1 locs → W p l e R s m args below meth c H1 locs (cells + 1) (slots + N) Q (F0 m (pc + 3) ls (.ref (K.2.2.2 n0) :: rest))) : W p l e R s m args below meth c H locs cells slots Q (F0 m pc ls rest) := by
  have hKn := hK.1 ci _ hc
  refine W.newcK hx hb hown hcl hinst hini rfl hdg hcells hslots hKn.2.1 hH.1.1 fun H1 kC hkC e1 z1 o1 => ?_
  exact kk H1 ⟨hH.1.push hm z1 o1 ⟨_, hc, (u_born ty hts hin hKn hkC e1 hty).to hfs⟩, cS.push hH.2 (by rw [z1, hH.1.1]; omega) (fun q hq => o1 q (by rw [← hH.1.1]; exact hq))⟩
theorem c_put (hm : cMo K) (hx : p.tables.exec = Jvm.exec) (hb : c.code = cc) {own ref C : String} {T : u_T} {N ci index : Nat} {Ts : List Cond} (hts : ∀ w ∈ Ts, w.before args s = true) (hin : ∀ w ∈ u_ws C T N, w ∈ Ts) (ty0 : Nat → FieldType) (hty : ∀ k, k < N → parseFieldDescriptor (T k).2.2.1 = some (ty0 k)) (hnm : ∀ a, a < N → ∀ b, b < N → a ≠ b → (T a).2.1 ≠ (T b).2.1) (hown : s.vm.findClass own = some m.cls) (hK : fm_Kn K s) (q0 : Nat) {fs fs' : List Value} (hH : cH K n0 (cU F q0 (.inr (ci, fs))) s H locs) (hq0 : q0 < n0) (hc : vwCl[ci]? = some (C, T, N)) (k : Nat) (hk : k < N) (hlink : Cond.fieldLink own index ref (T k).2.1 (T k).2.2.1 ∈ Ts) (hsame : (T k).1 = ref) (hfin : (T k).2.2.2 = false) {ty : FieldType} {v : Value} (hd : parseFieldDescriptor (T k).2.2.1 = some ty) (hn : narrow ty v = v) (hfit : fits ty v = true) (hl : k < fs.length) (hfs : fs.set k v = fs')
    (hdg : decode cc pc = .ok (.putfield index, 3)) (kk : ∀ (H1 : Heap) (locs1 : List Loc), cH K n0 (cU F q0 (.inr (ci, fs'))) s H1 locs1 → W p l e R s m args below meth c H1 locs1 cells slots Q (F0 m (pc + 3) ls rest)) : W p l e R s m args below meth c H locs cells slots Q (F0 m pc ls (v :: .ref (K.2.2.2 q0) :: rest)) := by
  subst hfs
  have hap := va_apart (own := own) hts hin ty0 hty hnm hK hc
  have h0 := hH.1.2 q0 hq0
  rw [cU_s] at h0
  obtain ⟨r, h1, cell, q1, q2, q3, q4⟩ := h0
  have hr : r = (C, T, N) := Option.some.inj (h1.symm.trans hc)
  subst hr
  obtain ⟨hS, hfc, kC, hkC, hkind⟩ := hK.1 ci _ hc
  obtain ⟨cf, kf, fi, f, hi, hsl⟩ := hS k hk
  have hlay := hts _ (hin _ (u_in_lay hk))
  unfold u_lay at hlay
  rw [if_neg (by rw [hfin]; decide)] at hlay
  have hst := (u_facts hfc hkC (u_lays hts hin hk) hi).1
  have h6 := u_store hfc hkC hkind hlay hi hd hn hfit
  refine W.putK hx hb (f := f) ⟨hown, hts _ hlink, ⟨_, _, _, by rw [← hsame]; exact hi⟩, hst⟩ (by rw [q2]; exact h6) q1 q3 (by rw [hsl]; exact k2_hasslot (q4 k hk)) rfl rfl hdg fun H' e1 e2 e3 => ?_
  rw [hsl] at e1 ⊢
  have h9 := hH.1.put hm (k := q0) (e := .inr (ci, fs.set k v)) e2 e3 ⟨_, hc, t_OB.to (V := updV (vp_V fs) k v) ⟨_, e1, q2, q3, t_set q4 hap hk v⟩ (fun j _ => vp_updV_set hl v j)⟩
  rw [cU_u] at h9
  exact kk H' _ ⟨h9, hH.2.put e2 e3 (by show K.2.2.2 0 ≤ K.2.2.2 q0; rw [hm q0]; omega)⟩
theorem c_putF (hm : cMo K) (hx : p.tables.exec = Jvm.exec) (hb : c.code = cc) {own ref C : String} {T : u_T} {N ci index : Nat} {Ts : List Cond} (hts : ∀ w ∈ Ts, w.before args s = true) (hin : ∀ w ∈ u_ws C T N, w ∈ Ts) (ty0 : Nat → FieldType) (hty : ∀ k, k < N → parseFieldDescriptor (T k).2.2.1 = some (ty0 k)) (hnm : ∀ a, a < N → ∀ b, b < N → a ≠ b → (T a).2.1 ≠ (T b).2.1) (hown : s.vm.findClass own = some m.cls) (hK : fm_Kn K s) (q0 : Nat) {fs fs' : List Value} (hH : cH K n0 (cU F q0 (.inr (ci, fs))) s H locs) (hq0 : q0 < n0) (hc : vwCl[ci]? = some (C, T, N)) (k : Nat) (hk : k < N) (hlink : Cond.fieldLink own index ref (T k).2.1 (T k).2.2.1 ∈ Ts) (hsame : (T k).1 = ref) (hfin : (T k).2.2.2 = true) (hin2 : meth.name = "<init>") (hdecl : (T k).1 = own) {ty : FieldType} {v : Value} (hd : parseFieldDescriptor (T k).2.2.1 = some ty) (hn : narrow ty v = v) (hfit : fits ty v = true) (hl : k < fs.length) (hfs : fs.set k v = fs')
    (hdg : decode cc pc = .ok (.putfield index, 3)) (kk : ∀ (H1 : Heap) (locs1 : List Loc), cH K n0 (cU F q0 (.inr (ci, fs'))) s H1 locs1 → W p l e R s m args below meth c H1 locs1 cells slots Q (F0 m (pc + 3) ls rest)) : W p l e R s m args below meth c H locs cells slots Q (F0 m pc ls (v :: .ref (K.2.2.2 q0) :: rest)) := by
  subst hfs
  have hap := va_apart (own := own) hts hin ty0 hty hnm hK hc
  have h0 := hH.1.2 q0 hq0
  rw [cU_s] at h0
  obtain ⟨r, h1, cell, q1, q2, q3, q4⟩ := h0
  have hr : r = (C, T, N) := Option.some.inj (h1.symm.trans hc)
  subst hr
  obtain ⟨hS, hfc, kC, hkC, hkind⟩ := hK.1 ci _ hc
  obtain ⟨cf, kf, fi, f, hi, hsl⟩ := hS k hk
  have hlay := hts _ (hin _ (u_in_lay hk))
  unfold u_lay at hlay
  rw [if_pos hfin] at hlay
  have hst := (u_facts hfc hkC (u_lays hts hin hk) hi).1
  have hcf : m.cls = cf := by
    obtain ⟨_, _, c', _, _, _, -, -, hf', -, -, -, hown2, -⟩ := Cond.laysFinal_spec hlay
    have e1 : c' = cf := by have := hi.symm.trans hf'; simp at this; exact this.1.symm
    rw [hdecl] at hown2
    rw [← e1]; exact Option.some.inj (hown.symm.trans hown2)
  have h6 := u_fits hfc hkC hkind (Or.inr hlay) hi hd hn hfit
  refine W.putFinK hx hb hown (hts _ hlink) (by rw [← hsame]; exact hi) hst hcf hin2 (by rw [q2]; exact h6) q1 q3 (by rw [hsl]; exact k2_hasslot (q4 k hk)) rfl rfl hdg fun H' e1 e2 e3 => ?_
  rw [hsl] at e1 ⊢
  have h9 := hH.1.put hm (k := q0) (e := .inr (ci, fs.set k v)) e2 e3 ⟨_, hc, t_OB.to (V := updV (vp_V fs) k v) ⟨_, e1, q2, q3, t_set q4 hap hk v⟩ (fun j _ => vp_updV_set hl v j)⟩
  rw [cU_u] at h9
  exact kk H' _ ⟨h9, hH.2.put e2 e3 (by show K.2.2.2 0 ≤ K.2.2.2 q0; rw [hm q0]; omega)⟩
theorem c_one (hH : cH K n0 F s H locs) {q : Nat} (hq : q < n0) : va_P (K.1.1, K.2.1) vwCl [(K.2.2.2 q, F q)] H := by
  intro k x hx
  have hz : k < 1 := (List.getElem?_eq_some_iff.mp hx).1
  rw [show k = 0 by omega] at hx
  cases hx
  exact hH.1.2 q hq
theorem c_get (hx : p.tables.exec = Jvm.exec) (hb : c.code = cc) {own ref C : String} {T : u_T} {N ci index : Nat} {Ts : List Cond} (hts : ∀ w ∈ Ts, w.before args s = true) (hin : ∀ w ∈ u_ws C T N, w ∈ Ts) (hown : s.vm.findClass own = some m.cls) (hK : fm_Kn K s) (hH : cH K n0 F s H locs) (q : Nat) (hq : q < n0) {fs : List Value} (hF : F q = .inr (ci, fs)) (hc : vwCl[ci]? = some (C, T, N)) (k : Nat) (hk : k < N) (hlink : Cond.fieldLink own index ref (T k).2.1 (T k).2.2.1 ∈ Ts) (hsame : (T k).1 = ref) {v : Value} (hv : fs[k]? = some v) (hdg : decode cc pc = .ok (.getfield index, 3))
    (kk : W p l e R s m args below meth c H locs cells slots Q (F0 m (pc + 3) ls (v :: rest))) : W p l e R s m args below meth c H locs cells slots Q (F0 m pc ls (.ref (K.2.2.2 q) :: rest)) :=
  va_get (fs := fs) (ci := ci) hx hb hts hin hown hK (c_one hH hq) 0 (by rw [hF]; rfl) hc k hk (hts _ hlink) (fun x h => by rw [← hsame]; exact h) hv hdg kk
theorem c_ist (hm : cMo K) (hx : p.tables.exec = Jvm.exec) (hb : c.code = cc) (hK : fm_Kn K s) (q : Nat) {n : Nat} {g g' : Nat → Int32} (hH : cH K n0 (cU F q (.inl (K.2.2.1 0, n, .inl g))) s H locs) (hq : q < n0) {i x : Int32} (hin : ¬ (i < 0 ∨ n ≤ i.toNatClampNeg)) (hg : upd g i.toNatClampNeg x = g') (hdg : decode cc pc = .ok (.iastore, 1))
    (kk : ∀ (H1 : Heap) (locs1 : List Loc), cH K n0 (cU F q (.inl (K.2.2.1 0, n, .inl g'))) s H1 locs1 → W p l e R s m args below meth c H1 locs1 cells slots Q (F0 m (pc + 1) ls rest)) : W p l e R s m args below meth c H locs cells slots Q (F0 m pc ls (.int x :: .int i :: .ref (K.2.2.2 q) :: rest)) := by
  subst hg
  have h0 := hH.1.2 q hq
  rw [cU_s] at h0
  refine W.iast hx hb h0 ((hK.2 0 _ rfl).1 n (fun j => .int (g j))) (fun q => by cases q) (by show ¬ (i < 0 ∨ (arrV _ _ _).slots.size ≤ _); rw [arrV_size]; exact hin) rfl rfl hdg fun H1 e z oq => ?_
  have h9 := hH.1.put hm (k := q) (e := .inl (K.2.2.1 0, n, .inl (upd g i.toNatClampNeg x))) z oq (by
    show H1[K.2.2.2 q]? = some (vp_cell _ _)
    rw [e]
    rw [vp_cell_i, vp_cell_i, arrV_store]
    congr 2
    funext j
    by_cases hj : j = i.toNatClampNeg
    · subst hj
      simp [updV, upd]
    · simp [updV, upd, hj])
  rw [cU_u] at h9
  exact kk H1 _ ⟨h9, hH.2.put z oq (by show K.2.2.2 0 ≤ K.2.2.2 q; rw [hm q]; omega)⟩
theorem c_row (hx : p.tables.exec = Jvm.exec) (hb : c.code = cc) (hK : fm_Kn K s) (hH : cH K n0 F s H locs) (q : Nat) (hq : q < n0) (hF : F q = .inl (K.2.2.1 3, 8, .inr (.inr (.inr (.inr (fun i => if i < 8 then some (K.2.2.2 (q + 1 + i)) else none)))))) {i : Int32} (hin : ¬ (i < 0 ∨ 8 ≤ i.toNatClampNeg)) (hdg : decode cc pc = .ok (.aaload, 1))
    (kk : W p l e R s m args below meth c H locs cells slots Q (F0 m (pc + 1) ls (.ref (K.2.2.2 (q + 1 + i.toNatClampNeg)) :: rest))) : W p l e R s m args below meth c H locs cells slots Q (F0 m pc ls (.int i :: .ref (K.2.2.2 q) :: rest)) := by
  have hlt : i.toNatClampNeg < 8 := Nat.not_le.mp fun q => hin (Or.inr q)
  have h0 := hH.1.2 q hq
  rw [hF] at h0
  refine W.aald (v := .ref (K.2.2.2 (q + 1 + i.toNatClampNeg))) (ty := .array .int) hx hb h0 ((hK.2 3 _ rfl).1 8 (fun j => va_rf (if j < 8 then some (K.2.2.2 (q + 1 + j)) else none))) rfl (fun q => by cases q) (by show ¬ (i < 0 ∨ (arrV _ _ _).slots.size ≤ _); rw [arrV_size]; exact hin) (by show (arrV _ _ _).slots[_]? = _; rw [arrV_read _ _ hlt]; simp [hlt, va_rf]) rfl rfl hdg kk
theorem c_outer (cI : ClassId) (N h0 : Nat) : ∀ i : Nat, Jvm.Free.Multi.outerC cI N h0 i = arrV cI N (fun j => va_rf (if j < i then some (h0 + 1 + j) else none))
  | 0 => by
    show ({ cls := cI, slots := Array.replicate N .null, vm := .none } : Cell) = _
    rw [arrV_new]
    refine congrArg (arrV cI N) (funext fun j => ?_)
    simp [va_rf]
  | i + 1 => by
    show (Jvm.Free.Multi.outerC cI N h0 i).setSlot i (.ref (h0 + 1 + i)) = _
    rw [c_outer cI N h0 i, arrV_store]
    refine congrArg (arrV cI N) (funext fun j => ?_)
    by_cases e : j = i
    · subst e
      simp [updV, va_rf]
    · by_cases h : j < i
      · simp [updV, e, h, Nat.lt_succ_of_lt h]
      · simp [updV, e, h, show ¬ j < i + 1 by omega]
/-- new T[8][8] -/
theorem c_mna (hm : cMo K) (hx : p.tables.exec = Jvm.exec) (hb : c.code = cc) {own : String} {index : Nat} {ty : FieldType} {cO cy : ClassId} (hown : s.vm.findClass own = some m.cls) (hcl : (Cond.classLink own index ("[" ++ (FieldType.array ty).toString)).before args s = true) (hover : (Cond.arrayOver (.array ty)).before args s = true) (harr : (Cond.arrayClass ty).before args s = true) (hcO : s.vm.findClass ("[" ++ (FieldType.array ty).toString) = some cO) (hcy : s.vm.findClass (FieldType.array ty).toString = some cy)
    (hH : cH K n0 F s H locs) {z : vp_A} (hF : F n0 = .inl (cO, 8, .inr (.inr (.inr (.inr (fun i => if i < 8 then some (K.2.2.2 (n0 + 1 + i)) else none)))))) (hFr : ∀ i, i < 8 → F (n0 + 1 + i) = .inl (cy, z)) (hb2 : 8 * componentBytes ty ≤ 536870912) (hdf : fits ty (defaultValue ty) = true) (hdd : (defaultValue ty).isDefault = true) (hcells : cells + 9 ≤ R.cells) (hslots : slots + 72 ≤ R.slots) (hz : ∀ cI : ClassId, Jvm.Free.Multi.innerC cI 8 (defaultValue ty) = vp_cell cI z) (hdg : decode cc pc = .ok (.multianewarray index 2, 4))
    (kk : ∀ H1 : Heap, cH K (n0 + 9) F s H1 locs → W p l e R s m args below meth c H1 locs (cells + 9) (slots + 72) Q (F0 m (pc + 4) ls (.ref (K.2.2.2 n0) :: rest))) : W p l e R s m args below meth c H locs cells slots Q (F0 m pc ls (.int 8 :: .int 8 :: rest)) := by
  intro T hT Xs
  have h8 : (8 : Int32).toNatClampNeg = 8 := rfl
  obtain ⟨vm₁, cI, comp, -, fA, fC, -, -, X', step⟩ := Xs.multianewarray2F hx hown hcl hover harr (g := F0 m pc ls (.int 8 :: .int 8 :: rest)) rfl (by rw [hb]; exact hdg) rfl (by decide) (by decide) (by rw [h8]; decide) (by rw [h8]; exact hb2) (by rw [h8]; decide) hdf hdd (by rw [h8]; exact hcells) (by rw [h8]; exact hslots)
  cases hcO.symm.trans fA
  cases hcy.symm.trans fC
  rw [h8] at X' step
  generalize hG : Jvm.Free.Multi.fill (T.setVm vm₁) cO cy 8 8 (defaultValue ty) 8 = G at X' step
  have hTh : (T.setVm vm₁).heap = H := hT
  obtain ⟨f1, f2, -, -⟩ := Jvm.Free.Multi.fill_facts (T.setVm vm₁) cO cy 8 8 (defaultValue ty) 8
  rw [hG, hTh] at f1 f2
  rw [c_outer] at f2
  have hold : ∀ x : Nat, x < H.size → G.heap[x]? = H[x]? := fun x hx => by
    have := Jvm.Free.Multi.fill_old (T.setVm vm₁) cO cy 8 8 (defaultValue ty) (a := x) (by rw [hTh]; exact hx) 8
    rw [hG, hTh] at this
    exact this
  have hrow : ∀ j : Nat, j < 8 → G.heap[H.size + 1 + j]? = some (vp_cell cy z) := fun j hj => by
    have := Jvm.Free.Multi.fill_inner (T.setVm vm₁) cO cy 8 8 (defaultValue ty) 8 j hj
    rw [hG, hTh, hz] at this
    exact this
  have hs := hH.1.1
  have hW : cW K (n0 + 9) F G.heap := by
    refine ⟨by rw [f1, hs, hm n0, hm (n0 + 9)]; omega, fun q hq => ?_⟩
    by_cases h1 : q < n0
    · exact (hH.1.2 q h1).kept (hold _ (by show K.2.2.2 q < _; rw [hs, hm q, hm n0]; omega))
    · by_cases h2 : q = n0
      · subst h2
        rw [hF]
        show G.heap[K.2.2.2 q]? = some (vp_cell _ _)
        rw [← hs, f2]
        refine congrArg some ?_
        refine (congrArg (arrV cO 8) (funext fun j => ?_)).trans (vp_cell_q _ _ _).symm
        by_cases hj : j < 8
        · rw [if_pos hj, if_pos hj, hs, hm q, hm (q + 1 + j)]
          congr 2; omega
        · rw [if_neg hj, if_neg hj]
      · have hj := hrow (q - n0 - 1) (by omega)
        have hq2 := hFr (q - n0 - 1) (by omega)
        rw [show n0 + 1 + (q - n0 - 1) = q by omega] at hq2
        rw [hq2]
        show G.heap[K.2.2.2 q]? = some (vp_cell _ _)
        rw [← hj, hs, hm q, hm n0]
        congr 1
        omega
  obtain ⟨t, a1, b1⟩ := kk G.heap ⟨hW, cS.push hH.2 (by rw [f1]; omega) hold⟩ G rfl X'
  refine ⟨t, step t ?_, b1⟩
  have ht : T.heap.size = K.2.2.2 n0 := by rw [hT]; exact hs
  rw [ht]
  exact a1
end FMI
