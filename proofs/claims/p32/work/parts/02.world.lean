-- the store: one function for all int and boolean rows and number fields, one for all long rows
section FMW
abbrev fm_S : Type := (Nat → Nat → Int32) × (Nat → Nat → Int64)
/-- class numbers and the script (its address, length, values; how many scratch rows there are now), slots, array classes (int, boolean, long, int[], long[]), addresses -/
abbrev fm_K : Type := ((Nat → ClassId) × (Nat × Nat × (Nat → Int32) × Nat)) × (Nat → Nat → Nat) × (Nat → ClassId) × (Nat → Nat)
abbrev fm_n (K : fm_K) : Nat := K.1.2.2.2.2
def fm_wr (σ : fm_S) (q i : Nat) (v : Int32) : fm_S := (fun a b => if a = q ∧ b = i then v else σ.1 a b, σ.2)
def fm_wl (σ : fm_S) (q i : Nat) (v : Int64) : fm_S := (σ.1, fun a b => if a = q ∧ b = i then v else σ.2 a b)
def rI (σ : fm_S) (q : Nat) (i : Int32) : Int32 := σ.1 q i.toNatClampNeg
def rL (σ : fm_S) (q : Nat) (i : Int32) : Int64 := σ.2 q i.toNatClampNeg
def sI (σ : fm_S) (q : Nat) (i v : Int32) : fm_S := fm_wr σ q i.toNatClampNeg v
def sL (σ : fm_S) (q : Nat) (i : Int32) (v : Int64) : fm_S := fm_wl σ q i.toNatClampNeg v
/-- 1 int[], 2 boolean[], 3 long[], 4 int[][], 5 long[][], 0 an object -/
def fm_ty (q : Nat) : Nat := ([0,1,1,2,1,1,1,1,1, 4,1,1,1,1,1,1,1,1, 0,1, 0,1, 1,1, 0,1,1,1, 0,1, 0,5,3,3,3,3,3,3,3,3, 1,1,1, 1,1,3] : List Nat).getD q 0
def fm_len (q : Nat) : Nat := ([0,8,8,8,8,8,8,8,8, 8,8,8,8,8,8,8,8,8, 0,8, 0,8, 8,8, 0,8,8,8, 0,256, 0,8,8,8,8,8,8,8,8,8, 48,25,25, 8,8,16] : List Nat).getD q 0
def fm_ob (ad : Nat → Nat) (σ : fm_S) (q : Nat) : Nat × List Value :=
  if q = 0 then (4, [.ref (ad 1), .ref (ad 2), .ref (ad 3), .ref (ad 4), .ref (ad 5), .ref (ad 6), .ref (ad 7), .ref (ad 8), .ref (ad 9), .ref (ad 18), .int (σ.1 60 0), .int (σ.1 60 1), .ref (ad 20), .ref (ad 22), .ref (ad 23), .ref (ad 24), .ref (ad 28), .ref (ad 30)])
  else if q = 18 then (1, [.ref (ad 19)])
  else if q = 20 then (1, [.ref (ad 21)])
  else if q = 24 then (2, [.ref (ad 25), .ref (ad 26), .ref (ad 27)])
  else if q = 28 then (0, [.ref (ad 29)])
  else (3, [.ref (ad 31)])
def fm_ce (K : fm_K) (σ : fm_S) (q : Nat) : va_E :=
  if fm_ty q = 1 then .inl (K.2.2.1 0, fm_len q, .inl (σ.1 q))
  else if fm_ty q = 2 then .inl (K.2.2.1 1, fm_len q, .inl (σ.1 q))
  else if fm_ty q = 3 then .inl (K.2.2.1 2, fm_len q, .inr (.inl (σ.2 q)))
  else if fm_ty q = 4 then .inl (K.2.2.1 3, 8, .inr (.inr (.inr (.inr (fun i => if i < 8 then some (K.2.2.2 (q + 1 + i)) else none)))))
  else if fm_ty q = 5 then .inl (K.2.2.1 4, 8, .inr (.inr (.inr (.inr (fun i => if i < 8 then some (K.2.2.2 (q + 1 + i)) else none)))))
  else .inr (fm_ob K.2.2.2 σ q)
/-- the scratch rows that stand: none, one of agreement, two of spreading, one of settling -/
def fm_ex : Nat → List Nat
  | 0 => []
  | 1 => [43]
  | 2 => [43, 44]
  | _ => [45]
def fm_ids (K : fm_K) : List Nat := List.range 43 ++ fm_ex (fm_n K)
def fm_pos (q : Nat) : Nat := if q = 45 then 43 else q
def fm_in (K : fm_K) (q : Nat) : Prop := (fm_ids K)[fm_pos q]? = some q
theorem fm_exb (n : Nat) : fm_ex n = [] ∨ fm_ex n = [43] ∨ fm_ex n = [43, 44] ∨ fm_ex n = [45] := by
  match n with
  | 0 => exact Or.inl rfl
  | 1 => exact Or.inr (Or.inl rfl)
  | 2 => exact Or.inr (Or.inr (Or.inl rfl))
  | n + 3 => exact Or.inr (Or.inr (Or.inr rfl))
theorem fm_inb {K : fm_K} {q : Nat} (h : q < 43) : fm_in K q := by
  have h1 : fm_pos q = q := by unfold fm_pos; rw [if_neg (by omega)]
  unfold fm_in fm_ids
  rw [h1, List.getElem?_append_left (by simpa using h)]
  simp [h]
theorem fm_at {K : fm_K} {p q : Nat} (h : (fm_ids K)[p]? = some q) : fm_pos q = p ∧ q < 46 := by
  by_cases hp : p < 43
  · unfold fm_ids at h
    rw [List.getElem?_append_left (by simpa using hp)] at h
    have e : p = q := by
      have : (List.range 43)[p]? = some p := by simp [hp]
      rw [this] at h; exact Option.some.inj h
    subst e
    exact ⟨by unfold fm_pos; rw [if_neg (by omega)], by omega⟩
  · unfold fm_ids at h
    rw [List.getElem?_append_right (by simp; omega), List.length_range] at h
    obtain ⟨d, rfl⟩ : ∃ d, p = 43 + d := ⟨p - 43, by omega⟩
    rw [show 43 + d - 43 = d by omega] at h
    rcases fm_exb (fm_n K) with e | e | e | e <;> rw [e] at h
    · cases h
    · match d, h with
      | 0, h => cases h; exact ⟨rfl, by decide⟩
    · match d, h with
      | 0, h => cases h; exact ⟨rfl, by decide⟩
      | 1, h => cases h; exact ⟨rfl, by decide⟩
    · match d, h with
      | 0, h => cases h; exact ⟨rfl, by decide⟩
theorem fm_in_lt {K : fm_K} {q : Nat} (h : fm_in K q) : q < 46 := (fm_at h).2
def fm_W (K : fm_K) (σ : fm_S) : va_W := (fm_ids K).map (fun q => (K.2.2.2 q, fm_ce K σ q))
theorem fm_get (K : fm_K) (σ : fm_S) {q : Nat} (h : fm_in K q) : (fm_W K σ)[fm_pos q]? = some (K.2.2.2 q, fm_ce K σ q) := by
  unfold fm_W
  rw [List.getElem?_map, show (fm_ids K)[fm_pos q]? = some q from h]; rfl
theorem fm_getN (K : fm_K) (σ : fm_S) {p : Nat} {x : Nat × va_E} (h : (fm_W K σ)[p]? = some x) : ∃ q, fm_in K q ∧ fm_pos q = p ∧ x = (K.2.2.2 q, fm_ce K σ q) := by
  unfold fm_W at h
  rw [List.getElem?_map] at h
  cases e : (fm_ids K)[p]? with
  | none => rw [e] at h; cases h
  | some q =>
    rw [e] at h
    have hp := (fm_at e).1
    exact ⟨q, by unfold fm_in; rw [hp]; exact e, hp, (Option.some.inj h).symm⟩
theorem fm_set (K : fm_K) (σ σ' : fm_S) {q : Nat} {e : va_E} (h : fm_in K q) (he : fm_ce K σ' q = e) (ho : ∀ k, k < 46 → k ≠ q → fm_ce K σ' k = fm_ce K σ k) : (fm_W K σ).set (fm_pos q) (K.2.2.2 q, e) = fm_W K σ' := by
  apply List.ext_getElem?
  intro k
  unfold fm_W
  rw [List.getElem?_set, List.getElem?_map, List.getElem?_map]
  by_cases hq : fm_pos q = k
  · subst hq
    have hl : fm_pos q < (fm_ids K).length := (List.getElem?_eq_some_iff.mp h).1
    rw [if_pos rfl, if_pos (by simpa using hl), show (fm_ids K)[fm_pos q]? = some q from h, ← he]; rfl
  · rw [if_neg hq]
    cases e9 : (fm_ids K)[k]? with
    | none => rfl
    | some q9 =>
      obtain ⟨a1, a2⟩ := fm_at e9
      have hne : q9 ≠ q := fun z => hq (by rw [← z]; exact a1)
      show some (K.2.2.2 q9, fm_ce K σ q9) = some (K.2.2.2 q9, fm_ce K σ' q9)
      rw [ho q9 a2 hne]
theorem fm_wr_ne {σ : fm_S} {q i a b : Nat} {v : Int32} (h : a ≠ q) : (fm_wr σ q i v).1 a b = σ.1 a b := by
  simp [fm_wr, h]
theorem fm_wl_ne {σ : fm_S} {q i a b : Nat} {v : Int64} (h : a ≠ q) : (fm_wl σ q i v).2 a b = σ.2 a b := by
  simp [fm_wl, h]
theorem fm_ce_wr {K : fm_K} {σ : fm_S} {q i : Nat} {v : Int32} (hq : q < 46) {k : Nat} (hk : k ≠ q) : fm_ce K (fm_wr σ q i v) k = fm_ce K σ k := by
  have e1 : (fm_wr σ q i v).1 k = σ.1 k := funext fun b => fm_wr_ne hk
  have e2 : ∀ b, (fm_wr σ q i v).1 60 b = σ.1 60 b := fun b => fm_wr_ne (by omega)
  have e4 : (fm_wr σ q i v).2 = σ.2 := rfl
  simp only [fm_ce, fm_ob, e1, e2, e4]
theorem fm_ce_wl {K : fm_K} {σ : fm_S} {q i : Nat} {v : Int64} {k : Nat} (hk : k ≠ q) : fm_ce K (fm_wl σ q i v) k = fm_ce K σ k := by
  have e1 : (fm_wl σ q i v).2 k = σ.2 k := funext fun b => fm_wl_ne hk
  have e4 : (fm_wl σ q i v).1 = σ.1 := rfl
  simp only [fm_ce, fm_ob, e1, e4]
theorem fm_upd_wr (σ : fm_S) (q i : Nat) (v : Int32) : (fm_wr σ q i v).1 q = upd (σ.1 q) i v := by
  funext b; simp [fm_wr, upd]
theorem fm_upd_wl (σ : fm_S) (q i : Nat) (v : Int64) : (fm_wl σ q i v).2 q = vp_updL (σ.2 q) i v := by
  funext b; simp [fm_wl, vp_updL]
/-- the heap behind the store -/
def fm_H (K : fm_K) (σ : fm_S) (A : Nat → Prop) (s : State) (H : Heap) (locs : List Loc) : Prop := va_P (K.1.1, K.2.1) vwCl (fm_W K σ) H ∧ va_D A (fm_W K σ) ∧ va_S A s.heap H locs
def fm_tys (K : fm_K) : List (ClassId × FieldType) := [(K.2.2.1 0, .int), (K.2.2.1 1, .boolean), (K.2.2.1 2, .long), (K.2.2.1 3, .array .int), (K.2.2.1 4, .array .long)]
abbrev fm_Kn (K : fm_K) (s : State) : Prop := va_K (K.1.1, K.2.1) vwCl (fm_tys K) s
def fm_A (K : fm_K) (sz : Nat) : Nat → Prop := fun q => (∃ k, fm_in K k ∧ q = K.2.2.2 k) ∨ sz ≤ q
end FMW
section FMR
variable {p : Program} {l : Launch} {e : Env} {R : Room} {s : State} {m : MethodId} {args : Array Value} {below : List Frame} {meth : Method} {c : Code} {H : Heap} {locs : List Loc} {cells slots : Nat} {Q : State → Prop}
variable {cc : ByteArray} {pc : Nat} {ls : Array Slot} {rest : List Value} {K : fm_K} {σ : fm_S} {A : Nat → Prop}
theorem fm_ild (hx : p.tables.exec = Jvm.exec) (hb : c.code = cc) (hK : fm_Kn K s) (hH : fm_H K σ A s H locs) (q : Nat) (hq : fm_in K q) (ht : fm_ty q = 1) {n : Nat} (hn : fm_len q = n) {i : Int32} (hin : ¬ (i < 0 ∨ n ≤ i.toNatClampNeg)) (hdg : decode cc pc = .ok (.iaload, 1))
    (kk : W p l e R s m args below meth c H locs cells slots Q (F0 m (pc + 1) ls (.int (rI σ q i) :: rest))) : W p l e R s m args below meth c H locs cells slots Q (F0 m pc ls (.int i :: .ref (K.2.2.2 q) :: rest)) := by
  subst hn
  exact va_iald (f := σ.1 q) (n := fm_len q) (cA := K.2.2.1 0) hx hb hK hH.1 (fm_pos q) 0 (by rw [fm_get _ _ hq]; simp [fm_ce, ht]) rfl hin hdg kk
theorem fm_zld (hx : p.tables.exec = Jvm.exec) (hb : c.code = cc) (hK : fm_Kn K s) (hH : fm_H K σ A s H locs) (q : Nat) (hq : fm_in K q) (ht : fm_ty q = 2) {n : Nat} (hn : fm_len q = n) {i : Int32} (hin : ¬ (i < 0 ∨ n ≤ i.toNatClampNeg)) (hdg : decode cc pc = .ok (.baload, 1))
    (kk : W p l e R s m args below meth c H locs cells slots Q (F0 m (pc + 1) ls (.int (rI σ q i) :: rest))) : W p l e R s m args below meth c H locs cells slots Q (F0 m pc ls (.int i :: .ref (K.2.2.2 q) :: rest)) := by
  subst hn
  exact va_zald (f := σ.1 q) (n := fm_len q) (cA := K.2.2.1 1) hx hb hK hH.1 (fm_pos q) 1 (by rw [fm_get _ _ hq]; simp [fm_ce, ht]) rfl hin hdg kk
theorem fm_lld (hx : p.tables.exec = Jvm.exec) (hb : c.code = cc) (hK : fm_Kn K s) (hH : fm_H K σ A s H locs) (q : Nat) (hq : fm_in K q) (ht : fm_ty q = 3) {n : Nat} (hn : fm_len q = n) {i : Int32} (hin : ¬ (i < 0 ∨ n ≤ i.toNatClampNeg)) (hdg : decode cc pc = .ok (.laload, 1))
    (kk : W p l e R s m args below meth c H locs cells slots Q (F0 m (pc + 1) ls (.long (rL σ q i) :: rest))) : W p l e R s m args below meth c H locs cells slots Q (F0 m pc ls (.int i :: .ref (K.2.2.2 q) :: rest)) := by
  subst hn
  exact va_lald (f := σ.2 q) (n := fm_len q) (cA := K.2.2.1 2) hx hb hK hH.1 (fm_pos q) 2 (by rw [fm_get _ _ hq]; simp [fm_ce, ht]) rfl hin hdg kk
/-- a row of rows -/
theorem fm_ald4 (hx : p.tables.exec = Jvm.exec) (hb : c.code = cc) (hK : fm_Kn K s) (hH : fm_H K σ A s H locs) (q : Nat) (hq : fm_in K q) (ht : fm_ty q = 4) {i : Int32} (hin : ¬ (i < 0 ∨ 8 ≤ i.toNatClampNeg)) (hdg : decode cc pc = .ok (.aaload, 1))
    (kk : W p l e R s m args below meth c H locs cells slots Q (F0 m (pc + 1) ls (.ref (K.2.2.2 (q + 1 + i.toNatClampNeg)) :: rest))) : W p l e R s m args below meth c H locs cells slots Q (F0 m pc ls (.int i :: .ref (K.2.2.2 q) :: rest)) := by
  have hlt : i.toNatClampNeg < 8 := Nat.not_le.mp fun q => hin (Or.inr q)
  have ha : (fm_W K σ)[fm_pos q]? = some (K.2.2.2 q, .inl (K.2.2.1 3, 8, .inr (.inr (.inr (.inr (fun i => if i < 8 then some (K.2.2.2 (q + 1 + i)) else none)))))) := by rw [fm_get _ _ hq]; simp [fm_ce, ht]
  refine W.aald (v := .ref (K.2.2.2 (q + 1 + i.toNatClampNeg))) (ty := .array .int) hx hb (hH.1 (fm_pos q) _ ha) ((hK.2 3 _ rfl).1 8 (fun j => va_rf (if j < 8 then some (K.2.2.2 (q + 1 + j)) else none))) rfl (fun q => by cases q) (by show ¬ (i < 0 ∨ (arrV _ _ _).slots.size ≤ _); rw [arrV_size]; exact hin) (by show (arrV _ _ _).slots[_]? = _; rw [arrV_read _ _ hlt]; simp [hlt, va_rf]) rfl rfl hdg kk
theorem fm_ald5 (hx : p.tables.exec = Jvm.exec) (hb : c.code = cc) (hK : fm_Kn K s) (hH : fm_H K σ A s H locs) (q : Nat) (hq : fm_in K q) (ht : fm_ty q = 5) {i : Int32} (hin : ¬ (i < 0 ∨ 8 ≤ i.toNatClampNeg)) (hdg : decode cc pc = .ok (.aaload, 1))
    (kk : W p l e R s m args below meth c H locs cells slots Q (F0 m (pc + 1) ls (.ref (K.2.2.2 (q + 1 + i.toNatClampNeg)) :: rest))) : W p l e R s m args below meth c H locs cells slots Q (F0 m pc ls (.int i :: .ref (K.2.2.2 q) :: rest)) := by
  have hlt : i.toNatClampNeg < 8 := Nat.not_le.mp fun q => hin (Or.inr q)
  have ha : (fm_W K σ)[fm_pos q]? = some (K.2.2.2 q, .inl (K.2.2.1 4, 8, .inr (.inr (.inr (.inr (fun i => if i < 8 then some (K.2.2.2 (q + 1 + i)) else none)))))) := by rw [fm_get _ _ hq]; simp [fm_ce, ht]
  refine W.aald (v := .ref (K.2.2.2 (q + 1 + i.toNatClampNeg))) (ty := .array .long) hx hb (hH.1 (fm_pos q) _ ha) ((hK.2 4 _ rfl).1 8 (fun j => va_rf (if j < 8 then some (K.2.2.2 (q + 1 + j)) else none))) rfl (fun q => by cases q) (by show ¬ (i < 0 ∨ (arrV _ _ _).slots.size ≤ _); rw [arrV_size]; exact hin) (by show (arrV _ _ _).slots[_]? = _; rw [arrV_read _ _ hlt]; simp [hlt, va_rf]) rfl rfl hdg kk
theorem fm_ist (hx : p.tables.exec = Jvm.exec) (hb : c.code = cc) (hK : fm_Kn K s) (hH : fm_H K σ A s H locs) (q : Nat) (hq : fm_in K q) (ht : fm_ty q = 1) {n : Nat} (hn : fm_len q = n) {i x : Int32} (hin : ¬ (i < 0 ∨ n ≤ i.toNatClampNeg)) (hdg : decode cc pc = .ok (.iastore, 1))
    (kk : ∀ (H1 : Heap) (locs1 : List Loc), fm_H K (sI σ q i x) A s H1 locs1 → W p l e R s m args below meth c H1 locs1 cells slots Q (F0 m (pc + 1) ls rest)) : W p l e R s m args below meth c H locs cells slots Q (F0 m pc ls (.int x :: .int i :: .ref (K.2.2.2 q) :: rest)) := by
  subst hn
  have hset : (fm_W K σ).set (fm_pos q) (K.2.2.2 q, .inl (K.2.2.1 0, fm_len q, .inl (upd (σ.1 q) i.toNatClampNeg x))) = fm_W K (sI σ q i x) :=
    fm_set K σ (sI σ q i x) hq (by simp [fm_ce, ht, sI, fm_upd_wr]) (fun k _ hk => fm_ce_wr (fm_in_lt hq) hk)
  exact va_iast (f := σ.1 q) (n := fm_len q) (cA := K.2.2.1 0) hx hb hK hH.1 hH.2.1 hH.2.2 (fm_pos q) 0 (by rw [fm_get _ _ hq]; simp [fm_ce, ht]) rfl hin hdg (fun H1 locs1 hP hD hS => kk H1 locs1 ⟨hset ▸ hP, hset ▸ hD, hS⟩)
theorem fm_zst (hx : p.tables.exec = Jvm.exec) (hb : c.code = cc) (hK : fm_Kn K s) (hH : fm_H K σ A s H locs) (q : Nat) (hq : fm_in K q) (ht : fm_ty q = 2) {n : Nat} (hn : fm_len q = n) {i x : Int32} (hin : ¬ (i < 0 ∨ n ≤ i.toNatClampNeg)) (hdg : decode cc pc = .ok (.bastore, 1))
    (kk : ∀ (H1 : Heap) (locs1 : List Loc), fm_H K (sI σ q i (vp_nar .boolean x)) A s H1 locs1 → W p l e R s m args below meth c H1 locs1 cells slots Q (F0 m (pc + 1) ls rest)) : W p l e R s m args below meth c H locs cells slots Q (F0 m pc ls (.int x :: .int i :: .ref (K.2.2.2 q) :: rest)) := by
  subst hn
  have hset : (fm_W K σ).set (fm_pos q) (K.2.2.2 q, .inl (K.2.2.1 1, fm_len q, .inl (upd (σ.1 q) i.toNatClampNeg (vp_nar .boolean x)))) = fm_W K (sI σ q i (vp_nar .boolean x)) :=
    fm_set K σ (sI σ q i (vp_nar .boolean x)) hq (by simp [fm_ce, ht, sI, fm_upd_wr]) (fun k _ hk => fm_ce_wr (fm_in_lt hq) hk)
  exact va_zast (f := σ.1 q) (n := fm_len q) (cA := K.2.2.1 1) hx hb hK hH.1 hH.2.1 hH.2.2 (fm_pos q) 1 (by rw [fm_get _ _ hq]; simp [fm_ce, ht]) rfl hin hdg (fun H1 locs1 hP hD hS => kk H1 locs1 ⟨hset ▸ hP, hset ▸ hD, hS⟩)
theorem fm_lst (hx : p.tables.exec = Jvm.exec) (hb : c.code = cc) (hK : fm_Kn K s) (hH : fm_H K σ A s H locs) (q : Nat) (hq : fm_in K q) (ht : fm_ty q = 3) {n : Nat} (hn : fm_len q = n) {i : Int32} {x : Int64} (hin : ¬ (i < 0 ∨ n ≤ i.toNatClampNeg)) (hdg : decode cc pc = .ok (.lastore, 1))
    (kk : ∀ (H1 : Heap) (locs1 : List Loc), fm_H K (sL σ q i x) A s H1 locs1 → W p l e R s m args below meth c H1 locs1 cells slots Q (F0 m (pc + 1) ls rest)) : W p l e R s m args below meth c H locs cells slots Q (F0 m pc ls (.long x :: .int i :: .ref (K.2.2.2 q) :: rest)) := by
  subst hn
  have hset : (fm_W K σ).set (fm_pos q) (K.2.2.2 q, .inl (K.2.2.1 2, fm_len q, .inr (.inl (vp_updL (σ.2 q) i.toNatClampNeg x)))) = fm_W K (sL σ q i x) :=
    fm_set K σ (sL σ q i x) hq (by simp [fm_ce, ht, sL, fm_upd_wl]) (fun k _ hk => fm_ce_wl hk)
  exact va_last (f := σ.2 q) (n := fm_len q) (cA := K.2.2.1 2) hx hb hK hH.1 hH.2.1 hH.2.2 (fm_pos q) 2 (by rw [fm_get _ _ hq]; simp [fm_ce, ht]) rfl hin hdg (fun H1 locs1 hP hD hS => kk H1 locs1 ⟨hset ▸ hP, hset ▸ hD, hS⟩)
/-- a field of an object of the world -/
theorem fm_obj (K : fm_K) (σ : fm_S) {q : Nat} (hq : fm_in K q) (ht : fm_ty q = 0) : (fm_W K σ)[fm_pos q]? = some (K.2.2.2 q, .inr (fm_ob K.2.2.2 σ q)) := by rw [fm_get _ _ hq]; simp [fm_ce, ht]
theorem fm_getf (hx : p.tables.exec = Jvm.exec) (hb : c.code = cc) {own ref C : String} {T : u_T} {N ci index : Nat} {Ts : List Cond} (hts : ∀ w ∈ Ts, w.before args s = true) (hin : ∀ w ∈ u_ws C T N, w ∈ Ts) (hown : s.vm.findClass own = some m.cls) (hK : fm_Kn K s) (hH : fm_H K σ A s H locs) (q : Nat) (hq : fm_in K q) (ht : fm_ty q = 0) {fs : List Value} (hob : fm_ob K.2.2.2 σ q = (ci, fs)) (hc : vwCl[ci]? = some (C, T, N)) (k : Nat) (hk : k < N) (hlink : Cond.fieldLink own index ref (T k).2.1 (T k).2.2.1 ∈ Ts) (hsame : (T k).1 = ref) {v : Value} (hv : fs[k]? = some v) (hdg : decode cc pc = .ok (.getfield index, 3))
    (kk : W p l e R s m args below meth c H locs cells slots Q (F0 m (pc + 3) ls (v :: rest))) : W p l e R s m args below meth c H locs cells slots Q (F0 m pc ls (.ref (K.2.2.2 q) :: rest)) :=
  va_get (fs := fs) (ci := ci) hx hb hts hin hown hK hH.1 (fm_pos q) (by rw [fm_obj K σ hq ht, hob]) hc k hk (hts _ hlink) (fun x h => by rw [← hsame]; exact h) hv hdg kk
/-- a number field of the two objects is written -/
theorem fm_putf (hx : p.tables.exec = Jvm.exec) (hb : c.code = cc) {own ref C : String} {T : u_T} {N ci index : Nat} {Ts : List Cond} (hts : ∀ w ∈ Ts, w.before args s = true) (hin : ∀ w ∈ u_ws C T N, w ∈ Ts) (ty0 : Nat → FieldType) (hty : ∀ k, k < N → parseFieldDescriptor (T k).2.2.1 = some (ty0 k)) (hnm : ∀ a, a < N → ∀ b, b < N → a ≠ b → (T a).2.1 ≠ (T b).2.1) (hown : s.vm.findClass own = some m.cls) (hK : fm_Kn K s) (hH : fm_H K σ A s H locs) (q g j : Nat) (hq : fm_in K q) (ht : fm_ty q = 0) (hg : q = 0 ∧ g = 60) {fs : List Value} (hob : fm_ob K.2.2.2 σ q = (ci, fs)) (hc : vwCl[ci]? = some (C, T, N)) (k : Nat) (hk : k < N) (hlink : Cond.fieldLink own index ref (T k).2.1 (T k).2.2.1 ∈ Ts) (hsame : (T k).1 = ref) (hfin : (T k).2.2.2 = false) (hd : parseFieldDescriptor (T k).2.2.1 = some .int) {x : Int32} (hob2 : fm_ob K.2.2.2 (fm_wr σ g j x) q = (ci, fs.set k (.int x))) (hl : k < fs.length) (hdg : decode cc pc = .ok (.putfield index, 3))
    (kk : ∀ (H1 : Heap) (locs1 : List Loc), fm_H K (fm_wr σ g j x) A s H1 locs1 → W p l e R s m args below meth c H1 locs1 cells slots Q (F0 m (pc + 3) ls rest)) : W p l e R s m args below meth c H locs cells slots Q (F0 m pc ls (.int x :: .ref (K.2.2.2 q) :: rest)) := by
  have hset : (fm_W K σ).set (fm_pos q) (K.2.2.2 q, .inr (ci, fs.set k (.int x))) = fm_W K (fm_wr σ g j x) := by
    refine fm_set K σ (fm_wr σ g j x) hq (by simp [fm_ce, ht, hob2]) (fun k' hk1 hk2 => ?_)
    have e1 : (fm_wr σ g j x).1 k' = σ.1 k' := funext fun b => fm_wr_ne (by omega)
    have e4 : (fm_wr σ g j x).2 = σ.2 := rfl
    obtain ⟨rfl, rfl⟩ := hg
    simp only [fm_ce, fm_ob, e1, e4, if_neg hk2]
  exact va_put (fs := fs) (ci := ci) (v := .int x) (ty := .int) hx hb hts hin ty0 hty hnm hown hK hH.1 hH.2.1 hH.2.2 (fm_pos q) (by rw [fm_obj K σ hq ht, hob]) hc k hk (hts _ hlink) (fun x h => by rw [← hsame]; exact h) hfin hd rfl rfl hl hdg (fun H1 locs1 hP hD hS => kk H1 locs1 ⟨hset ▸ hP, hset ▸ hD, hS⟩)
end FMR
