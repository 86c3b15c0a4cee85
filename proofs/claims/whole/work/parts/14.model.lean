/-! RX5.thrown()I -/
abbrev rmX5_thrown : Room := { frames := 0, cells := 0, slots := 0, locals := 0 }
def mX5_thrown (σ : fm_S) : Option Int32 :=
  some (σ.1 61 2)
set_option maxHeartbeats 4000000 in
set_option maxRecDepth 100000 in
theorem kX5_thrown (l : Launch) (K : fm_K) {σ : fm_S} {r : Int32} (h : mX5_thrown σ = some r) : fm_CI l yX5_thrown wsX5_thrown rmX5_thrown K [.ref (K.2.2.2 40)] σ r σ := by
  intro sz
  refine fm_start (Qc := fun sz => fm_QI K r σ sz) (cc := cX5_thrown) (maxL := 1) (ret := (some .int)) (by decide) rfl (Nat.le_of_ble_eq_true rfl) ?_
  intro p e s m args below meth c C hr hlk hst hH ls hl
  have C : CallFix p m c cX5_thrown 1 s args wsX5_thrown RX5 := C
  obtain ⟨hx, hb, hml, hown, hts⟩ := id C
  have hA : ∀ q, fm_A K s.heap.size q → fm_A K s.heap.size q := fun _ h => h
  have hl : lv_has ls 1 [(0, .ref (K.2.2.2 40))] := hl
  generalize hQ : MQ below _ args s _ _ _ = Q
  rw [mX5_thrown] at h
  refine lv_aload_n hx hb dX5_thrown_0 rfl (lv_at hl 0 rfl) ?_
  refine fm_getf (T := TX5) (N := 17) hx hb hts (fun _ h => List.mem_cons_of_mem _ (List.mem_append_right _ h)) hown hst.1 hH 40 (by decide) rfl (fm_ob_40 _ _) rfl 16 (by decide) (List.mem_of_getElem? (i := 1) rfl) rfl rfl dX5_thrown_1 ?_
  cases h
  subst hQ
  exact fm_iret hx hb hr hlk hst hH dX5_thrown_4
/-! RX5.in(III)Z -/
abbrev rmX5_in : Room := { frames := 0, cells := 0, slots := 0, locals := 0 }
def mX5_in (x0 : Int32) (x1 : Int32) (x2 : Int32) : Option Int32 :=
  if x0 < x1 then
    some (0 : Int32)
  else
    if x2 < x0 then
      some (0 : Int32)
    else
      some (1 : Int32)
set_option maxHeartbeats 4000000 in
set_option maxRecDepth 100000 in
theorem kX5_in (l : Launch) (K : fm_K) {x0 : Int32} {x1 : Int32} {x2 : Int32} {σ : fm_S} {r : Int32} (h : mX5_in x0 x1 x2 = some r) : fm_CI l yX5_in wsX5_in rmX5_in K [.int x0, .int x1, .int x2] σ r σ := by
  intro sz
  refine fm_start (Qc := fun sz => fm_QI K r σ sz) (cc := cX5_in) (maxL := 3) (ret := (some .boolean)) (by decide) rfl (Nat.le_of_ble_eq_true rfl) ?_
  intro p e s m args below meth c C hr hlk hst hH ls hl
  have C : CallFix p m c cX5_in 3 s args wsX5_in RX5 := C
  obtain ⟨hx, hb, hml, hown, hts⟩ := id C
  have hA : ∀ q, fm_A K s.heap.size q → fm_A K s.heap.size q := fun _ h => h
  have hl : lv_has ls 3 [(0, .int x0), (1, .int x1), (2, .int x2)] := hl
  generalize hQ : MQ below _ args s _ _ _ = Q
  rw [mX5_in] at h
  refine lv_iload_n hx hb dX5_in_0 rfl (lv_at hl 0 rfl) ?_
  refine lv_iload_n hx hb dX5_in_1 rfl (lv_at hl 1 rfl) ?_
  refine lv_icmp_lt (tgt := 14) hx hb dX5_in_2 (by decide) (fun hc => ?_) (fun hc => ?_)
  · replace h := mi_pos hc h
    refine lv_iconst (v := 0) hx hb dX5_in_14 (by decide) ?_
    cases h
    subst hQ
    exact fm_zret hx hb hr rfl hlk hst hH dX5_in_15
  · replace h := mi_neg hc h
    refine lv_iload_n hx hb dX5_in_5 rfl (lv_at hl 0 rfl) ?_
    refine lv_iload_n hx hb dX5_in_6 rfl (lv_at hl 2 rfl) ?_
    refine lv_icmp_gt (tgt := 14) hx hb dX5_in_7 (by decide) (fun hc => ?_) (fun hc => ?_)
    · replace h := mi_pos hc h
      refine lv_iconst (v := 0) hx hb dX5_in_14 (by decide) ?_
      cases h
      subst hQ
      exact fm_zret hx hb hr rfl hlk hst hH dX5_in_15
    · replace h := mi_neg hc h
      refine lv_iconst (v := 1) hx hb dX5_in_10 (by decide) ?_
      refine lv_goto (tgt := 15) hx hb dX5_in_11 (by decide) ?_
      cases h
      subst hQ
      exact fm_zret hx hb hr rfl hlk hst hH dX5_in_15
/-! RX5.goes(ZZ)Z -/
abbrev rmX5_goes : Room := { frames := 0, cells := 0, slots := 0, locals := 0 }
def mX5_goes (x1 : Int32) (x2 : Int32) (σ : fm_S) : Option (Int32 × fm_S) :=
  mb1 (show Option (Int32) from
    if x1 = 0 then
      some ((1 : Int32))
    else
      if x2 = 0 then
        some ((2 : Int32))
      else
        some ((0 : Int32))) fun v1_0 =>
  if ((fm_wr σ 61 2 v1_0).1 61 2) = 0 then
    some ((1 : Int32), (fm_wr σ 61 2 v1_0))
  else
    some ((0 : Int32), (fm_wr σ 61 2 v1_0))
set_option maxHeartbeats 4000000 in
set_option maxRecDepth 100000 in
theorem kX5_goes (l : Launch) (K : fm_K) {x1 : Int32} {x2 : Int32} {σ : fm_S} {r : Int32} {σ' : fm_S} (h : mX5_goes x1 x2 σ = some (r, σ')) : fm_CI l yX5_goes wsX5_goes rmX5_goes K [.ref (K.2.2.2 40), .int x1, .int x2] σ r σ' := by
  intro sz
  refine fm_start (Qc := fun sz => fm_QI K r σ' sz) (cc := cX5_goes) (maxL := 3) (ret := (some .boolean)) (by decide) rfl (Nat.le_of_ble_eq_true rfl) ?_
  intro p e s m args below meth c C hr hlk hst hH ls hl
  have C : CallFix p m c cX5_goes 3 s args wsX5_goes RX5 := C
  obtain ⟨hx, hb, hml, hown, hts⟩ := id C
  have hA : ∀ q, fm_A K s.heap.size q → fm_A K s.heap.size q := fun _ h => h
  have hl : lv_has ls 3 [(0, .ref (K.2.2.2 40)), (1, .int x1), (2, .int x2)] := hl
  generalize hQ : MQ below _ args s _ _ _ = Q
  rw [mX5_goes] at h
  refine lv_aload_n hx hb dX5_goes_0 rfl (lv_at hl 0 rfl) ?_
  refine lv_iload_n hx hb dX5_goes_1 rfl (lv_at hl 1 rfl) ?_
  obtain ⟨v1_0, hd, h2⟩ := mi_b1 h
  have kj : ∀ (ls : Array Slot) (H : Heap) (locs : List Loc), lv_has ls 3 [(0, .ref (K.2.2.2 40))] → fm_H K σ (fm_A K s.heap.size) s H locs → W p l e rmX5_goes s m args below meth c H locs 0 0 Q (F0 m 18 ls [.int v1_0, .ref (K.2.2.2 40)]) := by
    clear h hd
    intro ls H locs hl hH
    have h := h2
    clear h2
    refine fm_putf (T := TX5) (N := 17) hx hb hts (fun _ h => List.mem_cons_of_mem _ (List.mem_append_right _ h)) tyX5 tyX5_ok nmX5 hown hst.1 hH 40 61 2 (by decide) rfl (by decide) (fm_ob_40 _ _) rfl 16 (by decide) (List.mem_of_getElem? (i := 1) rfl) rfl rfl rfl rfl (Nat.le_of_ble_eq_true rfl) dX5_goes_18 (fun H locs hH => ?_)
    refine lv_aload_n hx hb dX5_goes_21 rfl (lv_at hl 0 rfl) ?_
    refine fm_getf (T := TX5) (N := 17) hx hb hts (fun _ h => List.mem_cons_of_mem _ (List.mem_append_right _ h)) hown hst.1 hH 40 (by decide) rfl (fm_ob_40 _ _) rfl 16 (by decide) (List.mem_of_getElem? (i := 1) rfl) rfl rfl dX5_goes_22 ?_
    refine lv_if_ne (tgt := 32) hx hb dX5_goes_25 (by decide) (fun hc => ?_) (fun hc => ?_)
    · replace h := mi_neg hc h
      refine lv_iconst (v := 0) hx hb dX5_goes_32 (by decide) ?_
      cases h
      subst hQ
      exact fm_zret hx hb hr rfl hlk hst hH dX5_goes_33
    · replace h := mi_pos hc h
      refine lv_iconst (v := 1) hx hb dX5_goes_28 (by decide) ?_
      refine lv_goto (tgt := 33) hx hb dX5_goes_29 (by decide) ?_
      cases h
      subst hQ
      exact fm_zret hx hb hr rfl hlk hst hH dX5_goes_33
  replace h := hd
  clear h2 hd
  refine lv_if_ne (tgt := 9) hx hb dX5_goes_2 (by decide) (fun hc => ?_) (fun hc => ?_)
  · replace h := mi_neg hc h
    refine lv_iload_n hx hb dX5_goes_9 rfl (lv_at hl 2 rfl) ?_
    refine lv_if_eq (tgt := 17) hx hb dX5_goes_10 (by decide) (fun hc => ?_) (fun hc => ?_)
    · replace h := mi_pos hc h
      refine lv_iconst (v := 2) hx hb dX5_goes_17 (by decide) ?_
      cases h
      exact kj _ _ _ (lv_sub hl [0] rfl) hH
    · replace h := mi_neg hc h
      refine lv_iconst (v := 0) hx hb dX5_goes_13 (by decide) ?_
      refine lv_goto (tgt := 18) hx hb dX5_goes_14 (by decide) ?_
      cases h
      exact kj _ _ _ (lv_sub hl [0] rfl) hH
  · replace h := mi_pos hc h
    refine lv_iconst (v := 1) hx hb dX5_goes_5 (by decide) ?_
    refine lv_goto (tgt := 18) hx hb dX5_goes_6 (by decide) ?_
    cases h
    exact kj _ _ _ (lv_sub hl [0] rfl) hH
/-! RX5.is(I)Z -/
abbrev rmX5_is : Room := { frames := 1, cells := 0, slots := 0, locals := 22 }
def mX5_is (x1 : Int32) (σ : fm_S) : Option Int32 :=
  mb1 (mX5_in x1 (0 : Int32) ((σ.1 61 0) - (1 : Int32))) fun r8 =>
  if ¬ vp_nar .boolean r8 = r8 then none else
  some r8
set_option maxHeartbeats 4000000 in
set_option maxRecDepth 100000 in
theorem kX5_is (l : Launch) (K : fm_K) {x1 : Int32} {σ : fm_S} {r : Int32} (h : mX5_is x1 σ = some r) : fm_CI l yX5_is wsX5_is rmX5_is K [.ref (K.2.2.2 40), .int x1] σ r σ := by
  intro sz
  refine fm_start (Qc := fun sz => fm_QI K r σ sz) (cc := cX5_is) (maxL := 2) (ret := (some .boolean)) (by decide) rfl (Nat.le_of_ble_eq_true rfl) ?_
  intro p e s m args below meth c C hr hlk hst hH ls hl
  have C : CallFix p m c cX5_is 2 s args wsX5_is RX5 := C
  obtain ⟨hx, hb, hml, hown, hts⟩ := id C
  have hA : ∀ q, fm_A K s.heap.size q → fm_A K s.heap.size q := fun _ h => h
  have hl : lv_has ls 2 [(0, .ref (K.2.2.2 40)), (1, .int x1)] := hl
  generalize hQ : MQ below _ args s _ _ _ = Q
  rw [mX5_is] at h
  refine lv_iload_n hx hb dX5_is_0 rfl (lv_at hl 1 rfl) ?_
  refine lv_iconst (v := 0) hx hb dX5_is_1 (by decide) ?_
  refine lv_aload_n hx hb dX5_is_2 rfl (lv_at hl 0 rfl) ?_
  refine fm_getf (T := TX5) (N := 17) hx hb hts (fun _ h => List.mem_cons_of_mem _ (List.mem_append_right _ h)) hown hst.1 hH 40 (by decide) rfl (fm_ob_40 _ _) rfl 10 (by decide) (List.mem_of_getElem? (i := 1) rfl) rfl rfl dX5_is_3 ?_
  refine lv_iconst (v := 1) hx hb dX5_is_6 (by decide) ?_
  refine lv_isub hx hb dX5_is_7 ?_
  obtain ⟨r8, h8, h⟩ := mi_b1 h
  refine fm_ci (va_runS (As := [.int x1, .int (0 : Int32), .int ((σ.1 61 0) - (1 : Int32))]) (rest := []) C (kX5_in l K h8 _) (va_cwS 3 hts gX5_is_X5_in rfl rfl rfl (by decide +kernel) ⟨(Nat.le_of_ble_eq_true rfl), (Nat.le_of_ble_eq_true rfl)⟩) ⟨fm_blind, fm_pre hst hA hH⟩ rfl rfl hl.1 rfl (lv_room (Nat.le_of_ble_eq_true rfl)) dX5_is_8 ⟨(Nat.le_of_ble_eq_true rfl), (Nat.le_of_ble_eq_true rfl)⟩) hA hH (fun H locs hH => ?_)
  obtain ⟨hn1, h⟩ := mi_chk h
  cases h
  subst hQ
  exact fm_zret hx hb hr (Decidable.not_not.mp hn1) hlk hst hH dX5_is_11
/-! RX5.isPlace(II)Z -/
abbrev rmX5_isPlace : Room := { frames := 1, cells := 0, slots := 0, locals := 22 }
def mX5_isPlace (x0 : Int32) (x1 : Int32) : Option Int32 :=
  mb1 (mX5_in x0 (-1000 : Int32) (1000 : Int32)) fun r7 =>
  if r7 = 0 then
    some (0 : Int32)
  else
    mb1 (mX5_in x1 (-1000 : Int32) (1000 : Int32)) fun r20 =>
    if r20 = 0 then
      some (0 : Int32)
    else
      some (1 : Int32)
set_option maxHeartbeats 4000000 in
set_option maxRecDepth 100000 in
theorem kX5_isPlace (l : Launch) (K : fm_K) {x0 : Int32} {x1 : Int32} {σ : fm_S} {r : Int32} (h : mX5_isPlace x0 x1 = some r) : fm_CI l yX5_isPlace wsX5_isPlace rmX5_isPlace K [.int x0, .int x1] σ r σ := by
  intro sz
  refine fm_start (Qc := fun sz => fm_QI K r σ sz) (cc := cX5_isPlace) (maxL := 2) (ret := (some .boolean)) (by decide) rfl (Nat.le_of_ble_eq_true rfl) ?_
  intro p e s m args below meth c C hr hlk hst hH ls hl
  have C : CallFix p m c cX5_isPlace 2 s args wsX5_isPlace RX5 := C
  obtain ⟨hx, hb, hml, hown, hts⟩ := id C
  have hA : ∀ q, fm_A K s.heap.size q → fm_A K s.heap.size q := fun _ h => h
  have hl : lv_has ls 2 [(0, .int x0), (1, .int x1)] := hl
  generalize hQ : MQ below _ args s _ _ _ = Q
  rw [mX5_isPlace] at h
  refine lv_iload_n hx hb dX5_isPlace_0 rfl (lv_at hl 0 rfl) ?_
  refine lv_sipush (v := -1000) hx hb dX5_isPlace_1 (by decide) ?_
  refine lv_sipush (v := 1000) hx hb dX5_isPlace_4 (by decide) ?_
  obtain ⟨r7, h7, h⟩ := mi_b1 h
  refine fm_ci (va_runS (As := [.int x0, .int (-1000 : Int32), .int (1000 : Int32)]) (rest := []) C (kX5_in l K h7 _) (va_cwS 3 hts gX5_isPlace_X5_in rfl rfl rfl (by decide +kernel) ⟨(Nat.le_of_ble_eq_true rfl), (Nat.le_of_ble_eq_true rfl)⟩) ⟨fm_blind, fm_pre hst hA hH⟩ rfl rfl hl.1 rfl (lv_room (Nat.le_of_ble_eq_true rfl)) dX5_isPlace_7 ⟨(Nat.le_of_ble_eq_true rfl), (Nat.le_of_ble_eq_true rfl)⟩) hA hH (fun H locs hH => ?_)
  refine lv_if_eq (tgt := 30) hx hb dX5_isPlace_10 (by decide) (fun hc => ?_) (fun hc => ?_)
  · replace h := mi_pos hc h
    refine lv_iconst (v := 0) hx hb dX5_isPlace_30 (by decide) ?_
    cases h
    subst hQ
    exact fm_zret hx hb hr rfl hlk hst hH dX5_isPlace_31
  · replace h := mi_neg hc h
    refine lv_iload_n hx hb dX5_isPlace_13 rfl (lv_at hl 1 rfl) ?_
    refine lv_sipush (v := -1000) hx hb dX5_isPlace_14 (by decide) ?_
    refine lv_sipush (v := 1000) hx hb dX5_isPlace_17 (by decide) ?_
    obtain ⟨r20, h20, h⟩ := mi_b1 h
    refine fm_ci (va_runS (As := [.int x1, .int (-1000 : Int32), .int (1000 : Int32)]) (rest := []) C (kX5_in l K h20 _) (va_cwS 3 hts gX5_isPlace_X5_in rfl rfl rfl (by decide +kernel) ⟨(Nat.le_of_ble_eq_true rfl), (Nat.le_of_ble_eq_true rfl)⟩) ⟨fm_blind, fm_pre hst hA hH⟩ rfl rfl hl.1 rfl (lv_room (Nat.le_of_ble_eq_true rfl)) dX5_isPlace_20 ⟨(Nat.le_of_ble_eq_true rfl), (Nat.le_of_ble_eq_true rfl)⟩) hA hH (fun H locs hH => ?_)
    refine lv_if_eq (tgt := 30) hx hb dX5_isPlace_23 (by decide) (fun hc => ?_) (fun hc => ?_)
    · replace h := mi_pos hc h
      refine lv_iconst (v := 0) hx hb dX5_isPlace_30 (by decide) ?_
      cases h
      subst hQ
      exact fm_zret hx hb hr rfl hlk hst hH dX5_isPlace_31
    · replace h := mi_neg hc h
      refine lv_iconst (v := 1) hx hb dX5_isPlace_26 (by decide) ?_
      refine lv_goto (tgt := 31) hx hb dX5_isPlace_27 (by decide) ?_
      cases h
      subst hQ
      exact fm_zret hx hb hr rfl hlk hst hH dX5_isPlace_31
/-! RX5.addMember(II)I -/
abbrev rmX5_addMember : Room := { frames := 2, cells := 0, slots := 0, locals := 43 }
def mX5_addMember (x1 : Int32) (x2 : Int32) (σ : fm_S) : Option (Int32 × fm_S) :=
  mb1 (mX5_isPlace x1 x2) fun r3 =>
  mb1 (show Option (Int32) from
    if (8 : Int32) ≤ (σ.1 61 0) then
      some ((0 : Int32))
    else
      some ((1 : Int32))) fun v1_0 =>
  mb2 (mX5_goes r3 v1_0 σ) fun r20 σ20 =>
  if r20 = 0 then
    some ((0 : Int32), σ20)
  else
    if ((σ20.1 61 0) < 0 ∨ 8 ≤ (σ20.1 61 0).toNatClampNeg) then none else
    if (((sI σ20 41 (σ20.1 61 0) x1).1 61 0) < 0 ∨ 8 ≤ ((sI σ20 41 (σ20.1 61 0) x1).1 61 0).toNatClampNeg) then none else
    if (((sI (sI σ20 41 (σ20.1 61 0) x1) 42 ((sI σ20 41 (σ20.1 61 0) x1).1 61 0) x2).1 61 0) < 0 ∨ 8 ≤ ((sI (sI σ20 41 (σ20.1 61 0) x1) 42 ((sI σ20 41 (σ20.1 61 0) x1).1 61 0) x2).1 61 0).toNatClampNeg) then none else
    if (((sI (sI (sI σ20 41 (σ20.1 61 0) x1) 42 ((sI σ20 41 (σ20.1 61 0) x1).1 61 0) x2) 47 ((sI (sI σ20 41 (σ20.1 61 0) x1) 42 ((sI σ20 41 (σ20.1 61 0) x1).1 61 0) x2).1 61 0) (1024 : Int32)).1 61 0) < 0 ∨ 8 ≤ ((sI (sI (sI σ20 41 (σ20.1 61 0) x1) 42 ((sI σ20 41 (σ20.1 61 0) x1).1 61 0) x2) 47 ((sI (sI σ20 41 (σ20.1 61 0) x1) 42 ((sI σ20 41 (σ20.1 61 0) x1).1 61 0) x2).1 61 0) (1024 : Int32)).1 61 0).toNatClampNeg) then none else
    some ((((fm_wr (sI (sI (sI (sI σ20 41 (σ20.1 61 0) x1) 42 ((sI σ20 41 (σ20.1 61 0) x1).1 61 0) x2) 47 ((sI (sI σ20 41 (σ20.1 61 0) x1) 42 ((sI σ20 41 (σ20.1 61 0) x1).1 61 0) x2).1 61 0) (1024 : Int32)) 48 ((sI (sI (sI σ20 41 (σ20.1 61 0) x1) 42 ((sI σ20 41 (σ20.1 61 0) x1).1 61 0) x2) 47 ((sI (sI σ20 41 (σ20.1 61 0) x1) 42 ((sI σ20 41 (σ20.1 61 0) x1).1 61 0) x2).1 61 0) (1024 : Int32)).1 61 0) (-1 : Int32)) 61 0 (((sI (sI (sI (sI σ20 41 (σ20.1 61 0) x1) 42 ((sI σ20 41 (σ20.1 61 0) x1).1 61 0) x2) 47 ((sI (sI σ20 41 (σ20.1 61 0) x1) 42 ((sI σ20 41 (σ20.1 61 0) x1).1 61 0) x2).1 61 0) (1024 : Int32)) 48 ((sI (sI (sI σ20 41 (σ20.1 61 0) x1) 42 ((sI σ20 41 (σ20.1 61 0) x1).1 61 0) x2) 47 ((sI (sI σ20 41 (σ20.1 61 0) x1) 42 ((sI σ20 41 (σ20.1 61 0) x1).1 61 0) x2).1 61 0) (1024 : Int32)).1 61 0) (-1 : Int32)).1 61 0) + (1 : Int32))).1 61 0) - (1 : Int32)), (fm_wr (sI (sI (sI (sI σ20 41 (σ20.1 61 0) x1) 42 ((sI σ20 41 (σ20.1 61 0) x1).1 61 0) x2) 47 ((sI (sI σ20 41 (σ20.1 61 0) x1) 42 ((sI σ20 41 (σ20.1 61 0) x1).1 61 0) x2).1 61 0) (1024 : Int32)) 48 ((sI (sI (sI σ20 41 (σ20.1 61 0) x1) 42 ((sI σ20 41 (σ20.1 61 0) x1).1 61 0) x2) 47 ((sI (sI σ20 41 (σ20.1 61 0) x1) 42 ((sI σ20 41 (σ20.1 61 0) x1).1 61 0) x2).1 61 0) (1024 : Int32)).1 61 0) (-1 : Int32)) 61 0 (((sI (sI (sI (sI σ20 41 (σ20.1 61 0) x1) 42 ((sI σ20 41 (σ20.1 61 0) x1).1 61 0) x2) 47 ((sI (sI σ20 41 (σ20.1 61 0) x1) 42 ((sI σ20 41 (σ20.1 61 0) x1).1 61 0) x2).1 61 0) (1024 : Int32)) 48 ((sI (sI (sI σ20 41 (σ20.1 61 0) x1) 42 ((sI σ20 41 (σ20.1 61 0) x1).1 61 0) x2) 47 ((sI (sI σ20 41 (σ20.1 61 0) x1) 42 ((sI σ20 41 (σ20.1 61 0) x1).1 61 0) x2).1 61 0) (1024 : Int32)).1 61 0) (-1 : Int32)).1 61 0) + (1 : Int32))))
set_option maxHeartbeats 4000000 in
set_option maxRecDepth 100000 in
theorem kX5_addMember (l : Launch) (K : fm_K) {x1 : Int32} {x2 : Int32} {σ : fm_S} {r : Int32} {σ' : fm_S} (h : mX5_addMember x1 x2 σ = some (r, σ')) : fm_CI l yX5_addMember wsX5_addMember rmX5_addMember K [.ref (K.2.2.2 40), .int x1, .int x2] σ r σ' := by
  intro sz
  refine fm_start (Qc := fun sz => fm_QI K r σ' sz) (cc := cX5_addMember) (maxL := 3) (ret := (some .int)) (by decide) rfl (Nat.le_of_ble_eq_true rfl) ?_
  intro p e s m args below meth c C hr hlk hst hH ls hl
  have C : CallFix p m c cX5_addMember 3 s args wsX5_addMember RX5 := C
  obtain ⟨hx, hb, hml, hown, hts⟩ := id C
  have hA : ∀ q, fm_A K s.heap.size q → fm_A K s.heap.size q := fun _ h => h
  have hl : lv_has ls 3 [(0, .ref (K.2.2.2 40)), (1, .int x1), (2, .int x2)] := hl
  generalize hQ : MQ below _ args s _ _ _ = Q
  rw [mX5_addMember] at h
  refine lv_aload_n hx hb dX5_addMember_0 rfl (lv_at hl 0 rfl) ?_
  refine lv_iload_n hx hb dX5_addMember_1 rfl (lv_at hl 1 rfl) ?_
  refine lv_iload_n hx hb dX5_addMember_2 rfl (lv_at hl 2 rfl) ?_
  obtain ⟨r3, h3, h⟩ := mi_b1 h
  refine fm_ci (va_runS (As := [.int x1, .int x2]) (rest := [.ref (K.2.2.2 40)]) C (kX5_isPlace l K h3 _) (va_cwS 2 hts gX5_addMember_X5_isPlace rfl rfl rfl (by decide +kernel) ⟨(Nat.le_of_ble_eq_true rfl), (Nat.le_of_ble_eq_true rfl)⟩) ⟨fm_blind, fm_pre hst hA hH⟩ rfl rfl hl.1 rfl (lv_room (Nat.le_of_ble_eq_true rfl)) dX5_addMember_3 ⟨(Nat.le_of_ble_eq_true rfl), (Nat.le_of_ble_eq_true rfl)⟩) hA hH (fun H locs hH => ?_)
  refine lv_aload_n hx hb dX5_addMember_6 rfl (lv_at hl 0 rfl) ?_
  refine fm_getf (T := TX5) (N := 17) hx hb hts (fun _ h => List.mem_cons_of_mem _ (List.mem_append_right _ h)) hown hst.1 hH 40 (by decide) rfl (fm_ob_40 _ _) rfl 10 (by decide) (List.mem_of_getElem? (i := 1) rfl) rfl rfl dX5_addMember_7 ?_
  refine lv_bipush (v := 8) hx hb dX5_addMember_10 (by decide) ?_
  obtain ⟨v1_0, hd, h2⟩ := mi_b1 h
  have kj : ∀ (ls : Array Slot) (H : Heap) (locs : List Loc), lv_has ls 3 [(0, .ref (K.2.2.2 40)), (1, .int x1), (2, .int x2)] → fm_H K σ (fm_A K s.heap.size) s H locs → W p l e rmX5_addMember s m args below meth c H locs 0 0 Q (F0 m 20 ls [.int v1_0, .int r3, .ref (K.2.2.2 40)]) := by
    clear h hd
    intro ls H locs hl hH
    have h := h2
    clear h2
    obtain ⟨r20, σ20, h20, h⟩ := mi_b2 h
    refine fm_ci (va_runV (As := [.int r3, .int v1_0]) (rest := []) C (kX5_goes l K h20 _) (cwV 2 hts gX5_addMember_X5_goes rfl rfl rfl (by decide +kernel) ⟨(Nat.le_of_ble_eq_true rfl), (Nat.le_of_ble_eq_true rfl)⟩) ⟨fm_blind, fm_recv hst hH (q := 40) (by decide) rfl (fm_ob_40 _ _) rfl, fm_pre hst hA hH⟩ rfl rfl hl.1 rfl (lv_room (Nat.le_of_ble_eq_true rfl)) dX5_addMember_20 ⟨(Nat.le_of_ble_eq_true rfl), (Nat.le_of_ble_eq_true rfl)⟩) hA hH (fun H locs hH => ?_)
    refine lv_if_ne (tgt := 28) hx hb dX5_addMember_23 (by decide) (fun hc => ?_) (fun hc => ?_)
    · replace h := mi_neg hc h
      refine lv_aload_n hx hb dX5_addMember_28 rfl (lv_at hl 0 rfl) ?_
      refine fm_getf (T := TX5) (N := 17) hx hb hts (fun _ h => List.mem_cons_of_mem _ (List.mem_append_right _ h)) hown hst.1 hH 40 (by decide) rfl (fm_ob_40 _ _) rfl 0 (by decide) (List.mem_of_getElem? (i := 2) rfl) rfl rfl dX5_addMember_29 ?_
      refine lv_aload_n hx hb dX5_addMember_32 rfl (lv_at hl 0 rfl) ?_
      refine fm_getf (T := TX5) (N := 17) hx hb hts (fun _ h => List.mem_cons_of_mem _ (List.mem_append_right _ h)) hown hst.1 hH 40 (by decide) rfl (fm_ob_40 _ _) rfl 10 (by decide) (List.mem_of_getElem? (i := 1) rfl) rfl rfl dX5_addMember_33 ?_
      refine lv_iload_n hx hb dX5_addMember_36 rfl (lv_at hl 1 rfl) ?_
      obtain ⟨hi2, h⟩ := mi_chk h
      refine fm_ist hx hb hst.1 hH 41 (by decide) rfl rfl hi2 dX5_addMember_37 (fun H locs hH => ?_)
      refine lv_aload_n hx hb dX5_addMember_38 rfl (lv_at hl 0 rfl) ?_
      refine fm_getf (T := TX5) (N := 17) hx hb hts (fun _ h => List.mem_cons_of_mem _ (List.mem_append_right _ h)) hown hst.1 hH 40 (by decide) rfl (fm_ob_40 _ _) rfl 1 (by decide) (List.mem_of_getElem? (i := 3) rfl) rfl rfl dX5_addMember_39 ?_
      refine lv_aload_n hx hb dX5_addMember_42 rfl (lv_at hl 0 rfl) ?_
      refine fm_getf (T := TX5) (N := 17) hx hb hts (fun _ h => List.mem_cons_of_mem _ (List.mem_append_right _ h)) hown hst.1 hH 40 (by decide) rfl (fm_ob_40 _ _) rfl 10 (by decide) (List.mem_of_getElem? (i := 1) rfl) rfl rfl dX5_addMember_43 ?_
      refine lv_iload_n hx hb dX5_addMember_46 rfl (lv_at hl 2 rfl) ?_
      obtain ⟨hi3, h⟩ := mi_chk h
      refine fm_ist hx hb hst.1 hH 42 (by decide) rfl rfl hi3 dX5_addMember_47 (fun H locs hH => ?_)
      refine lv_aload_n hx hb dX5_addMember_48 rfl (lv_at hl 0 rfl) ?_
      refine fm_getf (T := TX5) (N := 17) hx hb hts (fun _ h => List.mem_cons_of_mem _ (List.mem_append_right _ h)) hown hst.1 hH 40 (by decide) rfl (fm_ob_40 _ _) rfl 6 (by decide) (List.mem_of_getElem? (i := 4) rfl) rfl rfl dX5_addMember_49 ?_
      refine lv_aload_n hx hb dX5_addMember_52 rfl (lv_at hl 0 rfl) ?_
      refine fm_getf (T := TX5) (N := 17) hx hb hts (fun _ h => List.mem_cons_of_mem _ (List.mem_append_right _ h)) hown hst.1 hH 40 (by decide) rfl (fm_ob_40 _ _) rfl 10 (by decide) (List.mem_of_getElem? (i := 1) rfl) rfl rfl dX5_addMember_53 ?_
      refine lv_sipush (v := 1024) hx hb dX5_addMember_56 (by decide) ?_
      obtain ⟨hi4, h⟩ := mi_chk h
      refine fm_ist hx hb hst.1 hH 47 (by decide) rfl rfl hi4 dX5_addMember_59 (fun H locs hH => ?_)
      refine lv_aload_n hx hb dX5_addMember_60 rfl (lv_at hl 0 rfl) ?_
      refine fm_getf (T := TX5) (N := 17) hx hb hts (fun _ h => List.mem_cons_of_mem _ (List.mem_append_right _ h)) hown hst.1 hH 40 (by decide) rfl (fm_ob_40 _ _) rfl 7 (by decide) (List.mem_of_getElem? (i := 5) rfl) rfl rfl dX5_addMember_61 ?_
      refine lv_aload_n hx hb dX5_addMember_64 rfl (lv_at hl 0 rfl) ?_
      refine fm_getf (T := TX5) (N := 17) hx hb hts (fun _ h => List.mem_cons_of_mem _ (List.mem_append_right _ h)) hown hst.1 hH 40 (by decide) rfl (fm_ob_40 _ _) rfl 10 (by decide) (List.mem_of_getElem? (i := 1) rfl) rfl rfl dX5_addMember_65 ?_
      refine lv_iconst (v := -1) hx hb dX5_addMember_68 (by decide) ?_
      obtain ⟨hi5, h⟩ := mi_chk h
      refine fm_ist hx hb hst.1 hH 48 (by decide) rfl rfl hi5 dX5_addMember_69 (fun H locs hH => ?_)
      refine lv_aload_n hx hb dX5_addMember_70 rfl (lv_at hl 0 rfl) ?_
      refine lv_dup hx hb dX5_addMember_71 rfl ?_
      refine fm_getf (T := TX5) (N := 17) hx hb hts (fun _ h => List.mem_cons_of_mem _ (List.mem_append_right _ h)) hown hst.1 hH 40 (by decide) rfl (fm_ob_40 _ _) rfl 10 (by decide) (List.mem_of_getElem? (i := 1) rfl) rfl rfl dX5_addMember_72 ?_
      refine lv_iconst (v := 1) hx hb dX5_addMember_75 (by decide) ?_
      refine lv_iadd hx hb dX5_addMember_76 ?_
      refine fm_putf (T := TX5) (N := 17) hx hb hts (fun _ h => List.mem_cons_of_mem _ (List.mem_append_right _ h)) tyX5 tyX5_ok nmX5 hown hst.1 hH 40 61 0 (by decide) rfl (by decide) (fm_ob_40 _ _) rfl 10 (by decide) (List.mem_of_getElem? (i := 1) rfl) rfl rfl rfl rfl (Nat.le_of_ble_eq_true rfl) dX5_addMember_77 (fun H locs hH => ?_)
      refine lv_aload_n hx hb dX5_addMember_80 rfl (lv_at hl 0 rfl) ?_
      refine fm_getf (T := TX5) (N := 17) hx hb hts (fun _ h => List.mem_cons_of_mem _ (List.mem_append_right _ h)) hown hst.1 hH 40 (by decide) rfl (fm_ob_40 _ _) rfl 10 (by decide) (List.mem_of_getElem? (i := 1) rfl) rfl rfl dX5_addMember_81 ?_
      refine lv_iconst (v := 1) hx hb dX5_addMember_84 (by decide) ?_
      refine lv_isub hx hb dX5_addMember_85 ?_
      cases h
      subst hQ
      exact fm_iret hx hb hr hlk hst hH dX5_addMember_86
    · replace h := mi_pos hc h
      refine lv_iconst (v := 0) hx hb dX5_addMember_26 (by decide) ?_
      cases h
      subst hQ
      exact fm_iret hx hb hr hlk hst hH dX5_addMember_27
  replace h := hd
  clear h2 hd
  refine lv_icmp_ge (tgt := 19) hx hb dX5_addMember_12 (by decide) (fun hc => ?_) (fun hc => ?_)
  · replace h := mi_pos hc h
    refine lv_iconst (v := 0) hx hb dX5_addMember_19 (by decide) ?_
    cases h
    exact kj _ _ _ (lv_sub hl [0, 1, 2] rfl) hH
  · replace h := mi_neg hc h
    refine lv_iconst (v := 1) hx hb dX5_addMember_15 (by decide) ?_
    refine lv_goto (tgt := 20) hx hb dX5_addMember_16 (by decide) ?_
    cases h
    exact kj _ _ _ (lv_sub hl [0, 1, 2] rfl) hH
/-! RX5.move(III)V -/
abbrev rmX5_move : Room := { frames := 2, cells := 0, slots := 0, locals := 43 }
def mX5_move (x1 : Int32) (x2 : Int32) (x3 : Int32) (σ : fm_S) : Option fm_S :=
  mb1 (mX5_is x1 σ) fun r3 =>
  mb1 (mX5_isPlace x2 x3) fun r8 =>
  mb2 (mX5_goes r3 r8 σ) fun r11 σ11 =>
  if r11 = 0 then
    some σ11
  else
    if (x1 < 0 ∨ 8 ≤ x1.toNatClampNeg) then none else
    some (sI (sI σ11 41 x1 x2) 42 x1 x3)
set_option maxHeartbeats 4000000 in
set_option maxRecDepth 100000 in
theorem kX5_move (l : Launch) (K : fm_K) {x1 : Int32} {x2 : Int32} {x3 : Int32} {σ : fm_S} {σ' : fm_S} (h : mX5_move x1 x2 x3 σ = some σ') : fm_CV l yX5_move wsX5_move rmX5_move K [.ref (K.2.2.2 40), .int x1, .int x2, .int x3] σ σ' := by
  intro sz
  refine fm_start (Qc := fun sz => fm_QV K σ' sz) (cc := cX5_move) (maxL := 4) (ret := none) (by decide) rfl (Nat.le_of_ble_eq_true rfl) ?_
  intro p e s m args below meth c C hr hlk hst hH ls hl
  have C : CallFix p m c cX5_move 4 s args wsX5_move RX5 := C
  obtain ⟨hx, hb, hml, hown, hts⟩ := id C
  have hA : ∀ q, fm_A K s.heap.size q → fm_A K s.heap.size q := fun _ h => h
  have hl : lv_has ls 4 [(0, .ref (K.2.2.2 40)), (1, .int x1), (2, .int x2), (3, .int x3)] := hl
  generalize hQ : MQ below _ args s _ _ _ = Q
  rw [mX5_move] at h
  refine lv_aload_n hx hb dX5_move_0 rfl (lv_at hl 0 rfl) ?_
  refine lv_aload_n hx hb dX5_move_1 rfl (lv_at hl 0 rfl) ?_
  refine lv_iload_n hx hb dX5_move_2 rfl (lv_at hl 1 rfl) ?_
  obtain ⟨r3, h3, h⟩ := mi_b1 h
  refine fm_ci (va_runV (As := [.int x1]) (rest := [.ref (K.2.2.2 40)]) C (kX5_is l K h3 _) (cwV 1 hts gX5_move_X5_is rfl rfl rfl (by decide +kernel) ⟨(Nat.le_of_ble_eq_true rfl), (Nat.le_of_ble_eq_true rfl)⟩) ⟨fm_blind, fm_recv hst hH (q := 40) (by decide) rfl (fm_ob_40 _ _) rfl, fm_pre hst hA hH⟩ rfl rfl hl.1 rfl (lv_room (Nat.le_of_ble_eq_true rfl)) dX5_move_3 ⟨(Nat.le_of_ble_eq_true rfl), (Nat.le_of_ble_eq_true rfl)⟩) hA hH (fun H locs hH => ?_)
  refine lv_iload_n hx hb dX5_move_6 rfl (lv_at hl 2 rfl) ?_
  refine lv_iload_n hx hb dX5_move_7 rfl (lv_at hl 3 rfl) ?_
  obtain ⟨r8, h8, h⟩ := mi_b1 h
  refine fm_ci (va_runS (As := [.int x2, .int x3]) (rest := [.int r3, .ref (K.2.2.2 40)]) C (kX5_isPlace l K h8 _) (va_cwS 2 hts gX5_move_X5_isPlace rfl rfl rfl (by decide +kernel) ⟨(Nat.le_of_ble_eq_true rfl), (Nat.le_of_ble_eq_true rfl)⟩) ⟨fm_blind, fm_pre hst hA hH⟩ rfl rfl hl.1 rfl (lv_room (Nat.le_of_ble_eq_true rfl)) dX5_move_8 ⟨(Nat.le_of_ble_eq_true rfl), (Nat.le_of_ble_eq_true rfl)⟩) hA hH (fun H locs hH => ?_)
  obtain ⟨r11, σ11, h11, h⟩ := mi_b2 h
  refine fm_ci (va_runV (As := [.int r3, .int r8]) (rest := []) C (kX5_goes l K h11 _) (cwV 2 hts gX5_move_X5_goes rfl rfl rfl (by decide +kernel) ⟨(Nat.le_of_ble_eq_true rfl), (Nat.le_of_ble_eq_true rfl)⟩) ⟨fm_blind, fm_recv hst hH (q := 40) (by decide) rfl (fm_ob_40 _ _) rfl, fm_pre hst hA hH⟩ rfl rfl hl.1 rfl (lv_room (Nat.le_of_ble_eq_true rfl)) dX5_move_11 ⟨(Nat.le_of_ble_eq_true rfl), (Nat.le_of_ble_eq_true rfl)⟩) hA hH (fun H locs hH => ?_)
  refine lv_if_eq (tgt := 31) hx hb dX5_move_14 (by decide) (fun hc => ?_) (fun hc => ?_)
  · replace h := mi_pos hc h
    cases h
    subst hQ
    exact fm_vret hx hb hr hlk hst hH dX5_move_31
  · replace h := mi_neg hc h
    refine lv_aload_n hx hb dX5_move_17 rfl (lv_at hl 0 rfl) ?_
    refine fm_getf (T := TX5) (N := 17) hx hb hts (fun _ h => List.mem_cons_of_mem _ (List.mem_append_right _ h)) hown hst.1 hH 40 (by decide) rfl (fm_ob_40 _ _) rfl 0 (by decide) (List.mem_of_getElem? (i := 1) rfl) rfl rfl dX5_move_18 ?_
    refine lv_iload_n hx hb dX5_move_21 rfl (lv_at hl 1 rfl) ?_
    refine lv_iload_n hx hb dX5_move_22 rfl (lv_at hl 2 rfl) ?_
    obtain ⟨hi1, h⟩ := mi_chk h
    refine fm_ist hx hb hst.1 hH 41 (by decide) rfl rfl hi1 dX5_move_23 (fun H locs hH => ?_)
    refine lv_aload_n hx hb dX5_move_24 rfl (lv_at hl 0 rfl) ?_
    refine fm_getf (T := TX5) (N := 17) hx hb hts (fun _ h => List.mem_cons_of_mem _ (List.mem_append_right _ h)) hown hst.1 hH 40 (by decide) rfl (fm_ob_40 _ _) rfl 1 (by decide) (List.mem_of_getElem? (i := 2) rfl) rfl rfl dX5_move_25 ?_
    refine lv_iload_n hx hb dX5_move_28 rfl (lv_at hl 1 rfl) ?_
    refine lv_iload_n hx hb dX5_move_29 rfl (lv_at hl 3 rfl) ?_
    refine fm_ist hx hb hst.1 hH 42 (by decide) rfl rfl hi1 dX5_move_30 (fun H locs hH => ?_)
    cases h
    subst hQ
    exact fm_vret hx hb hr hlk hst hH dX5_move_31
/-! RX5.toggle(I)Z -/
abbrev rmX5_toggle : Room := { frames := 2, cells := 0, slots := 0, locals := 43 }
def mX5_toggle (x1 : Int32) (σ : fm_S) : Option (Int32 × fm_S) :=
  mb1 (mX5_is x1 σ) fun r3 =>
  mb2 (mX5_goes r3 (1 : Int32) σ) fun r7 σ7 =>
  if r7 = 0 then
    some ((0 : Int32), σ7)
  else
    if (x1 < 0 ∨ 8 ≤ x1.toNatClampNeg) then none else
    mb1 (show Option (Int32) from
      if (rI σ7 43 x1) = 0 then
        some ((1 : Int32))
      else
        some ((0 : Int32))) fun v2_0 =>
    if (rI (sI σ7 43 x1 (vp_nar .boolean v2_0)) 43 x1) = 0 then
      some ((1 : Int32), (sI σ7 43 x1 (vp_nar .boolean v2_0)))
    else
      some ((0 : Int32), (sI σ7 43 x1 (vp_nar .boolean v2_0)))
set_option maxHeartbeats 4000000 in
set_option maxRecDepth 100000 in
theorem kX5_toggle (l : Launch) (K : fm_K) {x1 : Int32} {σ : fm_S} {r : Int32} {σ' : fm_S} (h : mX5_toggle x1 σ = some (r, σ')) : fm_CI l yX5_toggle wsX5_toggle rmX5_toggle K [.ref (K.2.2.2 40), .int x1] σ r σ' := by
  intro sz
  refine fm_start (Qc := fun sz => fm_QI K r σ' sz) (cc := cX5_toggle) (maxL := 2) (ret := (some .boolean)) (by decide) rfl (Nat.le_of_ble_eq_true rfl) ?_
  intro p e s m args below meth c C hr hlk hst hH ls hl
  have C : CallFix p m c cX5_toggle 2 s args wsX5_toggle RX5 := C
  obtain ⟨hx, hb, hml, hown, hts⟩ := id C
  have hA : ∀ q, fm_A K s.heap.size q → fm_A K s.heap.size q := fun _ h => h
  have hl : lv_has ls 2 [(0, .ref (K.2.2.2 40)), (1, .int x1)] := hl
  generalize hQ : MQ below _ args s _ _ _ = Q
  rw [mX5_toggle] at h
  refine lv_aload_n hx hb dX5_toggle_0 rfl (lv_at hl 0 rfl) ?_
  refine lv_aload_n hx hb dX5_toggle_1 rfl (lv_at hl 0 rfl) ?_
  refine lv_iload_n hx hb dX5_toggle_2 rfl (lv_at hl 1 rfl) ?_
  obtain ⟨r3, h3, h⟩ := mi_b1 h
  refine fm_ci (va_runV (As := [.int x1]) (rest := [.ref (K.2.2.2 40)]) C (kX5_is l K h3 _) (cwV 1 hts gX5_toggle_X5_is rfl rfl rfl (by decide +kernel) ⟨(Nat.le_of_ble_eq_true rfl), (Nat.le_of_ble_eq_true rfl)⟩) ⟨fm_blind, fm_recv hst hH (q := 40) (by decide) rfl (fm_ob_40 _ _) rfl, fm_pre hst hA hH⟩ rfl rfl hl.1 rfl (lv_room (Nat.le_of_ble_eq_true rfl)) dX5_toggle_3 ⟨(Nat.le_of_ble_eq_true rfl), (Nat.le_of_ble_eq_true rfl)⟩) hA hH (fun H locs hH => ?_)
  refine lv_iconst (v := 1) hx hb dX5_toggle_6 (by decide) ?_
  obtain ⟨r7, σ7, h7, h⟩ := mi_b2 h
  refine fm_ci (va_runV (As := [.int r3, .int (1 : Int32)]) (rest := []) C (kX5_goes l K h7 _) (cwV 2 hts gX5_toggle_X5_goes rfl rfl rfl (by decide +kernel) ⟨(Nat.le_of_ble_eq_true rfl), (Nat.le_of_ble_eq_true rfl)⟩) ⟨fm_blind, fm_recv hst hH (q := 40) (by decide) rfl (fm_ob_40 _ _) rfl, fm_pre hst hA hH⟩ rfl rfl hl.1 rfl (lv_room (Nat.le_of_ble_eq_true rfl)) dX5_toggle_7 ⟨(Nat.le_of_ble_eq_true rfl), (Nat.le_of_ble_eq_true rfl)⟩) hA hH (fun H locs hH => ?_)
  refine lv_if_ne (tgt := 15) hx hb dX5_toggle_10 (by decide) (fun hc => ?_) (fun hc => ?_)
  · replace h := mi_neg hc h
    refine lv_aload_n hx hb dX5_toggle_15 rfl (lv_at hl 0 rfl) ?_
    refine fm_getf (T := TX5) (N := 17) hx hb hts (fun _ h => List.mem_cons_of_mem _ (List.mem_append_right _ h)) hown hst.1 hH 40 (by decide) rfl (fm_ob_40 _ _) rfl 2 (by decide) (List.mem_of_getElem? (i := 1) rfl) rfl rfl dX5_toggle_16 ?_
    refine lv_iload_n hx hb dX5_toggle_19 rfl (lv_at hl 1 rfl) ?_
    refine lv_aload_n hx hb dX5_toggle_20 rfl (lv_at hl 0 rfl) ?_
    refine fm_getf (T := TX5) (N := 17) hx hb hts (fun _ h => List.mem_cons_of_mem _ (List.mem_append_right _ h)) hown hst.1 hH 40 (by decide) rfl (fm_ob_40 _ _) rfl 2 (by decide) (List.mem_of_getElem? (i := 1) rfl) rfl rfl dX5_toggle_21 ?_
    refine lv_iload_n hx hb dX5_toggle_24 rfl (lv_at hl 1 rfl) ?_
    obtain ⟨hi1, h⟩ := mi_chk h
    refine fm_zld hx hb hst.1 hH 43 (by decide) rfl rfl hi1 dX5_toggle_25 ?_
    obtain ⟨v2_0, hd, h2⟩ := mi_b1 h
    have kj : ∀ (ls : Array Slot) (H : Heap) (locs : List Loc), lv_has ls 2 [(0, .ref (K.2.2.2 40)), (1, .int x1)] → fm_H K σ7 (fm_A K s.heap.size) s H locs → W p l e rmX5_toggle s m args below meth c H locs 0 0 Q (F0 m 34 ls [.int v2_0, .int x1, .ref (K.2.2.2 43)]) := by
      clear h hd
      intro ls H locs hl hH
      have h := h2
      clear h2
      refine fm_zst hx hb hst.1 hH 43 (by decide) rfl rfl hi1 dX5_toggle_34 (fun H locs hH => ?_)
      refine lv_aload_n hx hb dX5_toggle_35 rfl (lv_at hl 0 rfl) ?_
      refine fm_getf (T := TX5) (N := 17) hx hb hts (fun _ h => List.mem_cons_of_mem _ (List.mem_append_right _ h)) hown hst.1 hH 40 (by decide) rfl (fm_ob_40 _ _) rfl 2 (by decide) (List.mem_of_getElem? (i := 1) rfl) rfl rfl dX5_toggle_36 ?_
      refine lv_iload_n hx hb dX5_toggle_39 rfl (lv_at hl 1 rfl) ?_
      refine fm_zld hx hb hst.1 hH 43 (by decide) rfl rfl hi1 dX5_toggle_40 ?_
      refine lv_if_ne (tgt := 48) hx hb dX5_toggle_41 (by decide) (fun hc => ?_) (fun hc => ?_)
      · replace h := mi_neg hc h
        refine lv_iconst (v := 0) hx hb dX5_toggle_48 (by decide) ?_
        cases h
        subst hQ
        exact fm_zret hx hb hr rfl hlk hst hH dX5_toggle_49
      · replace h := mi_pos hc h
        refine lv_iconst (v := 1) hx hb dX5_toggle_44 (by decide) ?_
        refine lv_goto (tgt := 49) hx hb dX5_toggle_45 (by decide) ?_
        cases h
        subst hQ
        exact fm_zret hx hb hr rfl hlk hst hH dX5_toggle_49
    replace h := hd
    clear h2 hd
    refine lv_if_ne (tgt := 33) hx hb dX5_toggle_26 (by decide) (fun hc => ?_) (fun hc => ?_)
    · replace h := mi_neg hc h
      refine lv_iconst (v := 0) hx hb dX5_toggle_33 (by decide) ?_
      cases h
      exact kj _ _ _ (lv_sub hl [0, 1] rfl) hH
    · replace h := mi_pos hc h
      refine lv_iconst (v := 1) hx hb dX5_toggle_29 (by decide) ?_
      refine lv_goto (tgt := 34) hx hb dX5_toggle_30 (by decide) ?_
      cases h
      exact kj _ _ _ (lv_sub hl [0, 1] rfl) hH
  · replace h := mi_pos hc h
    refine lv_iconst (v := 0) hx hb dX5_toggle_13 (by decide) ?_
    cases h
    subst hQ
    exact fm_zret hx hb hr rfl hlk hst hH dX5_toggle_14
/-! RX5.setPriority(II)I -/
abbrev rmX5_setPriority : Room := { frames := 2, cells := 0, slots := 0, locals := 43 }
def mX5_setPriority (x1 : Int32) (x2 : Int32) (σ : fm_S) : Option (Int32 × fm_S) :=
  mb1 (mX5_is x1 σ) fun r3 =>
  mb1 (mX5_in x2 (0 : Int32) (99 : Int32)) fun r10 =>
  mb2 (mX5_goes r3 r10 σ) fun r13 σ13 =>
  if r13 = 0 then
    some ((0 : Int32), σ13)
  else
    if (x1 < 0 ∨ 8 ≤ x1.toNatClampNeg) then none else
    some ((rI σ13 44 x1), (sI σ13 44 x1 x2))
set_option maxHeartbeats 4000000 in
set_option maxRecDepth 100000 in
theorem kX5_setPriority (l : Launch) (K : fm_K) {x1 : Int32} {x2 : Int32} {σ : fm_S} {r : Int32} {σ' : fm_S} (h : mX5_setPriority x1 x2 σ = some (r, σ')) : fm_CI l yX5_setPriority wsX5_setPriority rmX5_setPriority K [.ref (K.2.2.2 40), .int x1, .int x2] σ r σ' := by
  intro sz
  refine fm_start (Qc := fun sz => fm_QI K r σ' sz) (cc := cX5_setPriority) (maxL := 4) (ret := (some .int)) (by decide) rfl (Nat.le_of_ble_eq_true rfl) ?_
  intro p e s m args below meth c C hr hlk hst hH ls hl
  have C : CallFix p m c cX5_setPriority 4 s args wsX5_setPriority RX5 := C
  obtain ⟨hx, hb, hml, hown, hts⟩ := id C
  have hA : ∀ q, fm_A K s.heap.size q → fm_A K s.heap.size q := fun _ h => h
  have hl : lv_has ls 4 [(0, .ref (K.2.2.2 40)), (1, .int x1), (2, .int x2)] := hl
  generalize hQ : MQ below _ args s _ _ _ = Q
  rw [mX5_setPriority] at h
  refine lv_aload_n hx hb dX5_setPriority_0 rfl (lv_at hl 0 rfl) ?_
  refine lv_aload_n hx hb dX5_setPriority_1 rfl (lv_at hl 0 rfl) ?_
  refine lv_iload_n hx hb dX5_setPriority_2 rfl (lv_at hl 1 rfl) ?_
  obtain ⟨r3, h3, h⟩ := mi_b1 h
  refine fm_ci (va_runV (As := [.int x1]) (rest := [.ref (K.2.2.2 40)]) C (kX5_is l K h3 _) (cwV 1 hts gX5_setPriority_X5_is rfl rfl rfl (by decide +kernel) ⟨(Nat.le_of_ble_eq_true rfl), (Nat.le_of_ble_eq_true rfl)⟩) ⟨fm_blind, fm_recv hst hH (q := 40) (by decide) rfl (fm_ob_40 _ _) rfl, fm_pre hst hA hH⟩ rfl rfl hl.1 rfl (lv_room (Nat.le_of_ble_eq_true rfl)) dX5_setPriority_3 ⟨(Nat.le_of_ble_eq_true rfl), (Nat.le_of_ble_eq_true rfl)⟩) hA hH (fun H locs hH => ?_)
  refine lv_iload_n hx hb dX5_setPriority_6 rfl (lv_at hl 2 rfl) ?_
  refine lv_iconst (v := 0) hx hb dX5_setPriority_7 (by decide) ?_
  refine lv_bipush (v := 99) hx hb dX5_setPriority_8 (by decide) ?_
  obtain ⟨r10, h10, h⟩ := mi_b1 h
  refine fm_ci (va_runS (As := [.int x2, .int (0 : Int32), .int (99 : Int32)]) (rest := [.int r3, .ref (K.2.2.2 40)]) C (kX5_in l K h10 _) (va_cwS 3 hts gX5_setPriority_X5_in rfl rfl rfl (by decide +kernel) ⟨(Nat.le_of_ble_eq_true rfl), (Nat.le_of_ble_eq_true rfl)⟩) ⟨fm_blind, fm_pre hst hA hH⟩ rfl rfl hl.1 rfl (lv_room (Nat.le_of_ble_eq_true rfl)) dX5_setPriority_10 ⟨(Nat.le_of_ble_eq_true rfl), (Nat.le_of_ble_eq_true rfl)⟩) hA hH (fun H locs hH => ?_)
  obtain ⟨r13, σ13, h13, h⟩ := mi_b2 h
  refine fm_ci (va_runV (As := [.int r3, .int r10]) (rest := []) C (kX5_goes l K h13 _) (cwV 2 hts gX5_setPriority_X5_goes rfl rfl rfl (by decide +kernel) ⟨(Nat.le_of_ble_eq_true rfl), (Nat.le_of_ble_eq_true rfl)⟩) ⟨fm_blind, fm_recv hst hH (q := 40) (by decide) rfl (fm_ob_40 _ _) rfl, fm_pre hst hA hH⟩ rfl rfl hl.1 rfl (lv_room (Nat.le_of_ble_eq_true rfl)) dX5_setPriority_13 ⟨(Nat.le_of_ble_eq_true rfl), (Nat.le_of_ble_eq_true rfl)⟩) hA hH (fun H locs hH => ?_)
  refine lv_if_ne (tgt := 21) hx hb dX5_setPriority_16 (by decide) (fun hc => ?_) (fun hc => ?_)
  · replace h := mi_neg hc h
    refine lv_aload_n hx hb dX5_setPriority_21 rfl (lv_at hl 0 rfl) ?_
    refine fm_getf (T := TX5) (N := 17) hx hb hts (fun _ h => List.mem_cons_of_mem _ (List.mem_append_right _ h)) hown hst.1 hH 40 (by decide) rfl (fm_ob_40 _ _) rfl 3 (by decide) (List.mem_of_getElem? (i := 1) rfl) rfl rfl dX5_setPriority_22 ?_
    refine lv_iload_n hx hb dX5_setPriority_25 rfl (lv_at hl 1 rfl) ?_
    obtain ⟨hi1, h⟩ := mi_chk h
    refine fm_ild hx hb hst.1 hH 44 (by decide) rfl rfl hi1 dX5_setPriority_26 ?_
    refine lv_istore_n (lv' := [(3, .int (rI σ13 44 x1)), (0, .ref (K.2.2.2 40)), (1, .int x1), (2, .int x2)]) hx hb dX5_setPriority_27 rfl hl (by decide) rfl (fun ls hl => ?_)
    refine lv_aload_n hx hb dX5_setPriority_28 rfl (lv_at hl 1 rfl) ?_
    refine fm_getf (T := TX5) (N := 17) hx hb hts (fun _ h => List.mem_cons_of_mem _ (List.mem_append_right _ h)) hown hst.1 hH 40 (by decide) rfl (fm_ob_40 _ _) rfl 3 (by decide) (List.mem_of_getElem? (i := 1) rfl) rfl rfl dX5_setPriority_29 ?_
    refine lv_iload_n hx hb dX5_setPriority_32 rfl (lv_at hl 2 rfl) ?_
    refine lv_iload_n hx hb dX5_setPriority_33 rfl (lv_at hl 3 rfl) ?_
    refine fm_ist hx hb hst.1 hH 44 (by decide) rfl rfl hi1 dX5_setPriority_34 (fun H locs hH => ?_)
    refine lv_iload_n hx hb dX5_setPriority_35 rfl (lv_at hl 0 rfl) ?_
    cases h
    subst hQ
    exact fm_iret hx hb hr hlk hst hH dX5_setPriority_36
  · replace h := mi_pos hc h
    refine lv_iconst (v := 0) hx hb dX5_setPriority_19 (by decide) ?_
    cases h
    subst hQ
    exact fm_iret hx hb hr hlk hst hH dX5_setPriority_20
/-! RX5.setRange(I)I -/
abbrev rmX5_setRange : Room := { frames := 1, cells := 0, slots := 0, locals := 22 }
def mX5_setRange (x1 : Int32) (σ : fm_S) : Option (Int32 × fm_S) :=
  mb1 (mX5_in x1 (0 : Int32) (3000 : Int32)) fun r6 =>
  mb2 (mX5_goes r6 (1 : Int32) σ) fun r10 σ10 =>
  if r10 = 0 then
    some ((0 : Int32), σ10)
  else
    some ((σ10.1 61 1), (fm_wr σ10 61 1 x1))
set_option maxHeartbeats 4000000 in
set_option maxRecDepth 100000 in
theorem kX5_setRange (l : Launch) (K : fm_K) {x1 : Int32} {σ : fm_S} {r : Int32} {σ' : fm_S} (h : mX5_setRange x1 σ = some (r, σ')) : fm_CI l yX5_setRange wsX5_setRange rmX5_setRange K [.ref (K.2.2.2 40), .int x1] σ r σ' := by
  intro sz
  refine fm_start (Qc := fun sz => fm_QI K r σ' sz) (cc := cX5_setRange) (maxL := 3) (ret := (some .int)) (by decide) rfl (Nat.le_of_ble_eq_true rfl) ?_
  intro p e s m args below meth c C hr hlk hst hH ls hl
  have C : CallFix p m c cX5_setRange 3 s args wsX5_setRange RX5 := C
  obtain ⟨hx, hb, hml, hown, hts⟩ := id C
  have hA : ∀ q, fm_A K s.heap.size q → fm_A K s.heap.size q := fun _ h => h
  have hl : lv_has ls 3 [(0, .ref (K.2.2.2 40)), (1, .int x1)] := hl
  generalize hQ : MQ below _ args s _ _ _ = Q
  rw [mX5_setRange] at h
  refine lv_aload_n hx hb dX5_setRange_0 rfl (lv_at hl 0 rfl) ?_
  refine lv_iload_n hx hb dX5_setRange_1 rfl (lv_at hl 1 rfl) ?_
  refine lv_iconst (v := 0) hx hb dX5_setRange_2 (by decide) ?_
  refine lv_sipush (v := 3000) hx hb dX5_setRange_3 (by decide) ?_
  obtain ⟨r6, h6, h⟩ := mi_b1 h
  refine fm_ci (va_runS (As := [.int x1, .int (0 : Int32), .int (3000 : Int32)]) (rest := [.ref (K.2.2.2 40)]) C (kX5_in l K h6 _) (va_cwS 3 hts gX5_setRange_X5_in rfl rfl rfl (by decide +kernel) ⟨(Nat.le_of_ble_eq_true rfl), (Nat.le_of_ble_eq_true rfl)⟩) ⟨fm_blind, fm_pre hst hA hH⟩ rfl rfl hl.1 rfl (lv_room (Nat.le_of_ble_eq_true rfl)) dX5_setRange_6 ⟨(Nat.le_of_ble_eq_true rfl), (Nat.le_of_ble_eq_true rfl)⟩) hA hH (fun H locs hH => ?_)
  refine lv_iconst (v := 1) hx hb dX5_setRange_9 (by decide) ?_
  obtain ⟨r10, σ10, h10, h⟩ := mi_b2 h
  refine fm_ci (va_runV (As := [.int r6, .int (1 : Int32)]) (rest := []) C (kX5_goes l K h10 _) (cwV 2 hts gX5_setRange_X5_goes rfl rfl rfl (by decide +kernel) ⟨(Nat.le_of_ble_eq_true rfl), (Nat.le_of_ble_eq_true rfl)⟩) ⟨fm_blind, fm_recv hst hH (q := 40) (by decide) rfl (fm_ob_40 _ _) rfl, fm_pre hst hA hH⟩ rfl rfl hl.1 rfl (lv_room (Nat.le_of_ble_eq_true rfl)) dX5_setRange_10 ⟨(Nat.le_of_ble_eq_true rfl), (Nat.le_of_ble_eq_true rfl)⟩) hA hH (fun H locs hH => ?_)
  refine lv_if_ne (tgt := 18) hx hb dX5_setRange_13 (by decide) (fun hc => ?_) (fun hc => ?_)
  · replace h := mi_neg hc h
    refine lv_aload_n hx hb dX5_setRange_18 rfl (lv_at hl 0 rfl) ?_
    refine fm_getf (T := TX5) (N := 17) hx hb hts (fun _ h => List.mem_cons_of_mem _ (List.mem_append_right _ h)) hown hst.1 hH 40 (by decide) rfl (fm_ob_40 _ _) rfl 11 (by decide) (List.mem_of_getElem? (i := 1) rfl) rfl rfl dX5_setRange_19 ?_
    refine lv_istore_n (lv' := [(2, .int (σ10.1 61 1)), (0, .ref (K.2.2.2 40)), (1, .int x1)]) hx hb dX5_setRange_22 rfl hl (by decide) rfl (fun ls hl => ?_)
    refine lv_aload_n hx hb dX5_setRange_23 rfl (lv_at hl 1 rfl) ?_
    refine lv_iload_n hx hb dX5_setRange_24 rfl (lv_at hl 2 rfl) ?_
    refine fm_putf (T := TX5) (N := 17) hx hb hts (fun _ h => List.mem_cons_of_mem _ (List.mem_append_right _ h)) tyX5 tyX5_ok nmX5 hown hst.1 hH 40 61 1 (by decide) rfl (by decide) (fm_ob_40 _ _) rfl 11 (by decide) (List.mem_of_getElem? (i := 1) rfl) rfl rfl rfl rfl (Nat.le_of_ble_eq_true rfl) dX5_setRange_25 (fun H locs hH => ?_)
    refine lv_iload_n hx hb dX5_setRange_28 rfl (lv_at hl 0 rfl) ?_
    cases h
    subst hQ
    exact fm_iret hx hb hr hlk hst hH dX5_setRange_29
  · replace h := mi_pos hc h
    refine lv_iconst (v := 0) hx hb dX5_setRange_16 (by decide) ?_
    cases h
    subst hQ
    exact fm_iret hx hb hr hlk hst hH dX5_setRange_17
/-! RX5.block(II)Z -/
abbrev rmX5_block : Room := { frames := 2, cells := 0, slots := 0, locals := 43 }
def mX5_block (x1 : Int32) (x2 : Int32) (σ : fm_S) : Option (Int32 × fm_S) :=
  mb1 (mX5_is x1 σ) fun r3 =>
  mb1 (show Option (Int32) from
    if r3 = 0 then
      some ((0 : Int32))
    else
      mb1 (mX5_is x2 σ) fun r11 =>
      if r11 = 0 then
        some ((0 : Int32))
      else
        some ((1 : Int32))) fun v1_0 =>
  mb1 (show Option (Int32) from
    if x1 = x2 then
      some ((0 : Int32))
    else
      some ((1 : Int32))) fun v2_0 =>
  mb2 (mX5_goes v1_0 v2_0 σ) fun r32 σ32 =>
  if r32 = 0 then
    some ((0 : Int32), σ32)
  else
    if ((((8 : Int32) * x1) + x2) < 0 ∨ 64 ≤ (((8 : Int32) * x1) + x2).toNatClampNeg) then none else
    mb1 (show Option (Int32) from
      if (rI σ32 49 (((8 : Int32) * x1) + x2)) = 0 then
        some ((1 : Int32))
      else
        some ((0 : Int32))) fun v4_0 =>
    if ((((8 : Int32) * x2) + x1) < 0 ∨ 64 ≤ (((8 : Int32) * x2) + x1).toNatClampNeg) then none else
    if ¬ vp_nar .boolean v4_0 = v4_0 then none else
    some (v4_0, (sI (sI σ32 49 (((8 : Int32) * x1) + x2) (vp_nar .boolean v4_0)) 49 (((8 : Int32) * x2) + x1) (vp_nar .boolean v4_0)))
set_option maxHeartbeats 4000000 in
set_option maxRecDepth 100000 in
theorem kX5_block (l : Launch) (K : fm_K) {x1 : Int32} {x2 : Int32} {σ : fm_S} {r : Int32} {σ' : fm_S} (h : mX5_block x1 x2 σ = some (r, σ')) : fm_CI l yX5_block wsX5_block rmX5_block K [.ref (K.2.2.2 40), .int x1, .int x2] σ r σ' := by
  intro sz
  refine fm_start (Qc := fun sz => fm_QI K r σ' sz) (cc := cX5_block) (maxL := 4) (ret := (some .boolean)) (by decide) rfl (Nat.le_of_ble_eq_true rfl) ?_
  intro p e s m args below meth c C hr hlk hst hH ls hl
  have C : CallFix p m c cX5_block 4 s args wsX5_block RX5 := C
  obtain ⟨hx, hb, hml, hown, hts⟩ := id C
  have hA : ∀ q, fm_A K s.heap.size q → fm_A K s.heap.size q := fun _ h => h
  have hl : lv_has ls 4 [(0, .ref (K.2.2.2 40)), (1, .int x1), (2, .int x2)] := hl
  generalize hQ : MQ below _ args s _ _ _ = Q
  rw [mX5_block] at h
  refine lv_aload_n hx hb dX5_block_0 rfl (lv_at hl 0 rfl) ?_
  refine lv_aload_n hx hb dX5_block_1 rfl (lv_at hl 0 rfl) ?_
  refine lv_iload_n hx hb dX5_block_2 rfl (lv_at hl 1 rfl) ?_
  obtain ⟨r3, h3, h⟩ := mi_b1 h
  refine fm_ci (va_runV (As := [.int x1]) (rest := [.ref (K.2.2.2 40)]) C (kX5_is l K h3 _) (cwV 1 hts gX5_block_X5_is rfl rfl rfl (by decide +kernel) ⟨(Nat.le_of_ble_eq_true rfl), (Nat.le_of_ble_eq_true rfl)⟩) ⟨fm_blind, fm_recv hst hH (q := 40) (by decide) rfl (fm_ob_40 _ _) rfl, fm_pre hst hA hH⟩ rfl rfl hl.1 rfl (lv_room (Nat.le_of_ble_eq_true rfl)) dX5_block_3 ⟨(Nat.le_of_ble_eq_true rfl), (Nat.le_of_ble_eq_true rfl)⟩) hA hH (fun H locs hH => ?_)
  obtain ⟨v1_0, hd, h2⟩ := mi_b1 h
  have kj : ∀ (ls : Array Slot) (H : Heap) (locs : List Loc), lv_has ls 4 [(0, .ref (K.2.2.2 40)), (1, .int x1), (2, .int x2)] → fm_H K σ (fm_A K s.heap.size) s H locs → W p l e rmX5_block s m args below meth c H locs 0 0 Q (F0 m 22 ls [.int v1_0, .ref (K.2.2.2 40)]) := by
    clear h hd
    intro ls H locs hl hH
    have h := h2
    clear h2
    refine lv_iload_n hx hb dX5_block_22 rfl (lv_at hl 1 rfl) ?_
    refine lv_iload_n hx hb dX5_block_23 rfl (lv_at hl 2 rfl) ?_
    obtain ⟨v2_0, hd, h2⟩ := mi_b1 h
    have kj : ∀ (ls : Array Slot) (H : Heap) (locs : List Loc), lv_has ls 4 [(0, .ref (K.2.2.2 40)), (1, .int x1), (2, .int x2)] → fm_H K σ (fm_A K s.heap.size) s H locs → W p l e rmX5_block s m args below meth c H locs 0 0 Q (F0 m 32 ls [.int v2_0, .int v1_0, .ref (K.2.2.2 40)]) := by
      clear h hd
      intro ls H locs hl hH
      have h := h2
      clear h2
      obtain ⟨r32, σ32, h32, h⟩ := mi_b2 h
      refine fm_ci (va_runV (As := [.int v1_0, .int v2_0]) (rest := []) C (kX5_goes l K h32 _) (cwV 2 hts gX5_block_X5_goes rfl rfl rfl (by decide +kernel) ⟨(Nat.le_of_ble_eq_true rfl), (Nat.le_of_ble_eq_true rfl)⟩) ⟨fm_blind, fm_recv hst hH (q := 40) (by decide) rfl (fm_ob_40 _ _) rfl, fm_pre hst hA hH⟩ rfl rfl hl.1 rfl (lv_room (Nat.le_of_ble_eq_true rfl)) dX5_block_32 ⟨(Nat.le_of_ble_eq_true rfl), (Nat.le_of_ble_eq_true rfl)⟩) hA hH (fun H locs hH => ?_)
      refine lv_if_ne (tgt := 40) hx hb dX5_block_35 (by decide) (fun hc => ?_) (fun hc => ?_)
      · replace h := mi_neg hc h
        refine lv_aload_n hx hb dX5_block_40 rfl (lv_at hl 0 rfl) ?_
        refine fm_getf (T := TX5) (N := 17) hx hb hts (fun _ h => List.mem_cons_of_mem _ (List.mem_append_right _ h)) hown hst.1 hH 40 (by decide) rfl (fm_ob_40 _ _) rfl 8 (by decide) (List.mem_of_getElem? (i := 1) rfl) rfl rfl dX5_block_41 ?_
        refine lv_bipush (v := 8) hx hb dX5_block_44 (by decide) ?_
        refine lv_iload_n hx hb dX5_block_46 rfl (lv_at hl 1 rfl) ?_
        refine lv_imul hx hb dX5_block_47 ?_
        refine lv_iload_n hx hb dX5_block_48 rfl (lv_at hl 2 rfl) ?_
        refine lv_iadd hx hb dX5_block_49 ?_
        obtain ⟨hi3, h⟩ := mi_chk h
        refine fm_zld hx hb hst.1 hH 49 (by decide) rfl rfl hi3 dX5_block_50 ?_
        obtain ⟨v4_0, hd, h2⟩ := mi_b1 h
        have kj : ∀ (ls : Array Slot) (H : Heap) (locs : List Loc), lv_has ls 4 [(0, .ref (K.2.2.2 40)), (1, .int x1), (2, .int x2)] → fm_H K σ32 (fm_A K s.heap.size) s H locs → W p l e rmX5_block s m args below meth c H locs 0 0 Q (F0 m 59 ls [.int v4_0]) := by
          clear h hd
          intro ls H locs hl hH
          have h := h2
          clear h2
          refine lv_istore_n (lv' := [(3, .int v4_0), (0, .ref (K.2.2.2 40)), (1, .int x1), (2, .int x2)]) hx hb dX5_block_59 rfl hl (by decide) rfl (fun ls hl => ?_)
          refine lv_aload_n hx hb dX5_block_60 rfl (lv_at hl 1 rfl) ?_
          refine fm_getf (T := TX5) (N := 17) hx hb hts (fun _ h => List.mem_cons_of_mem _ (List.mem_append_right _ h)) hown hst.1 hH 40 (by decide) rfl (fm_ob_40 _ _) rfl 8 (by decide) (List.mem_of_getElem? (i := 1) rfl) rfl rfl dX5_block_61 ?_
          refine lv_bipush (v := 8) hx hb dX5_block_64 (by decide) ?_
          refine lv_iload_n hx hb dX5_block_66 rfl (lv_at hl 2 rfl) ?_
          refine lv_imul hx hb dX5_block_67 ?_
          refine lv_iload_n hx hb dX5_block_68 rfl (lv_at hl 3 rfl) ?_
          refine lv_iadd hx hb dX5_block_69 ?_
          refine lv_iload_n hx hb dX5_block_70 rfl (lv_at hl 0 rfl) ?_
          refine fm_zst hx hb hst.1 hH 49 (by decide) rfl rfl hi3 dX5_block_71 (fun H locs hH => ?_)
          refine lv_aload_n hx hb dX5_block_72 rfl (lv_at hl 1 rfl) ?_
          refine fm_getf (T := TX5) (N := 17) hx hb hts (fun _ h => List.mem_cons_of_mem _ (List.mem_append_right _ h)) hown hst.1 hH 40 (by decide) rfl (fm_ob_40 _ _) rfl 8 (by decide) (List.mem_of_getElem? (i := 1) rfl) rfl rfl dX5_block_73 ?_
          refine lv_bipush (v := 8) hx hb dX5_block_76 (by decide) ?_
          refine lv_iload_n hx hb dX5_block_78 rfl (lv_at hl 3 rfl) ?_
          refine lv_imul hx hb dX5_block_79 ?_
          refine lv_iload_n hx hb dX5_block_80 rfl (lv_at hl 2 rfl) ?_
          refine lv_iadd hx hb dX5_block_81 ?_
          refine lv_iload_n hx hb dX5_block_82 rfl (lv_at hl 0 rfl) ?_
          obtain ⟨hi5, h⟩ := mi_chk h
          refine fm_zst hx hb hst.1 hH 49 (by decide) rfl rfl hi5 dX5_block_83 (fun H locs hH => ?_)
          refine lv_iload_n hx hb dX5_block_84 rfl (lv_at hl 0 rfl) ?_
          obtain ⟨hn6, h⟩ := mi_chk h
          cases h
          subst hQ
          exact fm_zret hx hb hr (Decidable.not_not.mp hn6) hlk hst hH dX5_block_85
        replace h := hd
        clear h2 hd
        refine lv_if_ne (tgt := 58) hx hb dX5_block_51 (by decide) (fun hc => ?_) (fun hc => ?_)
        · replace h := mi_neg hc h
          refine lv_iconst (v := 0) hx hb dX5_block_58 (by decide) ?_
          cases h
          exact kj _ _ _ (lv_sub hl [0, 1, 2] rfl) hH
        · replace h := mi_pos hc h
          refine lv_iconst (v := 1) hx hb dX5_block_54 (by decide) ?_
          refine lv_goto (tgt := 59) hx hb dX5_block_55 (by decide) ?_
          cases h
          exact kj _ _ _ (lv_sub hl [0, 1, 2] rfl) hH
      · replace h := mi_pos hc h
        refine lv_iconst (v := 0) hx hb dX5_block_38 (by decide) ?_
        cases h
        subst hQ
        exact fm_zret hx hb hr rfl hlk hst hH dX5_block_39
    replace h := hd
    clear h2 hd
    refine lv_icmp_eq (tgt := 31) hx hb dX5_block_24 (by decide) (fun hc => ?_) (fun hc => ?_)
    · replace h := mi_pos hc h
      refine lv_iconst (v := 0) hx hb dX5_block_31 (by decide) ?_
      cases h
      exact kj _ _ _ (lv_sub hl [0, 1, 2] rfl) hH
    · replace h := mi_neg hc h
      refine lv_iconst (v := 1) hx hb dX5_block_27 (by decide) ?_
      refine lv_goto (tgt := 32) hx hb dX5_block_28 (by decide) ?_
      cases h
      exact kj _ _ _ (lv_sub hl [0, 1, 2] rfl) hH
  replace h := hd
  clear h2 hd
  refine lv_if_eq (tgt := 21) hx hb dX5_block_6 (by decide) (fun hc => ?_) (fun hc => ?_)
  · replace h := mi_pos hc h
    refine lv_iconst (v := 0) hx hb dX5_block_21 (by decide) ?_
    cases h
    exact kj _ _ _ (lv_sub hl [0, 1, 2] rfl) hH
  · replace h := mi_neg hc h
    refine lv_aload_n hx hb dX5_block_9 rfl (lv_at hl 0 rfl) ?_
    refine lv_iload_n hx hb dX5_block_10 rfl (lv_at hl 2 rfl) ?_
    obtain ⟨r11, h11, h⟩ := mi_b1 h
    refine fm_ci (va_runV (As := [.int x2]) (rest := [.ref (K.2.2.2 40)]) C (kX5_is l K h11 _) (cwV 1 hts gX5_block_X5_is rfl rfl rfl (by decide +kernel) ⟨(Nat.le_of_ble_eq_true rfl), (Nat.le_of_ble_eq_true rfl)⟩) ⟨fm_blind, fm_recv hst hH (q := 40) (by decide) rfl (fm_ob_40 _ _) rfl, fm_pre hst hA hH⟩ rfl rfl hl.1 rfl (lv_room (Nat.le_of_ble_eq_true rfl)) dX5_block_11 ⟨(Nat.le_of_ble_eq_true rfl), (Nat.le_of_ble_eq_true rfl)⟩) hA hH (fun H locs hH => ?_)
    refine lv_if_eq (tgt := 21) hx hb dX5_block_14 (by decide) (fun hc => ?_) (fun hc => ?_)
    · replace h := mi_pos hc h
      refine lv_iconst (v := 0) hx hb dX5_block_21 (by decide) ?_
      cases h
      exact kj _ _ _ (lv_sub hl [0, 1, 2] rfl) hH
    · replace h := mi_neg hc h
      refine lv_iconst (v := 1) hx hb dX5_block_17 (by decide) ?_
      refine lv_goto (tgt := 22) hx hb dX5_block_18 (by decide) ?_
      cases h
      exact kj _ _ _ (lv_sub hl [0, 1, 2] rfl) hH
/-! RX5.members()I -/
abbrev rmX5_members : Room := { frames := 0, cells := 0, slots := 0, locals := 0 }
def mX5_members (σ : fm_S) : Option (Int32 × fm_S) :=
  some (((fm_wr σ 61 2 (0 : Int32)).1 61 0), (fm_wr σ 61 2 (0 : Int32)))
set_option maxHeartbeats 4000000 in
set_option maxRecDepth 100000 in
theorem kX5_members (l : Launch) (K : fm_K) {σ : fm_S} {r : Int32} {σ' : fm_S} (h : mX5_members σ = some (r, σ')) : fm_CI l yX5_members wsX5_members rmX5_members K [.ref (K.2.2.2 40)] σ r σ' := by
  intro sz
  refine fm_start (Qc := fun sz => fm_QI K r σ' sz) (cc := cX5_members) (maxL := 1) (ret := (some .int)) (by decide) rfl (Nat.le_of_ble_eq_true rfl) ?_
  intro p e s m args below meth c C hr hlk hst hH ls hl
  have C : CallFix p m c cX5_members 1 s args wsX5_members RX5 := C
  obtain ⟨hx, hb, hml, hown, hts⟩ := id C
  have hA : ∀ q, fm_A K s.heap.size q → fm_A K s.heap.size q := fun _ h => h
  have hl : lv_has ls 1 [(0, .ref (K.2.2.2 40))] := hl
  generalize hQ : MQ below _ args s _ _ _ = Q
  rw [mX5_members] at h
  refine lv_aload_n hx hb dX5_members_0 rfl (lv_at hl 0 rfl) ?_
  refine lv_iconst (v := 0) hx hb dX5_members_1 (by decide) ?_
  refine fm_putf (T := TX5) (N := 17) hx hb hts (fun _ h => List.mem_cons_of_mem _ (List.mem_append_right _ h)) tyX5 tyX5_ok nmX5 hown hst.1 hH 40 61 2 (by decide) rfl (by decide) (fm_ob_40 _ _) rfl 16 (by decide) (List.mem_of_getElem? (i := 1) rfl) rfl rfl rfl rfl (Nat.le_of_ble_eq_true rfl) dX5_members_2 (fun H locs hH => ?_)
  refine lv_aload_n hx hb dX5_members_5 rfl (lv_at hl 0 rfl) ?_
  refine fm_getf (T := TX5) (N := 17) hx hb hts (fun _ h => List.mem_cons_of_mem _ (List.mem_append_right _ h)) hown hst.1 hH 40 (by decide) rfl (fm_ob_40 _ _) rfl 10 (by decide) (List.mem_of_getElem? (i := 2) rfl) rfl rfl dX5_members_6 ?_
  cases h
  subst hQ
  exact fm_iret hx hb hr hlk hst hH dX5_members_9
/-! RX5.xOf(I)I -/
abbrev rmX5_xOf : Room := { frames := 2, cells := 0, slots := 0, locals := 43 }
def mX5_xOf (x1 : Int32) (σ : fm_S) : Option (Int32 × fm_S) :=
  mb1 (mX5_is x1 σ) fun r3 =>
  mb2 (mX5_goes r3 (1 : Int32) σ) fun r7 σ7 =>
  if r7 = 0 then
    some ((0 : Int32), σ7)
  else
    if (x1 < 0 ∨ 8 ≤ x1.toNatClampNeg) then none else
    some ((rI σ7 41 x1), σ7)
set_option maxHeartbeats 4000000 in
set_option maxRecDepth 100000 in
theorem kX5_xOf (l : Launch) (K : fm_K) {x1 : Int32} {σ : fm_S} {r : Int32} {σ' : fm_S} (h : mX5_xOf x1 σ = some (r, σ')) : fm_CI l yX5_xOf wsX5_xOf rmX5_xOf K [.ref (K.2.2.2 40), .int x1] σ r σ' := by
  intro sz
  refine fm_start (Qc := fun sz => fm_QI K r σ' sz) (cc := cX5_xOf) (maxL := 2) (ret := (some .int)) (by decide) rfl (Nat.le_of_ble_eq_true rfl) ?_
  intro p e s m args below meth c C hr hlk hst hH ls hl
  have C : CallFix p m c cX5_xOf 2 s args wsX5_xOf RX5 := C
  obtain ⟨hx, hb, hml, hown, hts⟩ := id C
  have hA : ∀ q, fm_A K s.heap.size q → fm_A K s.heap.size q := fun _ h => h
  have hl : lv_has ls 2 [(0, .ref (K.2.2.2 40)), (1, .int x1)] := hl
  generalize hQ : MQ below _ args s _ _ _ = Q
  rw [mX5_xOf] at h
  refine lv_aload_n hx hb dX5_xOf_0 rfl (lv_at hl 0 rfl) ?_
  refine lv_aload_n hx hb dX5_xOf_1 rfl (lv_at hl 0 rfl) ?_
  refine lv_iload_n hx hb dX5_xOf_2 rfl (lv_at hl 1 rfl) ?_
  obtain ⟨r3, h3, h⟩ := mi_b1 h
  refine fm_ci (va_runV (As := [.int x1]) (rest := [.ref (K.2.2.2 40)]) C (kX5_is l K h3 _) (cwV 1 hts gX5_xOf_X5_is rfl rfl rfl (by decide +kernel) ⟨(Nat.le_of_ble_eq_true rfl), (Nat.le_of_ble_eq_true rfl)⟩) ⟨fm_blind, fm_recv hst hH (q := 40) (by decide) rfl (fm_ob_40 _ _) rfl, fm_pre hst hA hH⟩ rfl rfl hl.1 rfl (lv_room (Nat.le_of_ble_eq_true rfl)) dX5_xOf_3 ⟨(Nat.le_of_ble_eq_true rfl), (Nat.le_of_ble_eq_true rfl)⟩) hA hH (fun H locs hH => ?_)
  refine lv_iconst (v := 1) hx hb dX5_xOf_6 (by decide) ?_
  obtain ⟨r7, σ7, h7, h⟩ := mi_b2 h
  refine fm_ci (va_runV (As := [.int r3, .int (1 : Int32)]) (rest := []) C (kX5_goes l K h7 _) (cwV 2 hts gX5_xOf_X5_goes rfl rfl rfl (by decide +kernel) ⟨(Nat.le_of_ble_eq_true rfl), (Nat.le_of_ble_eq_true rfl)⟩) ⟨fm_blind, fm_recv hst hH (q := 40) (by decide) rfl (fm_ob_40 _ _) rfl, fm_pre hst hA hH⟩ rfl rfl hl.1 rfl (lv_room (Nat.le_of_ble_eq_true rfl)) dX5_xOf_7 ⟨(Nat.le_of_ble_eq_true rfl), (Nat.le_of_ble_eq_true rfl)⟩) hA hH (fun H locs hH => ?_)
  refine lv_if_eq (tgt := 22) hx hb dX5_xOf_10 (by decide) (fun hc => ?_) (fun hc => ?_)
  · replace h := mi_pos hc h
    refine lv_iconst (v := 0) hx hb dX5_xOf_22 (by decide) ?_
    cases h
    subst hQ
    exact fm_iret hx hb hr hlk hst hH dX5_xOf_23
  · replace h := mi_neg hc h
    refine lv_aload_n hx hb dX5_xOf_13 rfl (lv_at hl 0 rfl) ?_
    refine fm_getf (T := TX5) (N := 17) hx hb hts (fun _ h => List.mem_cons_of_mem _ (List.mem_append_right _ h)) hown hst.1 hH 40 (by decide) rfl (fm_ob_40 _ _) rfl 0 (by decide) (List.mem_of_getElem? (i := 1) rfl) rfl rfl dX5_xOf_14 ?_
    refine lv_iload_n hx hb dX5_xOf_17 rfl (lv_at hl 1 rfl) ?_
    obtain ⟨hi1, h⟩ := mi_chk h
    refine fm_ild hx hb hst.1 hH 41 (by decide) rfl rfl hi1 dX5_xOf_18 ?_
    refine lv_goto (tgt := 23) hx hb dX5_xOf_19 (by decide) ?_
    cases h
    subst hQ
    exact fm_iret hx hb hr hlk hst hH dX5_xOf_23
/-! RX5.yOf(I)I -/
abbrev rmX5_yOf : Room := { frames := 2, cells := 0, slots := 0, locals := 43 }
def mX5_yOf (x1 : Int32) (σ : fm_S) : Option (Int32 × fm_S) :=
  mb1 (mX5_is x1 σ) fun r3 =>
  mb2 (mX5_goes r3 (1 : Int32) σ) fun r7 σ7 =>
  if r7 = 0 then
    some ((0 : Int32), σ7)
  else
    if (x1 < 0 ∨ 8 ≤ x1.toNatClampNeg) then none else
    some ((rI σ7 42 x1), σ7)
set_option maxHeartbeats 4000000 in
set_option maxRecDepth 100000 in
theorem kX5_yOf (l : Launch) (K : fm_K) {x1 : Int32} {σ : fm_S} {r : Int32} {σ' : fm_S} (h : mX5_yOf x1 σ = some (r, σ')) : fm_CI l yX5_yOf wsX5_yOf rmX5_yOf K [.ref (K.2.2.2 40), .int x1] σ r σ' := by
  intro sz
  refine fm_start (Qc := fun sz => fm_QI K r σ' sz) (cc := cX5_yOf) (maxL := 2) (ret := (some .int)) (by decide) rfl (Nat.le_of_ble_eq_true rfl) ?_
  intro p e s m args below meth c C hr hlk hst hH ls hl
  have C : CallFix p m c cX5_yOf 2 s args wsX5_yOf RX5 := C
  obtain ⟨hx, hb, hml, hown, hts⟩ := id C
  have hA : ∀ q, fm_A K s.heap.size q → fm_A K s.heap.size q := fun _ h => h
  have hl : lv_has ls 2 [(0, .ref (K.2.2.2 40)), (1, .int x1)] := hl
  generalize hQ : MQ below _ args s _ _ _ = Q
  rw [mX5_yOf] at h
  refine lv_aload_n hx hb dX5_yOf_0 rfl (lv_at hl 0 rfl) ?_
  refine lv_aload_n hx hb dX5_yOf_1 rfl (lv_at hl 0 rfl) ?_
  refine lv_iload_n hx hb dX5_yOf_2 rfl (lv_at hl 1 rfl) ?_
  obtain ⟨r3, h3, h⟩ := mi_b1 h
  refine fm_ci (va_runV (As := [.int x1]) (rest := [.ref (K.2.2.2 40)]) C (kX5_is l K h3 _) (cwV 1 hts gX5_yOf_X5_is rfl rfl rfl (by decide +kernel) ⟨(Nat.le_of_ble_eq_true rfl), (Nat.le_of_ble_eq_true rfl)⟩) ⟨fm_blind, fm_recv hst hH (q := 40) (by decide) rfl (fm_ob_40 _ _) rfl, fm_pre hst hA hH⟩ rfl rfl hl.1 rfl (lv_room (Nat.le_of_ble_eq_true rfl)) dX5_yOf_3 ⟨(Nat.le_of_ble_eq_true rfl), (Nat.le_of_ble_eq_true rfl)⟩) hA hH (fun H locs hH => ?_)
  refine lv_iconst (v := 1) hx hb dX5_yOf_6 (by decide) ?_
  obtain ⟨r7, σ7, h7, h⟩ := mi_b2 h
  refine fm_ci (va_runV (As := [.int r3, .int (1 : Int32)]) (rest := []) C (kX5_goes l K h7 _) (cwV 2 hts gX5_yOf_X5_goes rfl rfl rfl (by decide +kernel) ⟨(Nat.le_of_ble_eq_true rfl), (Nat.le_of_ble_eq_true rfl)⟩) ⟨fm_blind, fm_recv hst hH (q := 40) (by decide) rfl (fm_ob_40 _ _) rfl, fm_pre hst hA hH⟩ rfl rfl hl.1 rfl (lv_room (Nat.le_of_ble_eq_true rfl)) dX5_yOf_7 ⟨(Nat.le_of_ble_eq_true rfl), (Nat.le_of_ble_eq_true rfl)⟩) hA hH (fun H locs hH => ?_)
  refine lv_if_eq (tgt := 22) hx hb dX5_yOf_10 (by decide) (fun hc => ?_) (fun hc => ?_)
  · replace h := mi_pos hc h
    refine lv_iconst (v := 0) hx hb dX5_yOf_22 (by decide) ?_
    cases h
    subst hQ
    exact fm_iret hx hb hr hlk hst hH dX5_yOf_23
  · replace h := mi_neg hc h
    refine lv_aload_n hx hb dX5_yOf_13 rfl (lv_at hl 0 rfl) ?_
    refine fm_getf (T := TX5) (N := 17) hx hb hts (fun _ h => List.mem_cons_of_mem _ (List.mem_append_right _ h)) hown hst.1 hH 40 (by decide) rfl (fm_ob_40 _ _) rfl 1 (by decide) (List.mem_of_getElem? (i := 1) rfl) rfl rfl dX5_yOf_14 ?_
    refine lv_iload_n hx hb dX5_yOf_17 rfl (lv_at hl 1 rfl) ?_
    obtain ⟨hi1, h⟩ := mi_chk h
    refine fm_ild hx hb hst.1 hH 42 (by decide) rfl rfl hi1 dX5_yOf_18 ?_
    refine lv_goto (tgt := 23) hx hb dX5_yOf_19 (by decide) ?_
    cases h
    subst hQ
    exact fm_iret hx hb hr hlk hst hH dX5_yOf_23
/-! RX5.square(II)I -/
abbrev rmX5_square : Room := { frames := 0, cells := 0, slots := 0, locals := 0 }
def mX5_square (x1 : Int32) (x2 : Int32) (σ : fm_S) : Option Int32 :=
  if (x1 < 0 ∨ 8 ≤ x1.toNatClampNeg) then none else
  if (x2 < 0 ∨ 8 ≤ x2.toNatClampNeg) then none else
  some ((((rI σ 41 x1) - (rI σ 41 x2)) * ((rI σ 41 x1) - (rI σ 41 x2))) + (((rI σ 42 x1) - (rI σ 42 x2)) * ((rI σ 42 x1) - (rI σ 42 x2))))
set_option maxHeartbeats 4000000 in
set_option maxRecDepth 100000 in
theorem kX5_square (l : Launch) (K : fm_K) {x1 : Int32} {x2 : Int32} {σ : fm_S} {r : Int32} (h : mX5_square x1 x2 σ = some r) : fm_CI l yX5_square wsX5_square rmX5_square K [.ref (K.2.2.2 40), .int x1, .int x2] σ r σ := by
  intro sz
  refine fm_start (Qc := fun sz => fm_QI K r σ sz) (cc := cX5_square) (maxL := 5) (ret := (some .int)) (by decide) rfl (Nat.le_of_ble_eq_true rfl) ?_
  intro p e s m args below meth c C hr hlk hst hH ls hl
  have C : CallFix p m c cX5_square 5 s args wsX5_square RX5 := C
  obtain ⟨hx, hb, hml, hown, hts⟩ := id C
  have hA : ∀ q, fm_A K s.heap.size q → fm_A K s.heap.size q := fun _ h => h
  have hl : lv_has ls 5 [(0, .ref (K.2.2.2 40)), (1, .int x1), (2, .int x2)] := hl
  generalize hQ : MQ below _ args s _ _ _ = Q
  rw [mX5_square] at h
  refine lv_aload_n hx hb dX5_square_0 rfl (lv_at hl 0 rfl) ?_
  refine fm_getf (T := TX5) (N := 17) hx hb hts (fun _ h => List.mem_cons_of_mem _ (List.mem_append_right _ h)) hown hst.1 hH 40 (by decide) rfl (fm_ob_40 _ _) rfl 0 (by decide) (List.mem_of_getElem? (i := 1) rfl) rfl rfl dX5_square_1 ?_
  refine lv_iload_n hx hb dX5_square_4 rfl (lv_at hl 1 rfl) ?_
  obtain ⟨hi1, h⟩ := mi_chk h
  refine fm_ild hx hb hst.1 hH 41 (by decide) rfl rfl hi1 dX5_square_5 ?_
  refine lv_aload_n hx hb dX5_square_6 rfl (lv_at hl 0 rfl) ?_
  refine fm_getf (T := TX5) (N := 17) hx hb hts (fun _ h => List.mem_cons_of_mem _ (List.mem_append_right _ h)) hown hst.1 hH 40 (by decide) rfl (fm_ob_40 _ _) rfl 0 (by decide) (List.mem_of_getElem? (i := 1) rfl) rfl rfl dX5_square_7 ?_
  refine lv_iload_n hx hb dX5_square_10 rfl (lv_at hl 2 rfl) ?_
  obtain ⟨hi2, h⟩ := mi_chk h
  refine fm_ild hx hb hst.1 hH 41 (by decide) rfl rfl hi2 dX5_square_11 ?_
  refine lv_isub hx hb dX5_square_12 ?_
  refine lv_istore_n (lv' := [(3, .int ((rI σ 41 x1) - (rI σ 41 x2))), (0, .ref (K.2.2.2 40)), (1, .int x1), (2, .int x2)]) hx hb dX5_square_13 rfl hl (by decide) rfl (fun ls hl => ?_)
  refine lv_aload_n hx hb dX5_square_14 rfl (lv_at hl 1 rfl) ?_
  refine fm_getf (T := TX5) (N := 17) hx hb hts (fun _ h => List.mem_cons_of_mem _ (List.mem_append_right _ h)) hown hst.1 hH 40 (by decide) rfl (fm_ob_40 _ _) rfl 1 (by decide) (List.mem_of_getElem? (i := 2) rfl) rfl rfl dX5_square_15 ?_
  refine lv_iload_n hx hb dX5_square_18 rfl (lv_at hl 2 rfl) ?_
  refine fm_ild hx hb hst.1 hH 42 (by decide) rfl rfl hi1 dX5_square_19 ?_
  refine lv_aload_n hx hb dX5_square_20 rfl (lv_at hl 1 rfl) ?_
  refine fm_getf (T := TX5) (N := 17) hx hb hts (fun _ h => List.mem_cons_of_mem _ (List.mem_append_right _ h)) hown hst.1 hH 40 (by decide) rfl (fm_ob_40 _ _) rfl 1 (by decide) (List.mem_of_getElem? (i := 2) rfl) rfl rfl dX5_square_21 ?_
  refine lv_iload_n hx hb dX5_square_24 rfl (lv_at hl 3 rfl) ?_
  refine fm_ild hx hb hst.1 hH 42 (by decide) rfl rfl hi2 dX5_square_25 ?_
  refine lv_isub hx hb dX5_square_26 ?_
  refine lv_istore (lv' := [(4, .int ((rI σ 42 x1) - (rI σ 42 x2))), (3, .int ((rI σ 41 x1) - (rI σ 41 x2))), (0, .ref (K.2.2.2 40)), (1, .int x1), (2, .int x2)]) hx hb dX5_square_27 hl (by decide) rfl (fun ls hl => ?_)
  refine lv_iload_n hx hb dX5_square_29 rfl (lv_at hl 1 rfl) ?_
  refine lv_iload_n hx hb dX5_square_30 rfl (lv_at hl 1 rfl) ?_
  refine lv_imul hx hb dX5_square_31 ?_
  refine lv_iload hx hb dX5_square_32 (lv_at hl 0 rfl) ?_
  refine lv_iload hx hb dX5_square_34 (lv_at hl 0 rfl) ?_
  refine lv_imul hx hb dX5_square_36 ?_
  refine lv_iadd hx hb dX5_square_37 ?_
  cases h
  subst hQ
  exact fm_iret hx hb hr hlk hst hH dX5_square_38
/-! RX5.linked(II)Z -/
abbrev rmX5_linked : Room := { frames := 1, cells := 0, slots := 0, locals := 24 }
def mX5_linked (x1 : Int32) (x2 : Int32) (σ : fm_S) : Option Int32 :=
  mb1 (show Option (Int32) from
    if x1 = x2 then
      some ((0 : Int32))
    else
      if (x1 < 0 ∨ 8 ≤ x1.toNatClampNeg) then none else
      if (rI σ 43 x1) = 0 then
        if (x2 < 0 ∨ 8 ≤ x2.toNatClampNeg) then none else
        if (rI σ 43 x2) = 0 then
          some ((1 : Int32))
        else
          some ((0 : Int32))
      else
        some ((0 : Int32))) fun v3_0 =>
  if v3_0 = 0 then
    some (0 : Int32)
  else
    if ((((8 : Int32) * x1) + x2) < 0 ∨ 64 ≤ (((8 : Int32) * x1) + x2).toNatClampNeg) then none else
    if (rI σ 49 (((8 : Int32) * x1) + x2)) = 0 then
      mb1 (mX5_square x1 x2 σ) fun r50 =>
      if ((σ.1 61 1) * (σ.1 61 1)) < r50 then
        some (0 : Int32)
      else
        some (1 : Int32)
    else
      some (0 : Int32)
set_option maxHeartbeats 4000000 in
set_option maxRecDepth 100000 in
theorem kX5_linked (l : Launch) (K : fm_K) {x1 : Int32} {x2 : Int32} {σ : fm_S} {r : Int32} (h : mX5_linked x1 x2 σ = some r) : fm_CI l yX5_linked wsX5_linked rmX5_linked K [.ref (K.2.2.2 40), .int x1, .int x2] σ r σ := by
  intro sz
  refine fm_start (Qc := fun sz => fm_QI K r σ sz) (cc := cX5_linked) (maxL := 4) (ret := (some .boolean)) (by decide) rfl (Nat.le_of_ble_eq_true rfl) ?_
  intro p e s m args below meth c C hr hlk hst hH ls hl
  have C : CallFix p m c cX5_linked 4 s args wsX5_linked RX5 := C
  obtain ⟨hx, hb, hml, hown, hts⟩ := id C
  have hA : ∀ q, fm_A K s.heap.size q → fm_A K s.heap.size q := fun _ h => h
  have hl : lv_has ls 4 [(0, .ref (K.2.2.2 40)), (1, .int x1), (2, .int x2)] := hl
  generalize hQ : MQ below _ args s _ _ _ = Q
  rw [mX5_linked] at h
  refine lv_iload_n hx hb dX5_linked_0 rfl (lv_at hl 1 rfl) ?_
  refine lv_iload_n hx hb dX5_linked_1 rfl (lv_at hl 2 rfl) ?_
  obtain ⟨v3_0, hd, h2⟩ := mi_b1 h
  have kj : ∀ (ls : Array Slot) (H : Heap) (locs : List Loc), lv_has ls 4 [(0, .ref (K.2.2.2 40)), (1, .int x1), (2, .int x2)] → fm_H K σ (fm_A K s.heap.size) s H locs → W p l e rmX5_linked s m args below meth c H locs 0 0 Q (F0 m 28 ls [.int v3_0]) := by
    clear h hd
    intro ls H locs hl hH
    have h := h2
    clear h2
    refine lv_istore_n (lv' := [(3, .int v3_0), (0, .ref (K.2.2.2 40)), (1, .int x1), (2, .int x2)]) hx hb dX5_linked_28 rfl hl (by decide) rfl (fun ls hl => ?_)
    refine lv_iload_n hx hb dX5_linked_29 rfl (lv_at hl 0 rfl) ?_
    refine lv_if_eq (tgt := 69) hx hb dX5_linked_30 (by decide) (fun hc => ?_) (fun hc => ?_)
    · replace h := mi_pos hc h
      refine lv_iconst (v := 0) hx hb dX5_linked_69 (by decide) ?_
      cases h
      subst hQ
      exact fm_zret hx hb hr rfl hlk hst hH dX5_linked_70
    · replace h := mi_neg hc h
      refine lv_aload_n hx hb dX5_linked_33 rfl (lv_at hl 1 rfl) ?_
      refine fm_getf (T := TX5) (N := 17) hx hb hts (fun _ h => List.mem_cons_of_mem _ (List.mem_append_right _ h)) hown hst.1 hH 40 (by decide) rfl (fm_ob_40 _ _) rfl 8 (by decide) (List.mem_of_getElem? (i := 2) rfl) rfl rfl dX5_linked_34 ?_
      refine lv_bipush (v := 8) hx hb dX5_linked_37 (by decide) ?_
      refine lv_iload_n hx hb dX5_linked_39 rfl (lv_at hl 2 rfl) ?_
      refine lv_imul hx hb dX5_linked_40 ?_
      refine lv_iload_n hx hb dX5_linked_41 rfl (lv_at hl 3 rfl) ?_
      refine lv_iadd hx hb dX5_linked_42 ?_
      obtain ⟨hi6, h⟩ := mi_chk h
      refine fm_zld hx hb hst.1 hH 49 (by decide) rfl rfl hi6 dX5_linked_43 ?_
      refine lv_if_ne (tgt := 69) hx hb dX5_linked_44 (by decide) (fun hc => ?_) (fun hc => ?_)
      · replace h := mi_neg hc h
        refine lv_iconst (v := 0) hx hb dX5_linked_69 (by decide) ?_
        cases h
        subst hQ
        exact fm_zret hx hb hr rfl hlk hst hH dX5_linked_70
      · replace h := mi_pos hc h
        refine lv_aload_n hx hb dX5_linked_47 rfl (lv_at hl 1 rfl) ?_
        refine lv_iload_n hx hb dX5_linked_48 rfl (lv_at hl 2 rfl) ?_
        refine lv_iload_n hx hb dX5_linked_49 rfl (lv_at hl 3 rfl) ?_
        obtain ⟨r50, h50, h⟩ := mi_b1 h
        refine fm_ci (va_runV (As := [.int x1, .int x2]) (rest := []) C (kX5_square l K h50 _) (cwV 2 hts gX5_linked_X5_square rfl rfl rfl (by decide +kernel) ⟨(Nat.le_of_ble_eq_true rfl), (Nat.le_of_ble_eq_true rfl)⟩) ⟨fm_blind, fm_recv hst hH (q := 40) (by decide) rfl (fm_ob_40 _ _) rfl, fm_pre hst hA hH⟩ rfl rfl hl.1 rfl (lv_room (Nat.le_of_ble_eq_true rfl)) dX5_linked_50 ⟨(Nat.le_of_ble_eq_true rfl), (Nat.le_of_ble_eq_true rfl)⟩) hA hH (fun H locs hH => ?_)
        refine lv_aload_n hx hb dX5_linked_53 rfl (lv_at hl 1 rfl) ?_
        refine fm_getf (T := TX5) (N := 17) hx hb hts (fun _ h => List.mem_cons_of_mem _ (List.mem_append_right _ h)) hown hst.1 hH 40 (by decide) rfl (fm_ob_40 _ _) rfl 11 (by decide) (List.mem_of_getElem? (i := 3) rfl) rfl rfl dX5_linked_54 ?_
        refine lv_aload_n hx hb dX5_linked_57 rfl (lv_at hl 1 rfl) ?_
        refine fm_getf (T := TX5) (N := 17) hx hb hts (fun _ h => List.mem_cons_of_mem _ (List.mem_append_right _ h)) hown hst.1 hH 40 (by decide) rfl (fm_ob_40 _ _) rfl 11 (by decide) (List.mem_of_getElem? (i := 3) rfl) rfl rfl dX5_linked_58 ?_
        refine lv_imul hx hb dX5_linked_61 ?_
        refine lv_icmp_gt (tgt := 69) hx hb dX5_linked_62 (by decide) (fun hc => ?_) (fun hc => ?_)
        · replace h := mi_pos hc h
          refine lv_iconst (v := 0) hx hb dX5_linked_69 (by decide) ?_
          cases h
          subst hQ
          exact fm_zret hx hb hr rfl hlk hst hH dX5_linked_70
        · replace h := mi_neg hc h
          refine lv_iconst (v := 1) hx hb dX5_linked_65 (by decide) ?_
          refine lv_goto (tgt := 70) hx hb dX5_linked_66 (by decide) ?_
          cases h
          subst hQ
          exact fm_zret hx hb hr rfl hlk hst hH dX5_linked_70
  replace h := hd
  clear h2 hd
  refine lv_icmp_eq (tgt := 27) hx hb dX5_linked_2 (by decide) (fun hc => ?_) (fun hc => ?_)
  · replace h := mi_pos hc h
    refine lv_iconst (v := 0) hx hb dX5_linked_27 (by decide) ?_
    cases h
    exact kj _ _ _ (lv_sub hl [0, 1, 2] rfl) hH
  · replace h := mi_neg hc h
    refine lv_aload_n hx hb dX5_linked_5 rfl (lv_at hl 0 rfl) ?_
    refine fm_getf (T := TX5) (N := 17) hx hb hts (fun _ h => List.mem_cons_of_mem _ (List.mem_append_right _ h)) hown hst.1 hH 40 (by decide) rfl (fm_ob_40 _ _) rfl 2 (by decide) (List.mem_of_getElem? (i := 1) rfl) rfl rfl dX5_linked_6 ?_
    refine lv_iload_n hx hb dX5_linked_9 rfl (lv_at hl 1 rfl) ?_
    obtain ⟨hi4, h⟩ := mi_chk h
    refine fm_zld hx hb hst.1 hH 43 (by decide) rfl rfl hi4 dX5_linked_10 ?_
    refine lv_if_ne (tgt := 27) hx hb dX5_linked_11 (by decide) (fun hc => ?_) (fun hc => ?_)
    · replace h := mi_neg hc h
      refine lv_iconst (v := 0) hx hb dX5_linked_27 (by decide) ?_
      cases h
      exact kj _ _ _ (lv_sub hl [0, 1, 2] rfl) hH
    · replace h := mi_pos hc h
      refine lv_aload_n hx hb dX5_linked_14 rfl (lv_at hl 0 rfl) ?_
      refine fm_getf (T := TX5) (N := 17) hx hb hts (fun _ h => List.mem_cons_of_mem _ (List.mem_append_right _ h)) hown hst.1 hH 40 (by decide) rfl (fm_ob_40 _ _) rfl 2 (by decide) (List.mem_of_getElem? (i := 1) rfl) rfl rfl dX5_linked_15 ?_
      refine lv_iload_n hx hb dX5_linked_18 rfl (lv_at hl 2 rfl) ?_
      obtain ⟨hi5, h⟩ := mi_chk h
      refine fm_zld hx hb hst.1 hH 43 (by decide) rfl rfl hi5 dX5_linked_19 ?_
      refine lv_if_ne (tgt := 27) hx hb dX5_linked_20 (by decide) (fun hc => ?_) (fun hc => ?_)
      · replace h := mi_neg hc h
        refine lv_iconst (v := 0) hx hb dX5_linked_27 (by decide) ?_
        cases h
        exact kj _ _ _ (lv_sub hl [0, 1, 2] rfl) hH
      · replace h := mi_pos hc h
        refine lv_iconst (v := 1) hx hb dX5_linked_23 (by decide) ?_
        refine lv_goto (tgt := 28) hx hb dX5_linked_24 (by decide) ?_
        cases h
        exact kj _ _ _ (lv_sub hl [0, 1, 2] rfl) hH
/-! RX5.degrees(I)I -/
abbrev rmX5_degrees : Room := { frames := 2, cells := 0, slots := 0, locals := 47 }
def mX5_degrees_L4 : Nat → Int32 → Int32 → Int32 → fm_S → Option (Int32)
  | 0, _, _, _, _ => none
  | n + 1, x1, x2, x3, σ =>
    if (σ.1 61 0) ≤ x3 then
      some x2
    else
      mb1 (mX5_linked x1 x3 σ) fun r16 =>
      mb1 (show Option (Int32) from
        if r16 = 0 then
          some ((0 : Int32))
        else
          some ((1 : Int32))) fun v1_0 =>
      mX5_degrees_L4 n x1 (x2 + v1_0) (x3 + 1) σ
set_option maxHeartbeats 4000000 in
set_option maxRecDepth 100000 in
theorem wX5_degrees_L4 {p : Program} {l : Launch} {e : Env} {s : State} {m : MethodId} {args : Array Value} {below : List Frame} {meth : Method} {c : Code} {Q : State → Prop} {K : fm_K} (C : CallFix p m c cX5_degrees 4 s args wsX5_degrees RX5) (hst : fm_st K (fm_A K s.heap.size) s s.heap) :
    ∀ (n : Nat) (x1 : Int32) (x2 : Int32) (x3 : Int32) (σ : fm_S) (o2 : Int32), mX5_degrees_L4 n x1 x2 x3 σ = some o2 → (∀ (ls : Array Slot) (H : Heap) (locs : List Loc), lv_has ls 4 [(2, .int o2)] → fm_H K σ (fm_A K s.heap.size) s H locs → W p l e rmX5_degrees s m args below meth c H locs 0 0 Q (F0 m 35 ls [])) → ∀ (ls : Array Slot) (H : Heap) (locs : List Loc), lv_has ls 4 [(0, .ref (K.2.2.2 40)), (1, .int x1), (2, .int x2), (3, .int x3)] → fm_H K σ (fm_A K s.heap.size) s H locs → W p l e rmX5_degrees s m args below meth c H locs 0 0 Q (F0 m 4 ls []) := by
  obtain ⟨hx, hb, hml, hown, hts⟩ := id C
  have hA : ∀ q, fm_A K s.heap.size q → fm_A K s.heap.size q := fun _ h => h
  intro n
  induction n with
  | zero => intro x1 x2 x3 σ o2 h; simp [mX5_degrees_L4] at h
  | succ n ih =>
    intro x1 x2 x3 σ o2 h kk ls H locs hl hH
    rw [mX5_degrees_L4] at h
    refine lv_iload_n hx hb dX5_degrees_4 rfl (lv_at hl 3 rfl) ?_
    refine lv_aload_n hx hb dX5_degrees_5 rfl (lv_at hl 0 rfl) ?_
    refine fm_getf (T := TX5) (N := 17) hx hb hts (fun _ h => List.mem_cons_of_mem _ (List.mem_append_right _ h)) hown hst.1 hH 40 (by decide) rfl (fm_ob_40 _ _) rfl 10 (by decide) (List.mem_of_getElem? (i := 1) rfl) rfl rfl dX5_degrees_6 ?_
    refine lv_icmp_ge (tgt := 35) hx hb dX5_degrees_9 (by decide) (fun hc => ?_) (fun hc => ?_)
    · replace h := mi_pos hc h
      cases h
      exact kk _ _ _ (lv_sub hl [2] rfl) hH
    · replace h := mi_neg hc h
      refine lv_iload_n hx hb dX5_degrees_12 rfl (lv_at hl 2 rfl) ?_
      refine lv_aload_n hx hb dX5_degrees_13 rfl (lv_at hl 0 rfl) ?_
      refine lv_iload_n hx hb dX5_degrees_14 rfl (lv_at hl 1 rfl) ?_
      refine lv_iload_n hx hb dX5_degrees_15 rfl (lv_at hl 3 rfl) ?_
      obtain ⟨r16, h16, h⟩ := mi_b1 h
      refine fm_ci (va_runV (As := [.int x1, .int x3]) (rest := [.int x2]) C (kX5_linked l K h16 _) (cwV 2 hts gX5_degrees_X5_linked rfl rfl rfl (by decide +kernel) ⟨(Nat.le_of_ble_eq_true rfl), (Nat.le_of_ble_eq_true rfl)⟩) ⟨fm_blind, fm_recv hst hH (q := 40) (by decide) rfl (fm_ob_40 _ _) rfl, fm_pre hst hA hH⟩ rfl rfl hl.1 rfl (lv_room (Nat.le_of_ble_eq_true rfl)) dX5_degrees_16 ⟨(Nat.le_of_ble_eq_true rfl), (Nat.le_of_ble_eq_true rfl)⟩) hA hH (fun H locs hH => ?_)
      obtain ⟨v1_0, hd, h2⟩ := mi_b1 h
      have kj : ∀ (ls : Array Slot) (H : Heap) (locs : List Loc), lv_has ls 4 [(0, .ref (K.2.2.2 40)), (1, .int x1), (3, .int x3)] → fm_H K σ (fm_A K s.heap.size) s H locs → W p l e rmX5_degrees s m args below meth c H locs 0 0 Q (F0 m 27 ls [.int v1_0, .int x2]) := by
        clear h hd
        intro ls H locs hl hH
        have h := h2
        clear h2
        refine lv_iadd hx hb dX5_degrees_27 ?_
        refine lv_istore_n (lv' := [(2, .int (x2 + v1_0)), (0, .ref (K.2.2.2 40)), (1, .int x1), (3, .int x3)]) hx hb dX5_degrees_28 rfl hl (by decide) rfl (fun ls hl => ?_)
        refine lv_iinc (v := (x3 + 1)) (lv' := [(3, .int (x3 + 1)), (2, .int (x2 + v1_0)), (0, .ref (K.2.2.2 40)), (1, .int x1)]) hx hb dX5_degrees_29 hl (k := 3) rfl rfl (by decide) rfl (fun ls hl => ?_)
        refine lv_goto (tgt := 4) hx hb dX5_degrees_32 (by decide) ?_
        exact ih _ _ _ _ _ h kk _ _ _ (lv_sub hl [2, 3, 1, 0] rfl) hH
      replace h := hd
      clear h2 hd
      refine lv_if_eq (tgt := 26) hx hb dX5_degrees_19 (by decide) (fun hc => ?_) (fun hc => ?_)
      · replace h := mi_pos hc h
        refine lv_iconst (v := 0) hx hb dX5_degrees_26 (by decide) ?_
        cases h
        exact kj _ _ _ (lv_sub hl [0, 1, 3] rfl) hH
      · replace h := mi_neg hc h
        refine lv_iconst (v := 1) hx hb dX5_degrees_22 (by decide) ?_
        refine lv_goto (tgt := 27) hx hb dX5_degrees_23 (by decide) ?_
        cases h
        exact kj _ _ _ (lv_sub hl [0, 1, 3] rfl) hH
def mX5_degrees (x1 : Int32) (σ : fm_S) : Option Int32 :=
  mb1 (mX5_degrees_L4 fF x1 (0 : Int32) (0 : Int32) σ) fun y4_2 =>
  some y4_2
set_option maxHeartbeats 4000000 in
set_option maxRecDepth 100000 in
theorem kX5_degrees (l : Launch) (K : fm_K) {x1 : Int32} {σ : fm_S} {r : Int32} (h : mX5_degrees x1 σ = some r) : fm_CI l yX5_degrees wsX5_degrees rmX5_degrees K [.ref (K.2.2.2 40), .int x1] σ r σ := by
  intro sz
  refine fm_start (Qc := fun sz => fm_QI K r σ sz) (cc := cX5_degrees) (maxL := 4) (ret := (some .int)) (by decide) rfl (Nat.le_of_ble_eq_true rfl) ?_
  intro p e s m args below meth c C hr hlk hst hH ls hl
  have C : CallFix p m c cX5_degrees 4 s args wsX5_degrees RX5 := C
  obtain ⟨hx, hb, hml, hown, hts⟩ := id C
  have hA : ∀ q, fm_A K s.heap.size q → fm_A K s.heap.size q := fun _ h => h
  have hl : lv_has ls 4 [(0, .ref (K.2.2.2 40)), (1, .int x1)] := hl
  generalize hQ : MQ below _ args s _ _ _ = Q
  rw [mX5_degrees] at h
  refine lv_iconst (v := 0) hx hb dX5_degrees_0 (by decide) ?_
  refine lv_istore_n (lv' := [(2, .int (0 : Int32)), (0, .ref (K.2.2.2 40)), (1, .int x1)]) hx hb dX5_degrees_1 rfl hl (by decide) rfl (fun ls hl => ?_)
  refine lv_iconst (v := 0) hx hb dX5_degrees_2 (by decide) ?_
  refine lv_istore_n (lv' := [(3, .int (0 : Int32)), (2, .int (0 : Int32)), (0, .ref (K.2.2.2 40)), (1, .int x1)]) hx hb dX5_degrees_3 rfl hl (by decide) rfl (fun ls hl => ?_)
  obtain ⟨y4_2, h4, h⟩ := mi_b1 h
  refine wX5_degrees_L4 C hst _ _ _ _ _ _ h4 (fun ls H locs hl hH => ?_) _ _ _ (lv_sub hl [2, 3, 1, 0] rfl) hH
  refine lv_iload_n hx hb dX5_degrees_35 rfl (lv_at hl 0 rfl) ?_
  cases h
  subst hQ
  exact fm_iret hx hb hr hlk hst hH dX5_degrees_36
/-! RX5.group(I)I -/
abbrev rmX5_group : Room := { frames := 2, cells := 0, slots := 0, locals := 47 }
def mX5_group_L16 : Nat → Int32 → Int32 → fm_S → Option (Int32)
  | 0, _, _, _ => none
  | n + 1, x2, x4, σ =>
    if (64 : Int32) ≤ x4 then
      some x2
    else
      mb1 (show Option (Int32) from
        if (σ.1 61 0) ≤ (x4 / (8 : Int32)) then
          some ((0 : Int32))
        else
          if (σ.1 61 0) ≤ (x4 - x4 / (8 : Int32) * (8 : Int32)) then
            some ((0 : Int32))
          else
            if ((x2 >>> ((x4 / (8 : Int32)) &&& 31)) &&& (1 : Int32)) = (1 : Int32) then
              mb1 (mX5_linked (x4 / (8 : Int32)) (x4 - x4 / (8 : Int32) * (8 : Int32)) σ) fun r71 =>
              if r71 = 0 then
                some ((0 : Int32))
              else
                some ((1 : Int32))
            else
              some ((0 : Int32))) fun v1_0 =>
      mb1 (show Option (Int32) from
        if v1_0 = 0 then
          some ((0 : Int32))
        else
          some (((1 : Int32) <<< ((x4 - x4 / (8 : Int32) * (8 : Int32)) &&& 31)))) fun v2_0 =>
      mX5_group_L16 n (x2 ||| v2_0) (x4 + 1) σ
set_option maxHeartbeats 4000000 in
set_option maxRecDepth 100000 in
theorem wX5_group_L16 {p : Program} {l : Launch} {e : Env} {s : State} {m : MethodId} {args : Array Value} {below : List Frame} {meth : Method} {c : Code} {Q : State → Prop} {K : fm_K} (C : CallFix p m c cX5_group 6 s args wsX5_group RX5) (hst : fm_st K (fm_A K s.heap.size) s s.heap) :
    ∀ (n : Nat) (x2 : Int32) (x4 : Int32) (σ : fm_S) (o2 : Int32), mX5_group_L16 n x2 x4 σ = some o2 → ∀ (x3 : Int32), (∀ (ls : Array Slot) (H : Heap) (locs : List Loc), lv_has ls 6 [(0, .ref (K.2.2.2 40)), (2, .int o2), (3, .int x3)] → fm_H K σ (fm_A K s.heap.size) s H locs → W p l e rmX5_group s m args below meth c H locs 0 0 Q (F0 m 109 ls [])) → ∀ (ls : Array Slot) (H : Heap) (locs : List Loc), lv_has ls 6 [(0, .ref (K.2.2.2 40)), (2, .int x2), (3, .int x3), (4, .int x4)] → fm_H K σ (fm_A K s.heap.size) s H locs → W p l e rmX5_group s m args below meth c H locs 0 0 Q (F0 m 16 ls []) := by
  obtain ⟨hx, hb, hml, hown, hts⟩ := id C
  have hA : ∀ q, fm_A K s.heap.size q → fm_A K s.heap.size q := fun _ h => h
  intro n
  induction n with
  | zero => intro x2 x4 σ o2 h; simp [mX5_group_L16] at h
  | succ n ih =>
    intro x2 x4 σ o2 h x3 kk ls H locs hl hH
    rw [mX5_group_L16] at h
    refine lv_iload hx hb dX5_group_16 (lv_at hl 3 rfl) ?_
    refine lv_bipush (v := 64) hx hb dX5_group_18 (by decide) ?_
    refine lv_icmp_ge (tgt := 109) hx hb dX5_group_20 (by decide) (fun hc => ?_) (fun hc => ?_)
    · replace h := mi_pos hc h
      cases h
      exact kk _ _ _ (lv_sub hl [0, 1, 2] rfl) hH
    · replace h := mi_neg hc h
      refine lv_iload hx hb dX5_group_23 (lv_at hl 3 rfl) ?_
      refine lv_bipush (v := 8) hx hb dX5_group_25 (by decide) ?_
      refine lv_idiv hx hb dX5_group_27 (by decide) ?_
      refine lv_aload_n hx hb dX5_group_28 rfl (lv_at hl 0 rfl) ?_
      refine fm_getf (T := TX5) (N := 17) hx hb hts (fun _ h => List.mem_cons_of_mem _ (List.mem_append_right _ h)) hown hst.1 hH 40 (by decide) rfl (fm_ob_40 _ _) rfl 10 (by decide) (List.mem_of_getElem? (i := 1) rfl) rfl rfl dX5_group_29 ?_
      obtain ⟨v1_0, hd, h2⟩ := mi_b1 h
      have kj : ∀ (ls : Array Slot) (H : Heap) (locs : List Loc), lv_has ls 6 [(0, .ref (K.2.2.2 40)), (2, .int x2), (3, .int x3), (4, .int x4)] → fm_H K σ (fm_A K s.heap.size) s H locs → W p l e rmX5_group s m args below meth c H locs 0 0 Q (F0 m 82 ls [.int v1_0]) := by
        clear h hd
        intro ls H locs hl hH
        have h := h2
        clear h2
        refine lv_istore (lv' := [(5, .int v1_0), (0, .ref (K.2.2.2 40)), (2, .int x2), (3, .int x3), (4, .int x4)]) hx hb dX5_group_82 hl (by decide) rfl (fun ls hl => ?_)
        refine lv_iload_n hx hb dX5_group_84 rfl (lv_at hl 2 rfl) ?_
        refine lv_iload hx hb dX5_group_85 (lv_at hl 0 rfl) ?_
        obtain ⟨v2_0, hd, h2⟩ := mi_b1 h
        have kj : ∀ (ls : Array Slot) (H : Heap) (locs : List Loc), lv_has ls 6 [(0, .ref (K.2.2.2 40)), (3, .int x3), (4, .int x4)] → fm_H K σ (fm_A K s.heap.size) s H locs → W p l e rmX5_group s m args below meth c H locs 0 0 Q (F0 m 101 ls [.int v2_0, .int x2]) := by
          clear h hd
          intro ls H locs hl hH
          have h := h2
          clear h2
          refine lv_ior hx hb dX5_group_101 ?_
          refine lv_istore_n (lv' := [(2, .int (x2 ||| v2_0)), (0, .ref (K.2.2.2 40)), (3, .int x3), (4, .int x4)]) hx hb dX5_group_102 rfl hl (by decide) rfl (fun ls hl => ?_)
          refine lv_iinc (v := (x4 + 1)) (lv' := [(4, .int (x4 + 1)), (2, .int (x2 ||| v2_0)), (0, .ref (K.2.2.2 40)), (3, .int x3)]) hx hb dX5_group_103 hl (k := 3) rfl rfl (by decide) rfl (fun ls hl => ?_)
          refine lv_goto (tgt := 16) hx hb dX5_group_106 (by decide) ?_
          exact ih _ _ _ _ h _ kk _ _ _ (lv_sub hl [2, 1, 3, 0] rfl) hH
        replace h := hd
        clear h2 hd
        refine lv_if_eq (tgt := 100) hx hb dX5_group_87 (by decide) (fun hc => ?_) (fun hc => ?_)
        · replace h := mi_pos hc h
          refine lv_iconst (v := 0) hx hb dX5_group_100 (by decide) ?_
          cases h
          exact kj _ _ _ (lv_sub hl [1, 3, 4] rfl) hH
        · replace h := mi_neg hc h
          refine lv_iconst (v := 1) hx hb dX5_group_90 (by decide) ?_
          refine lv_iload hx hb dX5_group_91 (lv_at hl 4 rfl) ?_
          refine lv_bipush (v := 8) hx hb dX5_group_93 (by decide) ?_
          refine lv_irem hx hb dX5_group_95 (by decide) ?_
          refine lv_ishl hx hb dX5_group_96 ?_
          refine lv_goto (tgt := 101) hx hb dX5_group_97 (by decide) ?_
          cases h
          exact kj _ _ _ (lv_sub hl [1, 3, 4] rfl) hH
      replace h := hd
      clear h2 hd
      refine lv_icmp_ge (tgt := 81) hx hb dX5_group_32 (by decide) (fun hc => ?_) (fun hc => ?_)
      · replace h := mi_pos hc h
        refine lv_iconst (v := 0) hx hb dX5_group_81 (by decide) ?_
        cases h
        exact kj _ _ _ (lv_sub hl [0, 1, 2, 3] rfl) hH
      · replace h := mi_neg hc h
        refine lv_iload hx hb dX5_group_35 (lv_at hl 3 rfl) ?_
        refine lv_bipush (v := 8) hx hb dX5_group_37 (by decide) ?_
        refine lv_irem hx hb dX5_group_39 (by decide) ?_
        refine lv_aload_n hx hb dX5_group_40 rfl (lv_at hl 0 rfl) ?_
        refine fm_getf (T := TX5) (N := 17) hx hb hts (fun _ h => List.mem_cons_of_mem _ (List.mem_append_right _ h)) hown hst.1 hH 40 (by decide) rfl (fm_ob_40 _ _) rfl 10 (by decide) (List.mem_of_getElem? (i := 1) rfl) rfl rfl dX5_group_41 ?_
        refine lv_icmp_ge (tgt := 81) hx hb dX5_group_44 (by decide) (fun hc => ?_) (fun hc => ?_)
        · replace h := mi_pos hc h
          refine lv_iconst (v := 0) hx hb dX5_group_81 (by decide) ?_
          cases h
          exact kj _ _ _ (lv_sub hl [0, 1, 2, 3] rfl) hH
        · replace h := mi_neg hc h
          refine lv_iload_n hx hb dX5_group_47 rfl (lv_at hl 1 rfl) ?_
          refine lv_iload hx hb dX5_group_48 (lv_at hl 3 rfl) ?_
          refine lv_bipush (v := 8) hx hb dX5_group_50 (by decide) ?_
          refine lv_idiv hx hb dX5_group_52 (by decide) ?_
          refine lv_ishr hx hb dX5_group_53 ?_
          refine lv_iconst (v := 1) hx hb dX5_group_54 (by decide) ?_
          refine lv_iand hx hb dX5_group_55 ?_
          refine lv_iconst (v := 1) hx hb dX5_group_56 (by decide) ?_
          refine lv_icmp_ne (tgt := 81) hx hb dX5_group_57 (by decide) (fun hc => ?_) (fun hc => ?_)
          · replace h := mi_neg hc h
            refine lv_iconst (v := 0) hx hb dX5_group_81 (by decide) ?_
            cases h
            exact kj _ _ _ (lv_sub hl [0, 1, 2, 3] rfl) hH
          · replace h := mi_pos hc h
            refine lv_aload_n hx hb dX5_group_60 rfl (lv_at hl 0 rfl) ?_
            refine lv_iload hx hb dX5_group_61 (lv_at hl 3 rfl) ?_
            refine lv_bipush (v := 8) hx hb dX5_group_63 (by decide) ?_
            refine lv_idiv hx hb dX5_group_65 (by decide) ?_
            refine lv_iload hx hb dX5_group_66 (lv_at hl 3 rfl) ?_
            refine lv_bipush (v := 8) hx hb dX5_group_68 (by decide) ?_
            refine lv_irem hx hb dX5_group_70 (by decide) ?_
            obtain ⟨r71, h71, h⟩ := mi_b1 h
            refine fm_ci (va_runV (As := [.int (x4 / (8 : Int32)), .int (x4 - x4 / (8 : Int32) * (8 : Int32))]) (rest := []) C (kX5_linked l K h71 _) (cwV 2 hts gX5_group_X5_linked rfl rfl rfl (by decide +kernel) ⟨(Nat.le_of_ble_eq_true rfl), (Nat.le_of_ble_eq_true rfl)⟩) ⟨fm_blind, fm_recv hst hH (q := 40) (by decide) rfl (fm_ob_40 _ _) rfl, fm_pre hst hA hH⟩ rfl rfl hl.1 rfl (lv_room (Nat.le_of_ble_eq_true rfl)) dX5_group_71 ⟨(Nat.le_of_ble_eq_true rfl), (Nat.le_of_ble_eq_true rfl)⟩) hA hH (fun H locs hH => ?_)
            refine lv_if_eq (tgt := 81) hx hb dX5_group_74 (by decide) (fun hc => ?_) (fun hc => ?_)
            · replace h := mi_pos hc h
              refine lv_iconst (v := 0) hx hb dX5_group_81 (by decide) ?_
              cases h
              exact kj _ _ _ (lv_sub hl [0, 1, 2, 3] rfl) hH
            · replace h := mi_neg hc h
              refine lv_iconst (v := 1) hx hb dX5_group_77 (by decide) ?_
              refine lv_goto (tgt := 82) hx hb dX5_group_78 (by decide) ?_
              cases h
              exact kj _ _ _ (lv_sub hl [0, 1, 2, 3] rfl) hH
def mX5_group_L6 : Nat → Int32 → Int32 → fm_S → Option (Int32)
  | 0, _, _, _ => none
  | n + 1, x2, x3, σ =>
    if x2 = x3 then
      some x2
    else
      mb1 (mX5_group_L16 fF x2 (0 : Int32) σ) fun y16_2 =>
      mX5_group_L6 n y16_2 x2 σ
set_option maxHeartbeats 4000000 in
set_option maxRecDepth 100000 in
theorem wX5_group_L6 {p : Program} {l : Launch} {e : Env} {s : State} {m : MethodId} {args : Array Value} {below : List Frame} {meth : Method} {c : Code} {Q : State → Prop} {K : fm_K} (C : CallFix p m c cX5_group 6 s args wsX5_group RX5) (hst : fm_st K (fm_A K s.heap.size) s s.heap) :
    ∀ (n : Nat) (x2 : Int32) (x3 : Int32) (σ : fm_S) (o2 : Int32), mX5_group_L6 n x2 x3 σ = some o2 → (∀ (ls : Array Slot) (H : Heap) (locs : List Loc), lv_has ls 6 [(2, .int o2)] → fm_H K σ (fm_A K s.heap.size) s H locs → W p l e rmX5_group s m args below meth c H locs 0 0 Q (F0 m 112 ls [])) → ∀ (ls : Array Slot) (H : Heap) (locs : List Loc), lv_has ls 6 [(0, .ref (K.2.2.2 40)), (2, .int x2), (3, .int x3)] → fm_H K σ (fm_A K s.heap.size) s H locs → W p l e rmX5_group s m args below meth c H locs 0 0 Q (F0 m 6 ls []) := by
  obtain ⟨hx, hb, hml, hown, hts⟩ := id C
  have hA : ∀ q, fm_A K s.heap.size q → fm_A K s.heap.size q := fun _ h => h
  intro n
  induction n with
  | zero => intro x2 x3 σ o2 h; simp [mX5_group_L6] at h
  | succ n ih =>
    intro x2 x3 σ o2 h kk ls H locs hl hH
    rw [mX5_group_L6] at h
    refine lv_iload_n hx hb dX5_group_6 rfl (lv_at hl 1 rfl) ?_
    refine lv_iload_n hx hb dX5_group_7 rfl (lv_at hl 2 rfl) ?_
    refine lv_icmp_eq (tgt := 112) hx hb dX5_group_8 (by decide) (fun hc => ?_) (fun hc => ?_)
    · replace h := mi_pos hc h
      cases h
      exact kk _ _ _ (lv_sub hl [1] rfl) hH
    · replace h := mi_neg hc h
      refine lv_iload_n hx hb dX5_group_11 rfl (lv_at hl 1 rfl) ?_
      refine lv_istore_n (lv' := [(3, .int x2), (0, .ref (K.2.2.2 40)), (2, .int x2)]) hx hb dX5_group_12 rfl hl (by decide) rfl (fun ls hl => ?_)
      refine lv_iconst (v := 0) hx hb dX5_group_13 (by decide) ?_
      refine lv_istore (lv' := [(4, .int (0 : Int32)), (3, .int x2), (0, .ref (K.2.2.2 40)), (2, .int x2)]) hx hb dX5_group_14 hl (by decide) rfl (fun ls hl => ?_)
      obtain ⟨y16_2, h16, h⟩ := mi_b1 h
      refine wX5_group_L16 C hst _ _ _ _ _ h16 _ (fun ls H locs hl hH => ?_) _ _ _ (lv_sub hl [2, 3, 1, 0] rfl) hH
      refine lv_goto (tgt := 6) hx hb dX5_group_109 (by decide) ?_
      exact ih _ _ _ _ h kk _ _ _ (lv_sub hl [0, 1, 2] rfl) hH
def mX5_group (x1 : Int32) (σ : fm_S) : Option Int32 :=
  mb1 (mX5_group_L6 fF ((1 : Int32) <<< (x1 &&& 31)) (0 : Int32) σ) fun y6_2 =>
  some y6_2
set_option maxHeartbeats 4000000 in
set_option maxRecDepth 100000 in
theorem kX5_group (l : Launch) (K : fm_K) {x1 : Int32} {σ : fm_S} {r : Int32} (h : mX5_group x1 σ = some r) : fm_CI l yX5_group wsX5_group rmX5_group K [.ref (K.2.2.2 40), .int x1] σ r σ := by
  intro sz
  refine fm_start (Qc := fun sz => fm_QI K r σ sz) (cc := cX5_group) (maxL := 6) (ret := (some .int)) (by decide) rfl (Nat.le_of_ble_eq_true rfl) ?_
  intro p e s m args below meth c C hr hlk hst hH ls hl
  have C : CallFix p m c cX5_group 6 s args wsX5_group RX5 := C
  obtain ⟨hx, hb, hml, hown, hts⟩ := id C
  have hA : ∀ q, fm_A K s.heap.size q → fm_A K s.heap.size q := fun _ h => h
  have hl : lv_has ls 6 [(0, .ref (K.2.2.2 40)), (1, .int x1)] := hl
  generalize hQ : MQ below _ args s _ _ _ = Q
  rw [mX5_group] at h
  refine lv_iconst (v := 1) hx hb dX5_group_0 (by decide) ?_
  refine lv_iload_n hx hb dX5_group_1 rfl (lv_at hl 1 rfl) ?_
  refine lv_ishl hx hb dX5_group_2 ?_
  refine lv_istore_n (lv' := [(2, .int ((1 : Int32) <<< (x1 &&& 31))), (0, .ref (K.2.2.2 40)), (1, .int x1)]) hx hb dX5_group_3 rfl hl (by decide) rfl (fun ls hl => ?_)
  refine lv_iconst (v := 0) hx hb dX5_group_4 (by decide) ?_
  refine lv_istore_n (lv' := [(3, .int (0 : Int32)), (2, .int ((1 : Int32) <<< (x1 &&& 31))), (0, .ref (K.2.2.2 40)), (1, .int x1)]) hx hb dX5_group_5 rfl hl (by decide) rfl (fun ls hl => ?_)
  obtain ⟨y6_2, h6, h⟩ := mi_b1 h
  refine wX5_group_L6 C hst _ _ _ _ _ h6 (fun ls H locs hl hH => ?_) _ _ _ (lv_sub hl [2, 1, 0] rfl) hH
  refine lv_iload_n hx hb dX5_group_112 rfl (lv_at hl 0 rfl) ?_
  cases h
  subst hQ
  exact fm_iret hx hb hr hlk hst hH dX5_group_113
/-! RX5.countUp()I -/
abbrev rmX5_countUp : Room := { frames := 0, cells := 0, slots := 0, locals := 0 }
def mX5_countUp_L4 : Nat → Int32 → Int32 → fm_S → Option (Int32)
  | 0, _, _, _ => none
  | n + 1, x1, x2, σ =>
    if (σ.1 61 0) ≤ x2 then
      some x1
    else
      if (x2 < 0 ∨ 8 ≤ x2.toNatClampNeg) then none else
      mb1 (show Option (Int32) from
        if (rI σ 43 x2) = 0 then
          some ((1 : Int32))
        else
          some ((0 : Int32))) fun v2_0 =>
      mX5_countUp_L4 n (x1 + v2_0) (x2 + 1) σ
set_option maxHeartbeats 4000000 in
set_option maxRecDepth 100000 in
theorem wX5_countUp_L4 {p : Program} {l : Launch} {e : Env} {s : State} {m : MethodId} {args : Array Value} {below : List Frame} {meth : Method} {c : Code} {Q : State → Prop} {K : fm_K} (C : CallFix p m c cX5_countUp 3 s args wsX5_countUp RX5) (hst : fm_st K (fm_A K s.heap.size) s s.heap) :
    ∀ (n : Nat) (x1 : Int32) (x2 : Int32) (σ : fm_S) (o1 : Int32), mX5_countUp_L4 n x1 x2 σ = some o1 → (∀ (ls : Array Slot) (H : Heap) (locs : List Loc), lv_has ls 3 [(1, .int o1)] → fm_H K σ (fm_A K s.heap.size) s H locs → W p l e rmX5_countUp s m args below meth c H locs 0 0 Q (F0 m 35 ls [])) → ∀ (ls : Array Slot) (H : Heap) (locs : List Loc), lv_has ls 3 [(0, .ref (K.2.2.2 40)), (1, .int x1), (2, .int x2)] → fm_H K σ (fm_A K s.heap.size) s H locs → W p l e rmX5_countUp s m args below meth c H locs 0 0 Q (F0 m 4 ls []) := by
  obtain ⟨hx, hb, hml, hown, hts⟩ := id C
  have hA : ∀ q, fm_A K s.heap.size q → fm_A K s.heap.size q := fun _ h => h
  intro n
  induction n with
  | zero => intro x1 x2 σ o1 h; simp [mX5_countUp_L4] at h
  | succ n ih =>
    intro x1 x2 σ o1 h kk ls H locs hl hH
    rw [mX5_countUp_L4] at h
    refine lv_iload_n hx hb dX5_countUp_4 rfl (lv_at hl 2 rfl) ?_
    refine lv_aload_n hx hb dX5_countUp_5 rfl (lv_at hl 0 rfl) ?_
    refine fm_getf (T := TX5) (N := 17) hx hb hts (fun _ h => List.mem_cons_of_mem _ (List.mem_append_right _ h)) hown hst.1 hH 40 (by decide) rfl (fm_ob_40 _ _) rfl 10 (by decide) (List.mem_of_getElem? (i := 1) rfl) rfl rfl dX5_countUp_6 ?_
    refine lv_icmp_ge (tgt := 35) hx hb dX5_countUp_9 (by decide) (fun hc => ?_) (fun hc => ?_)
    · replace h := mi_pos hc h
      cases h
      exact kk _ _ _ (lv_sub hl [1] rfl) hH
    · replace h := mi_neg hc h
      refine lv_iload_n hx hb dX5_countUp_12 rfl (lv_at hl 1 rfl) ?_
      refine lv_aload_n hx hb dX5_countUp_13 rfl (lv_at hl 0 rfl) ?_
      refine fm_getf (T := TX5) (N := 17) hx hb hts (fun _ h => List.mem_cons_of_mem _ (List.mem_append_right _ h)) hown hst.1 hH 40 (by decide) rfl (fm_ob_40 _ _) rfl 2 (by decide) (List.mem_of_getElem? (i := 2) rfl) rfl rfl dX5_countUp_14 ?_
      refine lv_iload_n hx hb dX5_countUp_17 rfl (lv_at hl 2 rfl) ?_
      obtain ⟨hi1, h⟩ := mi_chk h
      refine fm_zld hx hb hst.1 hH 43 (by decide) rfl rfl hi1 dX5_countUp_18 ?_
      obtain ⟨v2_0, hd, h2⟩ := mi_b1 h
      have kj : ∀ (ls : Array Slot) (H : Heap) (locs : List Loc), lv_has ls 3 [(0, .ref (K.2.2.2 40)), (2, .int x2)] → fm_H K σ (fm_A K s.heap.size) s H locs → W p l e rmX5_countUp s m args below meth c H locs 0 0 Q (F0 m 27 ls [.int v2_0, .int x1]) := by
        clear h hd
        intro ls H locs hl hH
        have h := h2
        clear h2
        refine lv_iadd hx hb dX5_countUp_27 ?_
        refine lv_istore_n (lv' := [(1, .int (x1 + v2_0)), (0, .ref (K.2.2.2 40)), (2, .int x2)]) hx hb dX5_countUp_28 rfl hl (by decide) rfl (fun ls hl => ?_)
        refine lv_iinc (v := (x2 + 1)) (lv' := [(2, .int (x2 + 1)), (1, .int (x1 + v2_0)), (0, .ref (K.2.2.2 40))]) hx hb dX5_countUp_29 hl (k := 2) rfl rfl (by decide) rfl (fun ls hl => ?_)
        refine lv_goto (tgt := 4) hx hb dX5_countUp_32 (by decide) ?_
        exact ih _ _ _ _ h kk _ _ _ (lv_sub hl [2, 1, 0] rfl) hH
      replace h := hd
      clear h2 hd
      refine lv_if_eq (tgt := 26) hx hb dX5_countUp_19 (by decide) (fun hc => ?_) (fun hc => ?_)
      · replace h := mi_pos hc h
        refine lv_iconst (v := 1) hx hb dX5_countUp_26 (by decide) ?_
        cases h
        exact kj _ _ _ (lv_sub hl [0, 2] rfl) hH
      · replace h := mi_neg hc h
        refine lv_iconst (v := 0) hx hb dX5_countUp_22 (by decide) ?_
        refine lv_goto (tgt := 27) hx hb dX5_countUp_23 (by decide) ?_
        cases h
        exact kj _ _ _ (lv_sub hl [0, 2] rfl) hH
def mX5_countUp (σ : fm_S) : Option Int32 :=
  mb1 (mX5_countUp_L4 fF (0 : Int32) (0 : Int32) σ) fun y4_1 =>
  some y4_1
set_option maxHeartbeats 4000000 in
set_option maxRecDepth 100000 in
theorem kX5_countUp (l : Launch) (K : fm_K) {σ : fm_S} {r : Int32} (h : mX5_countUp σ = some r) : fm_CI l yX5_countUp wsX5_countUp rmX5_countUp K [.ref (K.2.2.2 40)] σ r σ := by
  intro sz
  refine fm_start (Qc := fun sz => fm_QI K r σ sz) (cc := cX5_countUp) (maxL := 3) (ret := (some .int)) (by decide) rfl (Nat.le_of_ble_eq_true rfl) ?_
  intro p e s m args below meth c C hr hlk hst hH ls hl
  have C : CallFix p m c cX5_countUp 3 s args wsX5_countUp RX5 := C
  obtain ⟨hx, hb, hml, hown, hts⟩ := id C
  have hA : ∀ q, fm_A K s.heap.size q → fm_A K s.heap.size q := fun _ h => h
  have hl : lv_has ls 3 [(0, .ref (K.2.2.2 40))] := hl
  generalize hQ : MQ below _ args s _ _ _ = Q
  rw [mX5_countUp] at h
  refine lv_iconst (v := 0) hx hb dX5_countUp_0 (by decide) ?_
  refine lv_istore_n (lv' := [(1, .int (0 : Int32)), (0, .ref (K.2.2.2 40))]) hx hb dX5_countUp_1 rfl hl (by decide) rfl (fun ls hl => ?_)
  refine lv_iconst (v := 0) hx hb dX5_countUp_2 (by decide) ?_
  refine lv_istore_n (lv' := [(2, .int (0 : Int32)), (1, .int (0 : Int32)), (0, .ref (K.2.2.2 40))]) hx hb dX5_countUp_3 rfl hl (by decide) rfl (fun ls hl => ?_)
  obtain ⟨y4_1, h4, h⟩ := mi_b1 h
  refine wX5_countUp_L4 C hst _ _ _ _ _ h4 (fun ls H locs hl hH => ?_) _ _ _ (lv_sub hl [2, 1, 0] rfl) hH
  refine lv_iload_n hx hb dX5_countUp_35 rfl (lv_at hl 0 rfl) ?_
  cases h
  subst hQ
  exact fm_iret hx hb hr hlk hst hH dX5_countUp_36
/-! RX5.countGroups()I -/
abbrev rmX5_countGroups : Room := { frames := 3, cells := 0, slots := 0, locals := 72 }
def mX5_countGroups_L4 : Nat → Int32 → Int32 → fm_S → Option (Int32)
  | 0, _, _, _ => none
  | n + 1, x1, x2, σ =>
    if (σ.1 61 0) ≤ x2 then
      some x1
    else
      if (x2 < 0 ∨ 8 ≤ x2.toNatClampNeg) then none else
      mb1 (show Option (Int32) from
        if (rI σ 43 x2) = 0 then
          mb1 (mX5_group x2 σ) fun r24 =>
          if (r24 &&& (((1 : Int32) <<< (x2 &&& 31)) - (1 : Int32))) = 0 then
            some ((1 : Int32))
          else
            some ((0 : Int32))
        else
          some ((0 : Int32))) fun v2_0 =>
      mX5_countGroups_L4 n (x1 + v2_0) (x2 + 1) σ
set_option maxHeartbeats 4000000 in
set_option maxRecDepth 100000 in
theorem wX5_countGroups_L4 {p : Program} {l : Launch} {e : Env} {s : State} {m : MethodId} {args : Array Value} {below : List Frame} {meth : Method} {c : Code} {Q : State → Prop} {K : fm_K} (C : CallFix p m c cX5_countGroups 3 s args wsX5_countGroups RX5) (hst : fm_st K (fm_A K s.heap.size) s s.heap) :
    ∀ (n : Nat) (x1 : Int32) (x2 : Int32) (σ : fm_S) (o1 : Int32), mX5_countGroups_L4 n x1 x2 σ = some o1 → (∀ (ls : Array Slot) (H : Heap) (locs : List Loc), lv_has ls 3 [(1, .int o1)] → fm_H K σ (fm_A K s.heap.size) s H locs → W p l e rmX5_countGroups s m args below meth c H locs 0 0 Q (F0 m 49 ls [])) → ∀ (ls : Array Slot) (H : Heap) (locs : List Loc), lv_has ls 3 [(0, .ref (K.2.2.2 40)), (1, .int x1), (2, .int x2)] → fm_H K σ (fm_A K s.heap.size) s H locs → W p l e rmX5_countGroups s m args below meth c H locs 0 0 Q (F0 m 4 ls []) := by
  obtain ⟨hx, hb, hml, hown, hts⟩ := id C
  have hA : ∀ q, fm_A K s.heap.size q → fm_A K s.heap.size q := fun _ h => h
  intro n
  induction n with
  | zero => intro x1 x2 σ o1 h; simp [mX5_countGroups_L4] at h
  | succ n ih =>
    intro x1 x2 σ o1 h kk ls H locs hl hH
    rw [mX5_countGroups_L4] at h
    refine lv_iload_n hx hb dX5_countGroups_4 rfl (lv_at hl 2 rfl) ?_
    refine lv_aload_n hx hb dX5_countGroups_5 rfl (lv_at hl 0 rfl) ?_
    refine fm_getf (T := TX5) (N := 17) hx hb hts (fun _ h => List.mem_cons_of_mem _ (List.mem_append_right _ h)) hown hst.1 hH 40 (by decide) rfl (fm_ob_40 _ _) rfl 10 (by decide) (List.mem_of_getElem? (i := 1) rfl) rfl rfl dX5_countGroups_6 ?_
    refine lv_icmp_ge (tgt := 49) hx hb dX5_countGroups_9 (by decide) (fun hc => ?_) (fun hc => ?_)
    · replace h := mi_pos hc h
      cases h
      exact kk _ _ _ (lv_sub hl [1] rfl) hH
    · replace h := mi_neg hc h
      refine lv_iload_n hx hb dX5_countGroups_12 rfl (lv_at hl 1 rfl) ?_
      refine lv_aload_n hx hb dX5_countGroups_13 rfl (lv_at hl 0 rfl) ?_
      refine fm_getf (T := TX5) (N := 17) hx hb hts (fun _ h => List.mem_cons_of_mem _ (List.mem_append_right _ h)) hown hst.1 hH 40 (by decide) rfl (fm_ob_40 _ _) rfl 2 (by decide) (List.mem_of_getElem? (i := 2) rfl) rfl rfl dX5_countGroups_14 ?_
      refine lv_iload_n hx hb dX5_countGroups_17 rfl (lv_at hl 2 rfl) ?_
      obtain ⟨hi1, h⟩ := mi_chk h
      refine fm_zld hx hb hst.1 hH 43 (by decide) rfl rfl hi1 dX5_countGroups_18 ?_
      obtain ⟨v2_0, hd, h2⟩ := mi_b1 h
      have kj : ∀ (ls : Array Slot) (H : Heap) (locs : List Loc), lv_has ls 3 [(0, .ref (K.2.2.2 40)), (2, .int x2)] → fm_H K σ (fm_A K s.heap.size) s H locs → W p l e rmX5_countGroups s m args below meth c H locs 0 0 Q (F0 m 41 ls [.int v2_0, .int x1]) := by
        clear h hd
        intro ls H locs hl hH
        have h := h2
        clear h2
        refine lv_iadd hx hb dX5_countGroups_41 ?_
        refine lv_istore_n (lv' := [(1, .int (x1 + v2_0)), (0, .ref (K.2.2.2 40)), (2, .int x2)]) hx hb dX5_countGroups_42 rfl hl (by decide) rfl (fun ls hl => ?_)
        refine lv_iinc (v := (x2 + 1)) (lv' := [(2, .int (x2 + 1)), (1, .int (x1 + v2_0)), (0, .ref (K.2.2.2 40))]) hx hb dX5_countGroups_43 hl (k := 2) rfl rfl (by decide) rfl (fun ls hl => ?_)
        refine lv_goto (tgt := 4) hx hb dX5_countGroups_46 (by decide) ?_
        exact ih _ _ _ _ h kk _ _ _ (lv_sub hl [2, 1, 0] rfl) hH
      replace h := hd
      clear h2 hd
      refine lv_if_ne (tgt := 40) hx hb dX5_countGroups_19 (by decide) (fun hc => ?_) (fun hc => ?_)
      · replace h := mi_neg hc h
        refine lv_iconst (v := 0) hx hb dX5_countGroups_40 (by decide) ?_
        cases h
        exact kj _ _ _ (lv_sub hl [0, 2] rfl) hH
      · replace h := mi_pos hc h
        refine lv_aload_n hx hb dX5_countGroups_22 rfl (lv_at hl 0 rfl) ?_
        refine lv_iload_n hx hb dX5_countGroups_23 rfl (lv_at hl 2 rfl) ?_
        obtain ⟨r24, h24, h⟩ := mi_b1 h
        refine fm_ci (va_runV (As := [.int x2]) (rest := [.int x1]) C (kX5_group l K h24 _) (cwV 1 hts gX5_countGroups_X5_group rfl rfl rfl (by decide +kernel) ⟨(Nat.le_of_ble_eq_true rfl), (Nat.le_of_ble_eq_true rfl)⟩) ⟨fm_blind, fm_recv hst hH (q := 40) (by decide) rfl (fm_ob_40 _ _) rfl, fm_pre hst hA hH⟩ rfl rfl hl.1 rfl (lv_room (Nat.le_of_ble_eq_true rfl)) dX5_countGroups_24 ⟨(Nat.le_of_ble_eq_true rfl), (Nat.le_of_ble_eq_true rfl)⟩) hA hH (fun H locs hH => ?_)
        refine lv_iconst (v := 1) hx hb dX5_countGroups_27 (by decide) ?_
        refine lv_iload_n hx hb dX5_countGroups_28 rfl (lv_at hl 2 rfl) ?_
        refine lv_ishl hx hb dX5_countGroups_29 ?_
        refine lv_iconst (v := 1) hx hb dX5_countGroups_30 (by decide) ?_
        refine lv_isub hx hb dX5_countGroups_31 ?_
        refine lv_iand hx hb dX5_countGroups_32 ?_
        refine lv_if_ne (tgt := 40) hx hb dX5_countGroups_33 (by decide) (fun hc => ?_) (fun hc => ?_)
        · replace h := mi_neg hc h
          refine lv_iconst (v := 0) hx hb dX5_countGroups_40 (by decide) ?_
          cases h
          exact kj _ _ _ (lv_sub hl [0, 2] rfl) hH
        · replace h := mi_pos hc h
          refine lv_iconst (v := 1) hx hb dX5_countGroups_36 (by decide) ?_
          refine lv_goto (tgt := 41) hx hb dX5_countGroups_37 (by decide) ?_
          cases h
          exact kj _ _ _ (lv_sub hl [0, 2] rfl) hH
def mX5_countGroups (σ : fm_S) : Option Int32 :=
  mb1 (mX5_countGroups_L4 fF (0 : Int32) (0 : Int32) σ) fun y4_1 =>
  some y4_1
set_option maxHeartbeats 4000000 in
set_option maxRecDepth 100000 in
theorem kX5_countGroups (l : Launch) (K : fm_K) {σ : fm_S} {r : Int32} (h : mX5_countGroups σ = some r) : fm_CI l yX5_countGroups wsX5_countGroups rmX5_countGroups K [.ref (K.2.2.2 40)] σ r σ := by
  intro sz
  refine fm_start (Qc := fun sz => fm_QI K r σ sz) (cc := cX5_countGroups) (maxL := 3) (ret := (some .int)) (by decide) rfl (Nat.le_of_ble_eq_true rfl) ?_
  intro p e s m args below meth c C hr hlk hst hH ls hl
  have C : CallFix p m c cX5_countGroups 3 s args wsX5_countGroups RX5 := C
  obtain ⟨hx, hb, hml, hown, hts⟩ := id C
  have hA : ∀ q, fm_A K s.heap.size q → fm_A K s.heap.size q := fun _ h => h
  have hl : lv_has ls 3 [(0, .ref (K.2.2.2 40))] := hl
  generalize hQ : MQ below _ args s _ _ _ = Q
  rw [mX5_countGroups] at h
  refine lv_iconst (v := 0) hx hb dX5_countGroups_0 (by decide) ?_
  refine lv_istore_n (lv' := [(1, .int (0 : Int32)), (0, .ref (K.2.2.2 40))]) hx hb dX5_countGroups_1 rfl hl (by decide) rfl (fun ls hl => ?_)
  refine lv_iconst (v := 0) hx hb dX5_countGroups_2 (by decide) ?_
  refine lv_istore_n (lv' := [(2, .int (0 : Int32)), (1, .int (0 : Int32)), (0, .ref (K.2.2.2 40))]) hx hb dX5_countGroups_3 rfl hl (by decide) rfl (fun ls hl => ?_)
  obtain ⟨y4_1, h4, h⟩ := mi_b1 h
  refine wX5_countGroups_L4 C hst _ _ _ _ _ h4 (fun ls H locs hl hH => ?_) _ _ _ (lv_sub hl [2, 1, 0] rfl) hH
  refine lv_iload_n hx hb dX5_countGroups_49 rfl (lv_at hl 0 rfl) ?_
  cases h
  subst hQ
  exact fm_iret hx hb hr hlk hst hH dX5_countGroups_50
/-! RX5.areLinked(II)Z -/
abbrev rmX5_areLinked : Room := { frames := 2, cells := 0, slots := 0, locals := 47 }
def mX5_areLinked (x1 : Int32) (x2 : Int32) (σ : fm_S) : Option (Int32 × fm_S) :=
  mb1 (mX5_is x1 σ) fun r3 =>
  mb1 (show Option (Int32) from
    if r3 = 0 then
      some ((0 : Int32))
    else
      mb1 (mX5_is x2 σ) fun r11 =>
      if r11 = 0 then
        some ((0 : Int32))
      else
        some ((1 : Int32))) fun v1_0 =>
  mb2 (mX5_goes v1_0 (1 : Int32) σ) fun r23 σ23 =>
  if r23 = 0 then
    some ((0 : Int32), σ23)
  else
    mb1 (mX5_linked x1 x2 σ23) fun r32 =>
    if r32 = 0 then
      some ((0 : Int32), σ23)
    else
      some ((1 : Int32), σ23)
set_option maxHeartbeats 4000000 in
set_option maxRecDepth 100000 in
theorem kX5_areLinked (l : Launch) (K : fm_K) {x1 : Int32} {x2 : Int32} {σ : fm_S} {r : Int32} {σ' : fm_S} (h : mX5_areLinked x1 x2 σ = some (r, σ')) : fm_CI l yX5_areLinked wsX5_areLinked rmX5_areLinked K [.ref (K.2.2.2 40), .int x1, .int x2] σ r σ' := by
  intro sz
  refine fm_start (Qc := fun sz => fm_QI K r σ' sz) (cc := cX5_areLinked) (maxL := 3) (ret := (some .boolean)) (by decide) rfl (Nat.le_of_ble_eq_true rfl) ?_
  intro p e s m args below meth c C hr hlk hst hH ls hl
  have C : CallFix p m c cX5_areLinked 3 s args wsX5_areLinked RX5 := C
  obtain ⟨hx, hb, hml, hown, hts⟩ := id C
  have hA : ∀ q, fm_A K s.heap.size q → fm_A K s.heap.size q := fun _ h => h
  have hl : lv_has ls 3 [(0, .ref (K.2.2.2 40)), (1, .int x1), (2, .int x2)] := hl
  generalize hQ : MQ below _ args s _ _ _ = Q
  rw [mX5_areLinked] at h
  refine lv_aload_n hx hb dX5_areLinked_0 rfl (lv_at hl 0 rfl) ?_
  refine lv_aload_n hx hb dX5_areLinked_1 rfl (lv_at hl 0 rfl) ?_
  refine lv_iload_n hx hb dX5_areLinked_2 rfl (lv_at hl 1 rfl) ?_
  obtain ⟨r3, h3, h⟩ := mi_b1 h
  refine fm_ci (va_runV (As := [.int x1]) (rest := [.ref (K.2.2.2 40)]) C (kX5_is l K h3 _) (cwV 1 hts gX5_areLinked_X5_is rfl rfl rfl (by decide +kernel) ⟨(Nat.le_of_ble_eq_true rfl), (Nat.le_of_ble_eq_true rfl)⟩) ⟨fm_blind, fm_recv hst hH (q := 40) (by decide) rfl (fm_ob_40 _ _) rfl, fm_pre hst hA hH⟩ rfl rfl hl.1 rfl (lv_room (Nat.le_of_ble_eq_true rfl)) dX5_areLinked_3 ⟨(Nat.le_of_ble_eq_true rfl), (Nat.le_of_ble_eq_true rfl)⟩) hA hH (fun H locs hH => ?_)
  obtain ⟨v1_0, hd, h2⟩ := mi_b1 h
  have kj : ∀ (ls : Array Slot) (H : Heap) (locs : List Loc), lv_has ls 3 [(0, .ref (K.2.2.2 40)), (1, .int x1), (2, .int x2)] → fm_H K σ (fm_A K s.heap.size) s H locs → W p l e rmX5_areLinked s m args below meth c H locs 0 0 Q (F0 m 22 ls [.int v1_0, .ref (K.2.2.2 40)]) := by
    clear h hd
    intro ls H locs hl hH
    have h := h2
    clear h2
    refine lv_iconst (v := 1) hx hb dX5_areLinked_22 (by decide) ?_
    obtain ⟨r23, σ23, h23, h⟩ := mi_b2 h
    refine fm_ci (va_runV (As := [.int v1_0, .int (1 : Int32)]) (rest := []) C (kX5_goes l K h23 _) (cwV 2 hts gX5_areLinked_X5_goes rfl rfl rfl (by decide +kernel) ⟨(Nat.le_of_ble_eq_true rfl), (Nat.le_of_ble_eq_true rfl)⟩) ⟨fm_blind, fm_recv hst hH (q := 40) (by decide) rfl (fm_ob_40 _ _) rfl, fm_pre hst hA hH⟩ rfl rfl hl.1 rfl (lv_room (Nat.le_of_ble_eq_true rfl)) dX5_areLinked_23 ⟨(Nat.le_of_ble_eq_true rfl), (Nat.le_of_ble_eq_true rfl)⟩) hA hH (fun H locs hH => ?_)
    refine lv_if_eq (tgt := 42) hx hb dX5_areLinked_26 (by decide) (fun hc => ?_) (fun hc => ?_)
    · replace h := mi_pos hc h
      refine lv_iconst (v := 0) hx hb dX5_areLinked_42 (by decide) ?_
      cases h
      subst hQ
      exact fm_zret hx hb hr rfl hlk hst hH dX5_areLinked_43
    · replace h := mi_neg hc h
      refine lv_aload_n hx hb dX5_areLinked_29 rfl (lv_at hl 0 rfl) ?_
      refine lv_iload_n hx hb dX5_areLinked_30 rfl (lv_at hl 1 rfl) ?_
      refine lv_iload_n hx hb dX5_areLinked_31 rfl (lv_at hl 2 rfl) ?_
      obtain ⟨r32, h32, h⟩ := mi_b1 h
      refine fm_ci (va_runV (As := [.int x1, .int x2]) (rest := []) C (kX5_linked l K h32 _) (cwV 2 hts gX5_areLinked_X5_linked rfl rfl rfl (by decide +kernel) ⟨(Nat.le_of_ble_eq_true rfl), (Nat.le_of_ble_eq_true rfl)⟩) ⟨fm_blind, fm_recv hst hH (q := 40) (by decide) rfl (fm_ob_40 _ _) rfl, fm_pre hst hA hH⟩ rfl rfl hl.1 rfl (lv_room (Nat.le_of_ble_eq_true rfl)) dX5_areLinked_32 ⟨(Nat.le_of_ble_eq_true rfl), (Nat.le_of_ble_eq_true rfl)⟩) hA hH (fun H locs hH => ?_)
      refine lv_if_eq (tgt := 42) hx hb dX5_areLinked_35 (by decide) (fun hc => ?_) (fun hc => ?_)
      · replace h := mi_pos hc h
        refine lv_iconst (v := 0) hx hb dX5_areLinked_42 (by decide) ?_
        cases h
        subst hQ
        exact fm_zret hx hb hr rfl hlk hst hH dX5_areLinked_43
      · replace h := mi_neg hc h
        refine lv_iconst (v := 1) hx hb dX5_areLinked_38 (by decide) ?_
        refine lv_goto (tgt := 43) hx hb dX5_areLinked_39 (by decide) ?_
        cases h
        subst hQ
        exact fm_zret hx hb hr rfl hlk hst hH dX5_areLinked_43
  replace h := hd
  clear h2 hd
  refine lv_if_eq (tgt := 21) hx hb dX5_areLinked_6 (by decide) (fun hc => ?_) (fun hc => ?_)
  · replace h := mi_pos hc h
    refine lv_iconst (v := 0) hx hb dX5_areLinked_21 (by decide) ?_
    cases h
    exact kj _ _ _ (lv_sub hl [0, 1, 2] rfl) hH
  · replace h := mi_neg hc h
    refine lv_aload_n hx hb dX5_areLinked_9 rfl (lv_at hl 0 rfl) ?_
    refine lv_iload_n hx hb dX5_areLinked_10 rfl (lv_at hl 2 rfl) ?_
    obtain ⟨r11, h11, h⟩ := mi_b1 h
    refine fm_ci (va_runV (As := [.int x2]) (rest := [.ref (K.2.2.2 40)]) C (kX5_is l K h11 _) (cwV 1 hts gX5_areLinked_X5_is rfl rfl rfl (by decide +kernel) ⟨(Nat.le_of_ble_eq_true rfl), (Nat.le_of_ble_eq_true rfl)⟩) ⟨fm_blind, fm_recv hst hH (q := 40) (by decide) rfl (fm_ob_40 _ _) rfl, fm_pre hst hA hH⟩ rfl rfl hl.1 rfl (lv_room (Nat.le_of_ble_eq_true rfl)) dX5_areLinked_11 ⟨(Nat.le_of_ble_eq_true rfl), (Nat.le_of_ble_eq_true rfl)⟩) hA hH (fun H locs hH => ?_)
    refine lv_if_eq (tgt := 21) hx hb dX5_areLinked_14 (by decide) (fun hc => ?_) (fun hc => ?_)
    · replace h := mi_pos hc h
      refine lv_iconst (v := 0) hx hb dX5_areLinked_21 (by decide) ?_
      cases h
      exact kj _ _ _ (lv_sub hl [0, 1, 2] rfl) hH
    · replace h := mi_neg hc h
      refine lv_iconst (v := 1) hx hb dX5_areLinked_17 (by decide) ?_
      refine lv_goto (tgt := 22) hx hb dX5_areLinked_18 (by decide) ?_
      cases h
      exact kj _ _ _ (lv_sub hl [0, 1, 2] rfl) hH
/-! RX5.links()I -/
abbrev rmX5_links : Room := { frames := 3, cells := 0, slots := 0, locals := 70 }
def mX5_links_L9 : Nat → Int32 → Int32 → fm_S → Option (Int32)
  | 0, _, _, _ => none
  | n + 1, x1, x2, σ =>
    if (σ.1 61 0) ≤ x2 then
      some x1
    else
      mb1 (mX5_degrees x2 σ) fun r20 =>
      mX5_links_L9 n (x1 + r20) (x2 + 1) σ
set_option maxHeartbeats 4000000 in
set_option maxRecDepth 100000 in
theorem wX5_links_L9 {p : Program} {l : Launch} {e : Env} {s : State} {m : MethodId} {args : Array Value} {below : List Frame} {meth : Method} {c : Code} {Q : State → Prop} {K : fm_K} (C : CallFix p m c cX5_links 3 s args wsX5_links RX5) (hst : fm_st K (fm_A K s.heap.size) s s.heap) :
    ∀ (n : Nat) (x1 : Int32) (x2 : Int32) (σ : fm_S) (o1 : Int32), mX5_links_L9 n x1 x2 σ = some o1 → (∀ (ls : Array Slot) (H : Heap) (locs : List Loc), lv_has ls 3 [(1, .int o1)] → fm_H K σ (fm_A K s.heap.size) s H locs → W p l e rmX5_links s m args below meth c H locs 0 0 Q (F0 m 31 ls [])) → ∀ (ls : Array Slot) (H : Heap) (locs : List Loc), lv_has ls 3 [(0, .ref (K.2.2.2 40)), (1, .int x1), (2, .int x2)] → fm_H K σ (fm_A K s.heap.size) s H locs → W p l e rmX5_links s m args below meth c H locs 0 0 Q (F0 m 9 ls []) := by
  obtain ⟨hx, hb, hml, hown, hts⟩ := id C
  have hA : ∀ q, fm_A K s.heap.size q → fm_A K s.heap.size q := fun _ h => h
  intro n
  induction n with
  | zero => intro x1 x2 σ o1 h; simp [mX5_links_L9] at h
  | succ n ih =>
    intro x1 x2 σ o1 h kk ls H locs hl hH
    rw [mX5_links_L9] at h
    refine lv_iload_n hx hb dX5_links_9 rfl (lv_at hl 2 rfl) ?_
    refine lv_aload_n hx hb dX5_links_10 rfl (lv_at hl 0 rfl) ?_
    refine fm_getf (T := TX5) (N := 17) hx hb hts (fun _ h => List.mem_cons_of_mem _ (List.mem_append_right _ h)) hown hst.1 hH 40 (by decide) rfl (fm_ob_40 _ _) rfl 10 (by decide) (List.mem_of_getElem? (i := 2) rfl) rfl rfl dX5_links_11 ?_
    refine lv_icmp_ge (tgt := 31) hx hb dX5_links_14 (by decide) (fun hc => ?_) (fun hc => ?_)
    · replace h := mi_pos hc h
      cases h
      exact kk _ _ _ (lv_sub hl [1] rfl) hH
    · replace h := mi_neg hc h
      refine lv_iload_n hx hb dX5_links_17 rfl (lv_at hl 1 rfl) ?_
      refine lv_aload_n hx hb dX5_links_18 rfl (lv_at hl 0 rfl) ?_
      refine lv_iload_n hx hb dX5_links_19 rfl (lv_at hl 2 rfl) ?_
      obtain ⟨r20, h20, h⟩ := mi_b1 h
      refine fm_ci (va_runV (As := [.int x2]) (rest := [.int x1]) C (kX5_degrees l K h20 _) (cwV 1 hts gX5_links_X5_degrees rfl rfl rfl (by decide +kernel) ⟨(Nat.le_of_ble_eq_true rfl), (Nat.le_of_ble_eq_true rfl)⟩) ⟨fm_blind, fm_recv hst hH (q := 40) (by decide) rfl (fm_ob_40 _ _) rfl, fm_pre hst hA hH⟩ rfl rfl hl.1 rfl (lv_room (Nat.le_of_ble_eq_true rfl)) dX5_links_20 ⟨(Nat.le_of_ble_eq_true rfl), (Nat.le_of_ble_eq_true rfl)⟩) hA hH (fun H locs hH => ?_)
      refine lv_iadd hx hb dX5_links_23 ?_
      refine lv_istore_n (lv' := [(1, .int (x1 + r20)), (0, .ref (K.2.2.2 40)), (2, .int x2)]) hx hb dX5_links_24 rfl hl (by decide) rfl (fun ls hl => ?_)
      refine lv_iinc (v := (x2 + 1)) (lv' := [(2, .int (x2 + 1)), (1, .int (x1 + r20)), (0, .ref (K.2.2.2 40))]) hx hb dX5_links_25 hl (k := 2) rfl rfl (by decide) rfl (fun ls hl => ?_)
      refine lv_goto (tgt := 9) hx hb dX5_links_28 (by decide) ?_
      exact ih _ _ _ _ h kk _ _ _ (lv_sub hl [2, 1, 0] rfl) hH
def mX5_links (σ : fm_S) : Option (Int32 × fm_S) :=
  mb1 (mX5_links_L9 fF (0 : Int32) (0 : Int32) (fm_wr σ 61 2 (0 : Int32))) fun y9_1 =>
  some ((y9_1 / (2 : Int32)), (fm_wr σ 61 2 (0 : Int32)))
set_option maxHeartbeats 4000000 in
set_option maxRecDepth 100000 in
theorem kX5_links (l : Launch) (K : fm_K) {σ : fm_S} {r : Int32} {σ' : fm_S} (h : mX5_links σ = some (r, σ')) : fm_CI l yX5_links wsX5_links rmX5_links K [.ref (K.2.2.2 40)] σ r σ' := by
  intro sz
  refine fm_start (Qc := fun sz => fm_QI K r σ' sz) (cc := cX5_links) (maxL := 3) (ret := (some .int)) (by decide) rfl (Nat.le_of_ble_eq_true rfl) ?_
  intro p e s m args below meth c C hr hlk hst hH ls hl
  have C : CallFix p m c cX5_links 3 s args wsX5_links RX5 := C
  obtain ⟨hx, hb, hml, hown, hts⟩ := id C
  have hA : ∀ q, fm_A K s.heap.size q → fm_A K s.heap.size q := fun _ h => h
  have hl : lv_has ls 3 [(0, .ref (K.2.2.2 40))] := hl
  generalize hQ : MQ below _ args s _ _ _ = Q
  rw [mX5_links] at h
  refine lv_aload_n hx hb dX5_links_0 rfl (lv_at hl 0 rfl) ?_
  refine lv_iconst (v := 0) hx hb dX5_links_1 (by decide) ?_
  refine fm_putf (T := TX5) (N := 17) hx hb hts (fun _ h => List.mem_cons_of_mem _ (List.mem_append_right _ h)) tyX5 tyX5_ok nmX5 hown hst.1 hH 40 61 2 (by decide) rfl (by decide) (fm_ob_40 _ _) rfl 16 (by decide) (List.mem_of_getElem? (i := 1) rfl) rfl rfl rfl rfl (Nat.le_of_ble_eq_true rfl) dX5_links_2 (fun H locs hH => ?_)
  refine lv_iconst (v := 0) hx hb dX5_links_5 (by decide) ?_
  refine lv_istore_n (lv' := [(1, .int (0 : Int32)), (0, .ref (K.2.2.2 40))]) hx hb dX5_links_6 rfl hl (by decide) rfl (fun ls hl => ?_)
  refine lv_iconst (v := 0) hx hb dX5_links_7 (by decide) ?_
  refine lv_istore_n (lv' := [(2, .int (0 : Int32)), (1, .int (0 : Int32)), (0, .ref (K.2.2.2 40))]) hx hb dX5_links_8 rfl hl (by decide) rfl (fun ls hl => ?_)
  obtain ⟨y9_1, h9, h⟩ := mi_b1 h
  refine wX5_links_L9 C hst _ _ _ _ _ h9 (fun ls H locs hl hH => ?_) _ _ _ (lv_sub hl [2, 1, 0] rfl) hH
  refine lv_iload_n hx hb dX5_links_31 rfl (lv_at hl 0 rfl) ?_
  refine lv_iconst (v := 2) hx hb dX5_links_32 (by decide) ?_
  refine lv_idiv hx hb dX5_links_33 (by decide) ?_
  cases h
  subst hQ
  exact fm_iret hx hb hr hlk hst hH dX5_links_34
/-! RX5.degree(I)I -/
abbrev rmX5_degree : Room := { frames := 3, cells := 0, slots := 0, locals := 70 }
def mX5_degree (x1 : Int32) (σ : fm_S) : Option (Int32 × fm_S) :=
  mb1 (mX5_is x1 σ) fun r3 =>
  mb2 (mX5_goes r3 (1 : Int32) σ) fun r7 σ7 =>
  if r7 = 0 then
    some ((0 : Int32), σ7)
  else
    mb1 (mX5_degrees x1 σ7) fun r15 =>
    some (r15, σ7)
set_option maxHeartbeats 4000000 in
set_option maxRecDepth 100000 in
theorem kX5_degree (l : Launch) (K : fm_K) {x1 : Int32} {σ : fm_S} {r : Int32} {σ' : fm_S} (h : mX5_degree x1 σ = some (r, σ')) : fm_CI l yX5_degree wsX5_degree rmX5_degree K [.ref (K.2.2.2 40), .int x1] σ r σ' := by
  intro sz
  refine fm_start (Qc := fun sz => fm_QI K r σ' sz) (cc := cX5_degree) (maxL := 2) (ret := (some .int)) (by decide) rfl (Nat.le_of_ble_eq_true rfl) ?_
  intro p e s m args below meth c C hr hlk hst hH ls hl
  have C : CallFix p m c cX5_degree 2 s args wsX5_degree RX5 := C
  obtain ⟨hx, hb, hml, hown, hts⟩ := id C
  have hA : ∀ q, fm_A K s.heap.size q → fm_A K s.heap.size q := fun _ h => h
  have hl : lv_has ls 2 [(0, .ref (K.2.2.2 40)), (1, .int x1)] := hl
  generalize hQ : MQ below _ args s _ _ _ = Q
  rw [mX5_degree] at h
  refine lv_aload_n hx hb dX5_degree_0 rfl (lv_at hl 0 rfl) ?_
  refine lv_aload_n hx hb dX5_degree_1 rfl (lv_at hl 0 rfl) ?_
  refine lv_iload_n hx hb dX5_degree_2 rfl (lv_at hl 1 rfl) ?_
  obtain ⟨r3, h3, h⟩ := mi_b1 h
  refine fm_ci (va_runV (As := [.int x1]) (rest := [.ref (K.2.2.2 40)]) C (kX5_is l K h3 _) (cwV 1 hts gX5_degree_X5_is rfl rfl rfl (by decide +kernel) ⟨(Nat.le_of_ble_eq_true rfl), (Nat.le_of_ble_eq_true rfl)⟩) ⟨fm_blind, fm_recv hst hH (q := 40) (by decide) rfl (fm_ob_40 _ _) rfl, fm_pre hst hA hH⟩ rfl rfl hl.1 rfl (lv_room (Nat.le_of_ble_eq_true rfl)) dX5_degree_3 ⟨(Nat.le_of_ble_eq_true rfl), (Nat.le_of_ble_eq_true rfl)⟩) hA hH (fun H locs hH => ?_)
  refine lv_iconst (v := 1) hx hb dX5_degree_6 (by decide) ?_
  obtain ⟨r7, σ7, h7, h⟩ := mi_b2 h
  refine fm_ci (va_runV (As := [.int r3, .int (1 : Int32)]) (rest := []) C (kX5_goes l K h7 _) (cwV 2 hts gX5_degree_X5_goes rfl rfl rfl (by decide +kernel) ⟨(Nat.le_of_ble_eq_true rfl), (Nat.le_of_ble_eq_true rfl)⟩) ⟨fm_blind, fm_recv hst hH (q := 40) (by decide) rfl (fm_ob_40 _ _) rfl, fm_pre hst hA hH⟩ rfl rfl hl.1 rfl (lv_room (Nat.le_of_ble_eq_true rfl)) dX5_degree_7 ⟨(Nat.le_of_ble_eq_true rfl), (Nat.le_of_ble_eq_true rfl)⟩) hA hH (fun H locs hH => ?_)
  refine lv_if_eq (tgt := 21) hx hb dX5_degree_10 (by decide) (fun hc => ?_) (fun hc => ?_)
  · replace h := mi_pos hc h
    refine lv_iconst (v := 0) hx hb dX5_degree_21 (by decide) ?_
    cases h
    subst hQ
    exact fm_iret hx hb hr hlk hst hH dX5_degree_22
  · replace h := mi_neg hc h
    refine lv_aload_n hx hb dX5_degree_13 rfl (lv_at hl 0 rfl) ?_
    refine lv_iload_n hx hb dX5_degree_14 rfl (lv_at hl 1 rfl) ?_
    obtain ⟨r15, h15, h⟩ := mi_b1 h
    refine fm_ci (va_runV (As := [.int x1]) (rest := []) C (kX5_degrees l K h15 _) (cwV 1 hts gX5_degree_X5_degrees rfl rfl rfl (by decide +kernel) ⟨(Nat.le_of_ble_eq_true rfl), (Nat.le_of_ble_eq_true rfl)⟩) ⟨fm_blind, fm_recv hst hH (q := 40) (by decide) rfl (fm_ob_40 _ _) rfl, fm_pre hst hA hH⟩ rfl rfl hl.1 rfl (lv_room (Nat.le_of_ble_eq_true rfl)) dX5_degree_15 ⟨(Nat.le_of_ble_eq_true rfl), (Nat.le_of_ble_eq_true rfl)⟩) hA hH (fun H locs hH => ?_)
    refine lv_goto (tgt := 22) hx hb dX5_degree_18 (by decide) ?_
    cases h
    subst hQ
    exact fm_iret hx hb hr hlk hst hH dX5_degree_22
/-! RX5.groups()I -/
abbrev rmX5_groups : Room := { frames := 4, cells := 0, slots := 0, locals := 94 }
def mX5_groups (σ : fm_S) : Option (Int32 × fm_S) :=
  mb1 (mX5_countGroups (fm_wr σ 61 2 (0 : Int32))) fun r6 =>
  some (r6, (fm_wr σ 61 2 (0 : Int32)))
set_option maxHeartbeats 4000000 in
set_option maxRecDepth 100000 in
theorem kX5_groups (l : Launch) (K : fm_K) {σ : fm_S} {r : Int32} {σ' : fm_S} (h : mX5_groups σ = some (r, σ')) : fm_CI l yX5_groups wsX5_groups rmX5_groups K [.ref (K.2.2.2 40)] σ r σ' := by
  intro sz
  refine fm_start (Qc := fun sz => fm_QI K r σ' sz) (cc := cX5_groups) (maxL := 1) (ret := (some .int)) (by decide) rfl (Nat.le_of_ble_eq_true rfl) ?_
  intro p e s m args below meth c C hr hlk hst hH ls hl
  have C : CallFix p m c cX5_groups 1 s args wsX5_groups RX5 := C
  obtain ⟨hx, hb, hml, hown, hts⟩ := id C
  have hA : ∀ q, fm_A K s.heap.size q → fm_A K s.heap.size q := fun _ h => h
  have hl : lv_has ls 1 [(0, .ref (K.2.2.2 40))] := hl
  generalize hQ : MQ below _ args s _ _ _ = Q
  rw [mX5_groups] at h
  refine lv_aload_n hx hb dX5_groups_0 rfl (lv_at hl 0 rfl) ?_
  refine lv_iconst (v := 0) hx hb dX5_groups_1 (by decide) ?_
  refine fm_putf (T := TX5) (N := 17) hx hb hts (fun _ h => List.mem_cons_of_mem _ (List.mem_append_right _ h)) tyX5 tyX5_ok nmX5 hown hst.1 hH 40 61 2 (by decide) rfl (by decide) (fm_ob_40 _ _) rfl 16 (by decide) (List.mem_of_getElem? (i := 1) rfl) rfl rfl rfl rfl (Nat.le_of_ble_eq_true rfl) dX5_groups_2 (fun H locs hH => ?_)
  refine lv_aload_n hx hb dX5_groups_5 rfl (lv_at hl 0 rfl) ?_
  obtain ⟨r6, h6, h⟩ := mi_b1 h
  refine fm_ci (va_runV (As := []) (rest := []) C (kX5_countGroups l K h6 _) (cwV 0 hts gX5_groups_X5_countGroups rfl rfl rfl (by decide +kernel) ⟨(Nat.le_of_ble_eq_true rfl), (Nat.le_of_ble_eq_true rfl)⟩) ⟨fm_blind, fm_recv hst hH (q := 40) (by decide) rfl (fm_ob_40 _ _) rfl, fm_pre hst hA hH⟩ rfl rfl hl.1 rfl (lv_room (Nat.le_of_ble_eq_true rfl)) dX5_groups_6 ⟨(Nat.le_of_ble_eq_true rfl), (Nat.le_of_ble_eq_true rfl)⟩) hA hH (fun H locs hH => ?_)
  cases h
  subst hQ
  exact fm_iret hx hb hr hlk hst hH dX5_groups_9
/-! RX5.leader(I)I -/
abbrev rmX5_leader : Room := { frames := 3, cells := 0, slots := 0, locals := 72 }
def mX5_leader_L51 : Nat → Int32 → Int32 → Int32 → fm_S → Option (Int32)
  | 0, _, _, _, _ => none
  | n + 1, x2, x3, x4, σ =>
    if x4 < 0 then
      some x3
    else
      if ((x2 >>> (x4 &&& 31)) &&& (1 : Int32)) = (1 : Int32) then
        if (x4 < 0 ∨ 8 ≤ x4.toNatClampNeg) then none else
        if (x3 < 0 ∨ 8 ≤ x3.toNatClampNeg) then none else
        if (rI σ 44 x4) < (rI σ 44 x3) then
          mX5_leader_L51 n x2 x3 (x4 + -1) σ
        else
          mX5_leader_L51 n x2 x4 (x4 + -1) σ
      else
        mX5_leader_L51 n x2 x3 (x4 + -1) σ
set_option maxHeartbeats 4000000 in
set_option maxRecDepth 100000 in
theorem wX5_leader_L51 {p : Program} {l : Launch} {e : Env} {s : State} {m : MethodId} {args : Array Value} {below : List Frame} {meth : Method} {c : Code} {Q : State → Prop} {K : fm_K} (C : CallFix p m c cX5_leader 5 s args wsX5_leader RX5) (hst : fm_st K (fm_A K s.heap.size) s s.heap) :
    ∀ (n : Nat) (x2 : Int32) (x3 : Int32) (x4 : Int32) (σ : fm_S) (o3 : Int32), mX5_leader_L51 n x2 x3 x4 σ = some o3 → (∀ (ls : Array Slot) (H : Heap) (locs : List Loc), lv_has ls 5 [(3, .int o3)] → fm_H K σ (fm_A K s.heap.size) s H locs → W p l e rmX5_leader s m args below meth c H locs 0 0 Q (F0 m 95 ls [])) → ∀ (ls : Array Slot) (H : Heap) (locs : List Loc), lv_has ls 5 [(0, .ref (K.2.2.2 40)), (2, .int x2), (3, .int x3), (4, .int x4)] → fm_H K σ (fm_A K s.heap.size) s H locs → W p l e rmX5_leader s m args below meth c H locs 0 0 Q (F0 m 51 ls []) := by
  obtain ⟨hx, hb, hml, hown, hts⟩ := id C
  have hA : ∀ q, fm_A K s.heap.size q → fm_A K s.heap.size q := fun _ h => h
  intro n
  induction n with
  | zero => intro x2 x3 x4 σ o3 h; simp [mX5_leader_L51] at h
  | succ n ih =>
    intro x2 x3 x4 σ o3 h kk ls H locs hl hH
    rw [mX5_leader_L51] at h
    refine lv_iload hx hb dX5_leader_51 (lv_at hl 3 rfl) ?_
    refine lv_if_lt (tgt := 95) hx hb dX5_leader_53 (by decide) (fun hc => ?_) (fun hc => ?_)
    · replace h := mi_pos hc h
      cases h
      exact kk _ _ _ (lv_sub hl [2] rfl) hH
    · replace h := mi_neg hc h
      refine lv_iload_n hx hb dX5_leader_56 rfl (lv_at hl 1 rfl) ?_
      refine lv_iload hx hb dX5_leader_57 (lv_at hl 3 rfl) ?_
      refine lv_ishr hx hb dX5_leader_59 ?_
      refine lv_iconst (v := 1) hx hb dX5_leader_60 (by decide) ?_
      refine lv_iand hx hb dX5_leader_61 ?_
      refine lv_iconst (v := 1) hx hb dX5_leader_62 (by decide) ?_
      refine lv_icmp_ne (tgt := 87) hx hb dX5_leader_63 (by decide) (fun hc => ?_) (fun hc => ?_)
      · replace h := mi_neg hc h
        refine lv_iload_n hx hb dX5_leader_87 rfl (lv_at hl 2 rfl) ?_
        refine lv_istore_n (lv' := [(3, .int x3), (0, .ref (K.2.2.2 40)), (2, .int x2), (4, .int x4)]) hx hb dX5_leader_88 rfl hl (by decide) rfl (fun ls hl => ?_)
        refine lv_iinc (v := (x4 + -1)) (lv' := [(4, .int (x4 + -1)), (3, .int x3), (0, .ref (K.2.2.2 40)), (2, .int x2)]) hx hb dX5_leader_89 hl (k := 3) rfl rfl (by decide) rfl (fun ls hl => ?_)
        refine lv_goto (tgt := 51) hx hb dX5_leader_92 (by decide) ?_
        exact ih _ _ _ _ _ h kk _ _ _ (lv_sub hl [2, 3, 1, 0] rfl) hH
      · replace h := mi_pos hc h
        refine lv_aload_n hx hb dX5_leader_66 rfl (lv_at hl 0 rfl) ?_
        refine fm_getf (T := TX5) (N := 17) hx hb hts (fun _ h => List.mem_cons_of_mem _ (List.mem_append_right _ h)) hown hst.1 hH 40 (by decide) rfl (fm_ob_40 _ _) rfl 3 (by decide) (List.mem_of_getElem? (i := 4) rfl) rfl rfl dX5_leader_67 ?_
        refine lv_iload hx hb dX5_leader_70 (lv_at hl 3 rfl) ?_
        obtain ⟨hi2, h⟩ := mi_chk h
        refine fm_ild hx hb hst.1 hH 44 (by decide) rfl rfl hi2 dX5_leader_72 ?_
        refine lv_aload_n hx hb dX5_leader_73 rfl (lv_at hl 0 rfl) ?_
        refine fm_getf (T := TX5) (N := 17) hx hb hts (fun _ h => List.mem_cons_of_mem _ (List.mem_append_right _ h)) hown hst.1 hH 40 (by decide) rfl (fm_ob_40 _ _) rfl 3 (by decide) (List.mem_of_getElem? (i := 4) rfl) rfl rfl dX5_leader_74 ?_
        refine lv_iload_n hx hb dX5_leader_77 rfl (lv_at hl 2 rfl) ?_
        obtain ⟨hi3, h⟩ := mi_chk h
        refine fm_ild hx hb hst.1 hH 44 (by decide) rfl rfl hi3 dX5_leader_78 ?_
        refine lv_icmp_lt (tgt := 87) hx hb dX5_leader_79 (by decide) (fun hc => ?_) (fun hc => ?_)
        · replace h := mi_pos hc h
          refine lv_iload_n hx hb dX5_leader_87 rfl (lv_at hl 2 rfl) ?_
          refine lv_istore_n (lv' := [(3, .int x3), (0, .ref (K.2.2.2 40)), (2, .int x2), (4, .int x4)]) hx hb dX5_leader_88 rfl hl (by decide) rfl (fun ls hl => ?_)
          refine lv_iinc (v := (x4 + -1)) (lv' := [(4, .int (x4 + -1)), (3, .int x3), (0, .ref (K.2.2.2 40)), (2, .int x2)]) hx hb dX5_leader_89 hl (k := 3) rfl rfl (by decide) rfl (fun ls hl => ?_)
          refine lv_goto (tgt := 51) hx hb dX5_leader_92 (by decide) ?_
          exact ih _ _ _ _ _ h kk _ _ _ (lv_sub hl [2, 3, 1, 0] rfl) hH
        · replace h := mi_neg hc h
          refine lv_iload hx hb dX5_leader_82 (lv_at hl 3 rfl) ?_
          refine lv_goto (tgt := 88) hx hb dX5_leader_84 (by decide) ?_
          refine lv_istore_n (lv' := [(3, .int x4), (0, .ref (K.2.2.2 40)), (2, .int x2), (4, .int x4)]) hx hb dX5_leader_88 rfl hl (by decide) rfl (fun ls hl => ?_)
          refine lv_iinc (v := (x4 + -1)) (lv' := [(4, .int (x4 + -1)), (3, .int x4), (0, .ref (K.2.2.2 40)), (2, .int x2)]) hx hb dX5_leader_89 hl (k := 3) rfl rfl (by decide) rfl (fun ls hl => ?_)
          refine lv_goto (tgt := 51) hx hb dX5_leader_92 (by decide) ?_
          exact ih _ _ _ _ _ h kk _ _ _ (lv_sub hl [2, 3, 1, 0] rfl) hH
def mX5_leader (x1 : Int32) (σ : fm_S) : Option (Int32 × fm_S) :=
  mb1 (mX5_is x1 σ) fun r3 =>
  mb2 (mX5_goes r3 (1 : Int32) σ) fun r7 σ7 =>
  if r7 = 0 then
    if (σ7.1 61 2) ≤ 0 then
      some ((-1 : Int32), σ7)
    else
      some ((0 : Int32), σ7)
  else
    if (x1 < 0 ∨ 8 ≤ x1.toNatClampNeg) then none else
    if (rI σ7 43 x1) = 0 then
      mb1 (mX5_group x1 σ7) fun r37 =>
      mb1 (mX5_leader_L51 fF r37 x1 ((σ7.1 61 0) - (1 : Int32)) σ7) fun y51_3 =>
      some (y51_3, σ7)
    else
      if (σ7.1 61 2) ≤ 0 then
        some ((-1 : Int32), σ7)
      else
        some ((0 : Int32), σ7)
set_option maxHeartbeats 4000000 in
set_option maxRecDepth 100000 in
theorem kX5_leader (l : Launch) (K : fm_K) {x1 : Int32} {σ : fm_S} {r : Int32} {σ' : fm_S} (h : mX5_leader x1 σ = some (r, σ')) : fm_CI l yX5_leader wsX5_leader rmX5_leader K [.ref (K.2.2.2 40), .int x1] σ r σ' := by
  intro sz
  refine fm_start (Qc := fun sz => fm_QI K r σ' sz) (cc := cX5_leader) (maxL := 5) (ret := (some .int)) (by decide) rfl (Nat.le_of_ble_eq_true rfl) ?_
  intro p e s m args below meth c C hr hlk hst hH ls hl
  have C : CallFix p m c cX5_leader 5 s args wsX5_leader RX5 := C
  obtain ⟨hx, hb, hml, hown, hts⟩ := id C
  have hA : ∀ q, fm_A K s.heap.size q → fm_A K s.heap.size q := fun _ h => h
  have hl : lv_has ls 5 [(0, .ref (K.2.2.2 40)), (1, .int x1)] := hl
  generalize hQ : MQ below _ args s _ _ _ = Q
  rw [mX5_leader] at h
  refine lv_aload_n hx hb dX5_leader_0 rfl (lv_at hl 0 rfl) ?_
  refine lv_aload_n hx hb dX5_leader_1 rfl (lv_at hl 0 rfl) ?_
  refine lv_iload_n hx hb dX5_leader_2 rfl (lv_at hl 1 rfl) ?_
  obtain ⟨r3, h3, h⟩ := mi_b1 h
  refine fm_ci (va_runV (As := [.int x1]) (rest := [.ref (K.2.2.2 40)]) C (kX5_is l K h3 _) (cwV 1 hts gX5_leader_X5_is rfl rfl rfl (by decide +kernel) ⟨(Nat.le_of_ble_eq_true rfl), (Nat.le_of_ble_eq_true rfl)⟩) ⟨fm_blind, fm_recv hst hH (q := 40) (by decide) rfl (fm_ob_40 _ _) rfl, fm_pre hst hA hH⟩ rfl rfl hl.1 rfl (lv_room (Nat.le_of_ble_eq_true rfl)) dX5_leader_3 ⟨(Nat.le_of_ble_eq_true rfl), (Nat.le_of_ble_eq_true rfl)⟩) hA hH (fun H locs hH => ?_)
  refine lv_iconst (v := 1) hx hb dX5_leader_6 (by decide) ?_
  obtain ⟨r7, σ7, h7, h⟩ := mi_b2 h
  refine fm_ci (va_runV (As := [.int r3, .int (1 : Int32)]) (rest := []) C (kX5_goes l K h7 _) (cwV 2 hts gX5_leader_X5_goes rfl rfl rfl (by decide +kernel) ⟨(Nat.le_of_ble_eq_true rfl), (Nat.le_of_ble_eq_true rfl)⟩) ⟨fm_blind, fm_recv hst hH (q := 40) (by decide) rfl (fm_ob_40 _ _) rfl, fm_pre hst hA hH⟩ rfl rfl hl.1 rfl (lv_room (Nat.le_of_ble_eq_true rfl)) dX5_leader_7 ⟨(Nat.le_of_ble_eq_true rfl), (Nat.le_of_ble_eq_true rfl)⟩) hA hH (fun H locs hH => ?_)
  refine lv_if_eq (tgt := 22) hx hb dX5_leader_10 (by decide) (fun hc => ?_) (fun hc => ?_)
  · replace h := mi_pos hc h
    refine lv_aload_n hx hb dX5_leader_22 rfl (lv_at hl 0 rfl) ?_
    refine fm_getf (T := TX5) (N := 17) hx hb hts (fun _ h => List.mem_cons_of_mem _ (List.mem_append_right _ h)) hown hst.1 hH 40 (by decide) rfl (fm_ob_40 _ _) rfl 16 (by decide) (List.mem_of_getElem? (i := 2) rfl) rfl rfl dX5_leader_23 ?_
    refine lv_if_le (tgt := 33) hx hb dX5_leader_26 (by decide) (fun hc => ?_) (fun hc => ?_)
    · replace h := mi_pos hc h
      refine lv_iconst (v := -1) hx hb dX5_leader_33 (by decide) ?_
      cases h
      subst hQ
      exact fm_iret hx hb hr hlk hst hH dX5_leader_34
    · replace h := mi_neg hc h
      refine lv_iconst (v := 0) hx hb dX5_leader_29 (by decide) ?_
      refine lv_goto (tgt := 34) hx hb dX5_leader_30 (by decide) ?_
      cases h
      subst hQ
      exact fm_iret hx hb hr hlk hst hH dX5_leader_34
  · replace h := mi_neg hc h
    refine lv_aload_n hx hb dX5_leader_13 rfl (lv_at hl 0 rfl) ?_
    refine fm_getf (T := TX5) (N := 17) hx hb hts (fun _ h => List.mem_cons_of_mem _ (List.mem_append_right _ h)) hown hst.1 hH 40 (by decide) rfl (fm_ob_40 _ _) rfl 2 (by decide) (List.mem_of_getElem? (i := 1) rfl) rfl rfl dX5_leader_14 ?_
    refine lv_iload_n hx hb dX5_leader_17 rfl (lv_at hl 1 rfl) ?_
    obtain ⟨hi1, h⟩ := mi_chk h
    refine fm_zld hx hb hst.1 hH 43 (by decide) rfl rfl hi1 dX5_leader_18 ?_
    refine lv_if_eq (tgt := 35) hx hb dX5_leader_19 (by decide) (fun hc => ?_) (fun hc => ?_)
    · replace h := mi_pos hc h
      refine lv_aload_n hx hb dX5_leader_35 rfl (lv_at hl 0 rfl) ?_
      refine lv_iload_n hx hb dX5_leader_36 rfl (lv_at hl 1 rfl) ?_
      obtain ⟨r37, h37, h⟩ := mi_b1 h
      refine fm_ci (va_runV (As := [.int x1]) (rest := []) C (kX5_group l K h37 _) (cwV 1 hts gX5_leader_X5_group rfl rfl rfl (by decide +kernel) ⟨(Nat.le_of_ble_eq_true rfl), (Nat.le_of_ble_eq_true rfl)⟩) ⟨fm_blind, fm_recv hst hH (q := 40) (by decide) rfl (fm_ob_40 _ _) rfl, fm_pre hst hA hH⟩ rfl rfl hl.1 rfl (lv_room (Nat.le_of_ble_eq_true rfl)) dX5_leader_37 ⟨(Nat.le_of_ble_eq_true rfl), (Nat.le_of_ble_eq_true rfl)⟩) hA hH (fun H locs hH => ?_)
      refine lv_istore_n (lv' := [(2, .int r37), (0, .ref (K.2.2.2 40)), (1, .int x1)]) hx hb dX5_leader_40 rfl hl (by decide) rfl (fun ls hl => ?_)
      refine lv_iload_n hx hb dX5_leader_41 rfl (lv_at hl 2 rfl) ?_
      refine lv_istore_n (lv' := [(3, .int x1), (2, .int r37), (0, .ref (K.2.2.2 40)), (1, .int x1)]) hx hb dX5_leader_42 rfl hl (by decide) rfl (fun ls hl => ?_)
      refine lv_aload_n hx hb dX5_leader_43 rfl (lv_at hl 2 rfl) ?_
      refine fm_getf (T := TX5) (N := 17) hx hb hts (fun _ h => List.mem_cons_of_mem _ (List.mem_append_right _ h)) hown hst.1 hH 40 (by decide) rfl (fm_ob_40 _ _) rfl 10 (by decide) (List.mem_of_getElem? (i := 3) rfl) rfl rfl dX5_leader_44 ?_
      refine lv_iconst (v := 1) hx hb dX5_leader_47 (by decide) ?_
      refine lv_isub hx hb dX5_leader_48 ?_
      refine lv_istore (lv' := [(4, .int ((σ7.1 61 0) - (1 : Int32))), (3, .int x1), (2, .int r37), (0, .ref (K.2.2.2 40)), (1, .int x1)]) hx hb dX5_leader_49 hl (by decide) rfl (fun ls hl => ?_)
      obtain ⟨y51_3, h51, h⟩ := mi_b1 h
      refine wX5_leader_L51 C hst _ _ _ _ _ _ h51 (fun ls H locs hl hH => ?_) _ _ _ (lv_sub hl [3, 2, 1, 0] rfl) hH
      refine lv_iload_n hx hb dX5_leader_95 rfl (lv_at hl 0 rfl) ?_
      cases h
      subst hQ
      exact fm_iret hx hb hr hlk hst hH dX5_leader_96
    · replace h := mi_neg hc h
      refine lv_aload_n hx hb dX5_leader_22 rfl (lv_at hl 0 rfl) ?_
      refine fm_getf (T := TX5) (N := 17) hx hb hts (fun _ h => List.mem_cons_of_mem _ (List.mem_append_right _ h)) hown hst.1 hH 40 (by decide) rfl (fm_ob_40 _ _) rfl 16 (by decide) (List.mem_of_getElem? (i := 2) rfl) rfl rfl dX5_leader_23 ?_
      refine lv_if_le (tgt := 33) hx hb dX5_leader_26 (by decide) (fun hc => ?_) (fun hc => ?_)
      · replace h := mi_pos hc h
        refine lv_iconst (v := -1) hx hb dX5_leader_33 (by decide) ?_
        cases h
        subst hQ
        exact fm_iret hx hb hr hlk hst hH dX5_leader_34
      · replace h := mi_neg hc h
        refine lv_iconst (v := 0) hx hb dX5_leader_29 (by decide) ?_
        refine lv_goto (tgt := 34) hx hb dX5_leader_30 (by decide) ?_
        cases h
        subst hQ
        exact fm_iret hx hb hr hlk hst hH dX5_leader_34
/-! RX5.minor(I)J -/
abbrev rmX5_minor : Room := { frames := 3, cells := 0, slots := 0, locals := 70 }
def mX5_minor_L2 : Nat → Int32 → Int32 → fm_S → Option (fm_S)
  | 0, _, _, _ => none
  | n + 1, x1, x2, σ =>
    if (x1 * x1) ≤ x2 then
      some σ
    else
      if x1 = 0 then none else
      if ((x2 / x1) < 0 ∨ 8 ≤ (x2 / x1).toNatClampNeg) then none else
      if ((x2 - x2 / x1 * x1) < 0 ∨ 8 ≤ (x2 - x2 / x1 * x1).toNatClampNeg) then none else
      if (rI σ 52 (x2 / x1)) = (rI σ 52 (x2 - x2 / x1 * x1)) then
        mb1 (mX5_degrees (rI σ 52 (x2 / x1)) σ) fun r41 =>
        if (x2 < 0 ∨ 64 ≤ x2.toNatClampNeg) then none else
        mX5_minor_L2 n x1 (x2 + 1) (sL σ 54 x2 (r41.toInt64))
      else
        mb1 (mX5_linked (rI σ 52 (x2 / x1)) (rI σ 52 (x2 - x2 / x1 * x1)) σ) fun r52 =>
        if r52 = 0 then
          if (x2 < 0 ∨ 64 ≤ x2.toNatClampNeg) then none else
          mX5_minor_L2 n x1 (x2 + 1) (sL σ 54 x2 (0 : Int64))
        else
          if (x2 < 0 ∨ 64 ≤ x2.toNatClampNeg) then none else
          mX5_minor_L2 n x1 (x2 + 1) (sL σ 54 x2 (-1 : Int64))
set_option maxHeartbeats 4000000 in
set_option maxRecDepth 100000 in
theorem wX5_minor_L2 {p : Program} {l : Launch} {e : Env} {s : State} {m : MethodId} {args : Array Value} {below : List Frame} {meth : Method} {c : Code} {Q : State → Prop} {K : fm_K} (C : CallFix p m c cX5_minor 7 s args wsX5_minor RX5) (hst : fm_st K (fm_A K s.heap.size) s s.heap) :
    ∀ (n : Nat) (x1 : Int32) (x2 : Int32) (σ : fm_S) (σo : fm_S), mX5_minor_L2 n x1 x2 σ = some σo → (∀ (ls : Array Slot) (H : Heap) (locs : List Loc), lv_has ls 7 [(0, .ref (K.2.2.2 40)), (1, .int x1)] → fm_H K σo (fm_A K s.heap.size) s H locs → W p l e rmX5_minor s m args below meth c H locs 0 0 Q (F0 m 72 ls [])) → ∀ (ls : Array Slot) (H : Heap) (locs : List Loc), lv_has ls 7 [(0, .ref (K.2.2.2 40)), (1, .int x1), (2, .int x2)] → fm_H K σ (fm_A K s.heap.size) s H locs → W p l e rmX5_minor s m args below meth c H locs 0 0 Q (F0 m 2 ls []) := by
  obtain ⟨hx, hb, hml, hown, hts⟩ := id C
  have hA : ∀ q, fm_A K s.heap.size q → fm_A K s.heap.size q := fun _ h => h
  intro n
  induction n with
  | zero => intro x1 x2 σ σo h; simp [mX5_minor_L2] at h
  | succ n ih =>
    intro x1 x2 σ σo h kk ls H locs hl hH
    rw [mX5_minor_L2] at h
    refine lv_iload_n hx hb dX5_minor_2 rfl (lv_at hl 2 rfl) ?_
    refine lv_iload_n hx hb dX5_minor_3 rfl (lv_at hl 1 rfl) ?_
    refine lv_iload_n hx hb dX5_minor_4 rfl (lv_at hl 1 rfl) ?_
    refine lv_imul hx hb dX5_minor_5 ?_
    refine lv_icmp_ge (tgt := 72) hx hb dX5_minor_6 (by decide) (fun hc => ?_) (fun hc => ?_)
    · replace h := mi_pos hc h
      cases h
      exact kk _ _ _ (lv_sub hl [0, 1] rfl) hH
    · replace h := mi_neg hc h
      refine lv_aload_n hx hb dX5_minor_9 rfl (lv_at hl 0 rfl) ?_
      refine fm_getf (T := TX5) (N := 17) hx hb hts (fun _ h => List.mem_cons_of_mem _ (List.mem_append_right _ h)) hown hst.1 hH 40 (by decide) rfl (fm_ob_40 _ _) rfl 13 (by decide) (List.mem_of_getElem? (i := 1) rfl) rfl rfl dX5_minor_10 ?_
      refine lv_iload_n hx hb dX5_minor_13 rfl (lv_at hl 2 rfl) ?_
      refine lv_iload_n hx hb dX5_minor_14 rfl (lv_at hl 1 rfl) ?_
      obtain ⟨hz1, h⟩ := mi_chk h
      refine lv_idiv hx hb dX5_minor_15 hz1 ?_
      obtain ⟨hi2, h⟩ := mi_chk h
      refine fm_ild hx hb hst.1 hH 52 (by decide) rfl rfl hi2 dX5_minor_16 ?_
      refine lv_istore_n (lv' := [(3, .int (rI σ 52 (x2 / x1))), (0, .ref (K.2.2.2 40)), (1, .int x1), (2, .int x2)]) hx hb dX5_minor_17 rfl hl (by decide) rfl (fun ls hl => ?_)
      refine lv_aload_n hx hb dX5_minor_18 rfl (lv_at hl 1 rfl) ?_
      refine fm_getf (T := TX5) (N := 17) hx hb hts (fun _ h => List.mem_cons_of_mem _ (List.mem_append_right _ h)) hown hst.1 hH 40 (by decide) rfl (fm_ob_40 _ _) rfl 13 (by decide) (List.mem_of_getElem? (i := 1) rfl) rfl rfl dX5_minor_19 ?_
      refine lv_iload_n hx hb dX5_minor_22 rfl (lv_at hl 3 rfl) ?_
      refine lv_iload_n hx hb dX5_minor_23 rfl (lv_at hl 2 rfl) ?_
      refine lv_irem hx hb dX5_minor_24 hz1 ?_
      obtain ⟨hi3, h⟩ := mi_chk h
      refine fm_ild hx hb hst.1 hH 52 (by decide) rfl rfl hi3 dX5_minor_25 ?_
      refine lv_istore (lv' := [(4, .int (rI σ 52 (x2 - x2 / x1 * x1))), (3, .int (rI σ 52 (x2 / x1))), (0, .ref (K.2.2.2 40)), (1, .int x1), (2, .int x2)]) hx hb dX5_minor_26 hl (by decide) rfl (fun ls hl => ?_)
      refine lv_aload_n hx hb dX5_minor_28 rfl (lv_at hl 2 rfl) ?_
      refine fm_getf (T := TX5) (N := 17) hx hb hts (fun _ h => List.mem_cons_of_mem _ (List.mem_append_right _ h)) hown hst.1 hH 40 (by decide) rfl (fm_ob_40 _ _) rfl 15 (by decide) (List.mem_of_getElem? (i := 2) rfl) rfl rfl dX5_minor_29 ?_
      refine lv_iload_n hx hb dX5_minor_32 rfl (lv_at hl 4 rfl) ?_
      refine lv_iload_n hx hb dX5_minor_33 rfl (lv_at hl 1 rfl) ?_
      refine lv_iload hx hb dX5_minor_34 (lv_at hl 0 rfl) ?_
      refine lv_icmp_ne (tgt := 48) hx hb dX5_minor_36 (by decide) (fun hc => ?_) (fun hc => ?_)
      · replace h := mi_neg hc h
        refine lv_aload_n hx hb dX5_minor_48 rfl (lv_at hl 2 rfl) ?_
        refine lv_iload_n hx hb dX5_minor_49 rfl (lv_at hl 1 rfl) ?_
        refine lv_iload hx hb dX5_minor_50 (lv_at hl 0 rfl) ?_
        obtain ⟨r52, h52, h⟩ := mi_b1 h
        refine fm_ci (va_runV (As := [.int (rI σ 52 (x2 / x1)), .int (rI σ 52 (x2 - x2 / x1 * x1))]) (rest := [.int x2, .ref (K.2.2.2 54)]) C (kX5_linked l K h52 _) (cwV 2 hts gX5_minor_X5_linked rfl rfl rfl (by decide +kernel) ⟨(Nat.le_of_ble_eq_true rfl), (Nat.le_of_ble_eq_true rfl)⟩) ⟨fm_blind, fm_recv hst hH (q := 40) (by decide) rfl (fm_ob_40 _ _) rfl, fm_pre hst hA hH⟩ rfl rfl hl.1 rfl (lv_room (Nat.le_of_ble_eq_true rfl)) dX5_minor_52 ⟨(Nat.le_of_ble_eq_true rfl), (Nat.le_of_ble_eq_true rfl)⟩) hA hH (fun H locs hH => ?_)
        refine lv_if_eq (tgt := 64) hx hb dX5_minor_55 (by decide) (fun hc => ?_) (fun hc => ?_)
        · replace h := mi_pos hc h
          refine lv_lconst (v := 0) hx hb dX5_minor_64 (by decide) ?_
          obtain ⟨hi4, h⟩ := mi_chk h
          refine fm_lst hx hb hst.1 hH 54 (by decide) rfl rfl hi4 dX5_minor_65 (fun H locs hH => ?_)
          refine lv_iinc (v := (x2 + 1)) (lv' := [(2, .int (x2 + 1)), (4, .int (rI σ 52 (x2 - x2 / x1 * x1))), (3, .int (rI σ 52 (x2 / x1))), (0, .ref (K.2.2.2 40)), (1, .int x1)]) hx hb dX5_minor_66 hl (k := 4) rfl rfl (by decide) rfl (fun ls hl => ?_)
          refine lv_goto (tgt := 2) hx hb dX5_minor_69 (by decide) ?_
          exact ih _ _ _ _ h kk _ _ _ (lv_sub hl [3, 4, 0] rfl) hH
        · replace h := mi_neg hc h
          refine lv_ldc2 (v := -1) hx hb hown (hts (.constantLong RX5 102 (-1)) (List.mem_of_getElem? (i := 3) rfl)) dX5_minor_58 ?_
          refine lv_goto (tgt := 65) hx hb dX5_minor_61 (by decide) ?_
          obtain ⟨hi5, h⟩ := mi_chk h
          refine fm_lst hx hb hst.1 hH 54 (by decide) rfl rfl hi5 dX5_minor_65 (fun H locs hH => ?_)
          refine lv_iinc (v := (x2 + 1)) (lv' := [(2, .int (x2 + 1)), (4, .int (rI σ 52 (x2 - x2 / x1 * x1))), (3, .int (rI σ 52 (x2 / x1))), (0, .ref (K.2.2.2 40)), (1, .int x1)]) hx hb dX5_minor_66 hl (k := 4) rfl rfl (by decide) rfl (fun ls hl => ?_)
          refine lv_goto (tgt := 2) hx hb dX5_minor_69 (by decide) ?_
          exact ih _ _ _ _ h kk _ _ _ (lv_sub hl [3, 4, 0] rfl) hH
      · replace h := mi_pos hc h
        refine lv_aload_n hx hb dX5_minor_39 rfl (lv_at hl 2 rfl) ?_
        refine lv_iload_n hx hb dX5_minor_40 rfl (lv_at hl 1 rfl) ?_
        obtain ⟨r41, h41, h⟩ := mi_b1 h
        refine fm_ci (va_runV (As := [.int (rI σ 52 (x2 / x1))]) (rest := [.int x2, .ref (K.2.2.2 54)]) C (kX5_degrees l K h41 _) (cwV 1 hts gX5_minor_X5_degrees rfl rfl rfl (by decide +kernel) ⟨(Nat.le_of_ble_eq_true rfl), (Nat.le_of_ble_eq_true rfl)⟩) ⟨fm_blind, fm_recv hst hH (q := 40) (by decide) rfl (fm_ob_40 _ _) rfl, fm_pre hst hA hH⟩ rfl rfl hl.1 rfl (lv_room (Nat.le_of_ble_eq_true rfl)) dX5_minor_41 ⟨(Nat.le_of_ble_eq_true rfl), (Nat.le_of_ble_eq_true rfl)⟩) hA hH (fun H locs hH => ?_)
        refine lv_i2l (v := r41.toInt64) hx hb dX5_minor_44 rfl ?_
        refine lv_goto (tgt := 65) hx hb dX5_minor_45 (by decide) ?_
        obtain ⟨hi6, h⟩ := mi_chk h
        refine fm_lst hx hb hst.1 hH 54 (by decide) rfl rfl hi6 dX5_minor_65 (fun H locs hH => ?_)
        refine lv_iinc (v := (x2 + 1)) (lv' := [(2, .int (x2 + 1)), (4, .int (rI σ 52 (x2 - x2 / x1 * x1))), (3, .int (rI σ 52 (x2 / x1))), (0, .ref (K.2.2.2 40)), (1, .int x1)]) hx hb dX5_minor_66 hl (k := 4) rfl rfl (by decide) rfl (fun ls hl => ?_)
        refine lv_goto (tgt := 2) hx hb dX5_minor_69 (by decide) ?_
        exact ih _ _ _ _ h kk _ _ _ (lv_sub hl [3, 4, 0] rfl) hH
def mX5_minor_L103 : Nat → Int32 → Int64 → Int32 → Int32 → Int32 → fm_S → Option (fm_S)
  | 0, _, _, _, _, _, _ => none
  | n + 1, x1, x2, x4, x5, x6, σ =>
    if x1 ≤ x6 then
      some σ
    else
      if (((x1 * x5) + x6) < 0 ∨ 64 ≤ ((x1 * x5) + x6).toNatClampNeg) then none else
      if (((x1 * x4) + x4) < 0 ∨ 64 ≤ ((x1 * x4) + x4).toNatClampNeg) then none else
      if (((x1 * x5) + x4) < 0 ∨ 64 ≤ ((x1 * x5) + x4).toNatClampNeg) then none else
      if (((x1 * x4) + x6) < 0 ∨ 64 ≤ ((x1 * x4) + x6).toNatClampNeg) then none else
      if x2 = 0 then none else
      mX5_minor_L103 n x1 x2 x4 x5 (x6 + 1) (sL σ 54 ((x1 * x5) + x6) ((((rL σ 54 ((x1 * x5) + x6)) * (rL σ 54 ((x1 * x4) + x4))) - ((rL σ 54 ((x1 * x5) + x4)) * (rL σ 54 ((x1 * x4) + x6)))) / x2))
set_option maxHeartbeats 4000000 in
set_option maxRecDepth 100000 in
theorem wX5_minor_L103 {p : Program} {l : Launch} {e : Env} {s : State} {m : MethodId} {args : Array Value} {below : List Frame} {meth : Method} {c : Code} {Q : State → Prop} {K : fm_K} (C : CallFix p m c cX5_minor 7 s args wsX5_minor RX5) (hst : fm_st K (fm_A K s.heap.size) s s.heap) :
    ∀ (n : Nat) (x1 : Int32) (x2 : Int64) (x4 : Int32) (x5 : Int32) (x6 : Int32) (σ : fm_S) (σo : fm_S), mX5_minor_L103 n x1 x2 x4 x5 x6 σ = some σo → (∀ (ls : Array Slot) (H : Heap) (locs : List Loc), lv_has ls 7 [(0, .ref (K.2.2.2 40)), (1, .int x1), (2, .long x2), (4, .int x4), (5, .int x5)] → fm_H K σo (fm_A K s.heap.size) s H locs → W p l e rmX5_minor s m args below meth c H locs 0 0 Q (F0 m 180 ls [])) → ∀ (ls : Array Slot) (H : Heap) (locs : List Loc), lv_has ls 7 [(0, .ref (K.2.2.2 40)), (1, .int x1), (2, .long x2), (4, .int x4), (5, .int x5), (6, .int x6)] → fm_H K σ (fm_A K s.heap.size) s H locs → W p l e rmX5_minor s m args below meth c H locs 0 0 Q (F0 m 103 ls []) := by
  obtain ⟨hx, hb, hml, hown, hts⟩ := id C
  have hA : ∀ q, fm_A K s.heap.size q → fm_A K s.heap.size q := fun _ h => h
  intro n
  induction n with
  | zero => intro x1 x2 x4 x5 x6 σ σo h; simp [mX5_minor_L103] at h
  | succ n ih =>
    intro x1 x2 x4 x5 x6 σ σo h kk ls H locs hl hH
    rw [mX5_minor_L103] at h
    refine lv_iload hx hb dX5_minor_103 (lv_at hl 5 rfl) ?_
    refine lv_iload_n hx hb dX5_minor_105 rfl (lv_at hl 1 rfl) ?_
    refine lv_icmp_ge (tgt := 180) hx hb dX5_minor_106 (by decide) (fun hc => ?_) (fun hc => ?_)
    · replace h := mi_pos hc h
      cases h
      exact kk _ _ _ (lv_sub hl [0, 1, 2, 3, 4] rfl) hH
    · replace h := mi_neg hc h
      refine lv_aload_n hx hb dX5_minor_109 rfl (lv_at hl 0 rfl) ?_
      refine fm_getf (T := TX5) (N := 17) hx hb hts (fun _ h => List.mem_cons_of_mem _ (List.mem_append_right _ h)) hown hst.1 hH 40 (by decide) rfl (fm_ob_40 _ _) rfl 15 (by decide) (List.mem_of_getElem? (i := 2) rfl) rfl rfl dX5_minor_110 ?_
      refine lv_iload_n hx hb dX5_minor_113 rfl (lv_at hl 1 rfl) ?_
      refine lv_iload hx hb dX5_minor_114 (lv_at hl 4 rfl) ?_
      refine lv_imul hx hb dX5_minor_116 ?_
      refine lv_iload hx hb dX5_minor_117 (lv_at hl 5 rfl) ?_
      refine lv_iadd hx hb dX5_minor_119 ?_
      refine lv_aload_n hx hb dX5_minor_120 rfl (lv_at hl 0 rfl) ?_
      refine fm_getf (T := TX5) (N := 17) hx hb hts (fun _ h => List.mem_cons_of_mem _ (List.mem_append_right _ h)) hown hst.1 hH 40 (by decide) rfl (fm_ob_40 _ _) rfl 15 (by decide) (List.mem_of_getElem? (i := 2) rfl) rfl rfl dX5_minor_121 ?_
      refine lv_iload_n hx hb dX5_minor_124 rfl (lv_at hl 1 rfl) ?_
      refine lv_iload hx hb dX5_minor_125 (lv_at hl 4 rfl) ?_
      refine lv_imul hx hb dX5_minor_127 ?_
      refine lv_iload hx hb dX5_minor_128 (lv_at hl 5 rfl) ?_
      refine lv_iadd hx hb dX5_minor_130 ?_
      obtain ⟨hi7, h⟩ := mi_chk h
      refine fm_lld hx hb hst.1 hH 54 (by decide) rfl rfl hi7 dX5_minor_131 ?_
      refine lv_aload_n hx hb dX5_minor_132 rfl (lv_at hl 0 rfl) ?_
      refine fm_getf (T := TX5) (N := 17) hx hb hts (fun _ h => List.mem_cons_of_mem _ (List.mem_append_right _ h)) hown hst.1 hH 40 (by decide) rfl (fm_ob_40 _ _) rfl 15 (by decide) (List.mem_of_getElem? (i := 2) rfl) rfl rfl dX5_minor_133 ?_
      refine lv_iload_n hx hb dX5_minor_136 rfl (lv_at hl 1 rfl) ?_
      refine lv_iload hx hb dX5_minor_137 (lv_at hl 3 rfl) ?_
      refine lv_imul hx hb dX5_minor_139 ?_
      refine lv_iload hx hb dX5_minor_140 (lv_at hl 3 rfl) ?_
      refine lv_iadd hx hb dX5_minor_142 ?_
      obtain ⟨hi8, h⟩ := mi_chk h
      refine fm_lld hx hb hst.1 hH 54 (by decide) rfl rfl hi8 dX5_minor_143 ?_
      refine lv_lmul hx hb dX5_minor_144 ?_
      refine lv_aload_n hx hb dX5_minor_145 rfl (lv_at hl 0 rfl) ?_
      refine fm_getf (T := TX5) (N := 17) hx hb hts (fun _ h => List.mem_cons_of_mem _ (List.mem_append_right _ h)) hown hst.1 hH 40 (by decide) rfl (fm_ob_40 _ _) rfl 15 (by decide) (List.mem_of_getElem? (i := 2) rfl) rfl rfl dX5_minor_146 ?_
      refine lv_iload_n hx hb dX5_minor_149 rfl (lv_at hl 1 rfl) ?_
      refine lv_iload hx hb dX5_minor_150 (lv_at hl 4 rfl) ?_
      refine lv_imul hx hb dX5_minor_152 ?_
      refine lv_iload hx hb dX5_minor_153 (lv_at hl 3 rfl) ?_
      refine lv_iadd hx hb dX5_minor_155 ?_
      obtain ⟨hi9, h⟩ := mi_chk h
      refine fm_lld hx hb hst.1 hH 54 (by decide) rfl rfl hi9 dX5_minor_156 ?_
      refine lv_aload_n hx hb dX5_minor_157 rfl (lv_at hl 0 rfl) ?_
      refine fm_getf (T := TX5) (N := 17) hx hb hts (fun _ h => List.mem_cons_of_mem _ (List.mem_append_right _ h)) hown hst.1 hH 40 (by decide) rfl (fm_ob_40 _ _) rfl 15 (by decide) (List.mem_of_getElem? (i := 2) rfl) rfl rfl dX5_minor_158 ?_
      refine lv_iload_n hx hb dX5_minor_161 rfl (lv_at hl 1 rfl) ?_
      refine lv_iload hx hb dX5_minor_162 (lv_at hl 3 rfl) ?_
      refine lv_imul hx hb dX5_minor_164 ?_
      refine lv_iload hx hb dX5_minor_165 (lv_at hl 5 rfl) ?_
      refine lv_iadd hx hb dX5_minor_167 ?_
      obtain ⟨hi10, h⟩ := mi_chk h
      refine fm_lld hx hb hst.1 hH 54 (by decide) rfl rfl hi10 dX5_minor_168 ?_
      refine lv_lmul hx hb dX5_minor_169 ?_
      refine lv_lsub hx hb dX5_minor_170 ?_
      refine lv_lload_n hx hb dX5_minor_171 rfl (lv_at hl 2 rfl) ?_
      obtain ⟨hz11, h⟩ := mi_chk h
      refine lv_ldiv hx hb dX5_minor_172 hz11 ?_
      refine fm_lst hx hb hst.1 hH 54 (by decide) rfl rfl hi7 dX5_minor_173 (fun H locs hH => ?_)
      refine lv_iinc (v := (x6 + 1)) (lv' := [(6, .int (x6 + 1)), (0, .ref (K.2.2.2 40)), (1, .int x1), (2, .long x2), (4, .int x4), (5, .int x5)]) hx hb dX5_minor_174 hl (k := 5) rfl rfl (by decide) rfl (fun ls hl => ?_)
      refine lv_goto (tgt := 103) hx hb dX5_minor_177 (by decide) ?_
      exact ih _ _ _ _ _ _ _ h kk _ _ _ (lv_sub hl [1, 2, 3, 4, 5, 0] rfl) hH
def mX5_minor_L91 : Nat → Int32 → Int64 → Int32 → Int32 → fm_S → Option (fm_S)
  | 0, _, _, _, _, _ => none
  | n + 1, x1, x2, x4, x5, σ =>
    if x1 ≤ x5 then
      some σ
    else
      mb1 (mX5_minor_L103 fF x1 x2 x4 x5 (x4 + (1 : Int32)) σ) fun σ103 =>
      mX5_minor_L91 n x1 x2 x4 (x5 + 1) σ103
set_option maxHeartbeats 4000000 in
set_option maxRecDepth 100000 in
theorem wX5_minor_L91 {p : Program} {l : Launch} {e : Env} {s : State} {m : MethodId} {args : Array Value} {below : List Frame} {meth : Method} {c : Code} {Q : State → Prop} {K : fm_K} (C : CallFix p m c cX5_minor 7 s args wsX5_minor RX5) (hst : fm_st K (fm_A K s.heap.size) s s.heap) :
    ∀ (n : Nat) (x1 : Int32) (x2 : Int64) (x4 : Int32) (x5 : Int32) (σ : fm_S) (σo : fm_S), mX5_minor_L91 n x1 x2 x4 x5 σ = some σo → (∀ (ls : Array Slot) (H : Heap) (locs : List Loc), lv_has ls 7 [(0, .ref (K.2.2.2 40)), (1, .int x1), (4, .int x4)] → fm_H K σo (fm_A K s.heap.size) s H locs → W p l e rmX5_minor s m args below meth c H locs 0 0 Q (F0 m 186 ls [])) → ∀ (ls : Array Slot) (H : Heap) (locs : List Loc), lv_has ls 7 [(0, .ref (K.2.2.2 40)), (1, .int x1), (2, .long x2), (4, .int x4), (5, .int x5)] → fm_H K σ (fm_A K s.heap.size) s H locs → W p l e rmX5_minor s m args below meth c H locs 0 0 Q (F0 m 91 ls []) := by
  obtain ⟨hx, hb, hml, hown, hts⟩ := id C
  have hA : ∀ q, fm_A K s.heap.size q → fm_A K s.heap.size q := fun _ h => h
  intro n
  induction n with
  | zero => intro x1 x2 x4 x5 σ σo h; simp [mX5_minor_L91] at h
  | succ n ih =>
    intro x1 x2 x4 x5 σ σo h kk ls H locs hl hH
    rw [mX5_minor_L91] at h
    refine lv_iload hx hb dX5_minor_91 (lv_at hl 4 rfl) ?_
    refine lv_iload_n hx hb dX5_minor_93 rfl (lv_at hl 1 rfl) ?_
    refine lv_icmp_ge (tgt := 186) hx hb dX5_minor_94 (by decide) (fun hc => ?_) (fun hc => ?_)
    · replace h := mi_pos hc h
      cases h
      exact kk _ _ _ (lv_sub hl [0, 1, 3] rfl) hH
    · replace h := mi_neg hc h
      refine lv_iload hx hb dX5_minor_97 (lv_at hl 3 rfl) ?_
      refine lv_iconst (v := 1) hx hb dX5_minor_99 (by decide) ?_
      refine lv_iadd hx hb dX5_minor_100 ?_
      refine lv_istore (lv' := [(6, .int (x4 + (1 : Int32))), (0, .ref (K.2.2.2 40)), (1, .int x1), (2, .long x2), (4, .int x4), (5, .int x5)]) hx hb dX5_minor_101 hl (by decide) rfl (fun ls hl => ?_)
      obtain ⟨σ103, h103, h⟩ := mi_b1 h
      refine wX5_minor_L103 C hst _ _ _ _ _ _ _ _ h103 (fun ls H locs hl hH => ?_) _ _ _ (lv_sub hl [1, 2, 3, 4, 5, 0] rfl) hH
      refine lv_iinc (v := (x5 + 1)) (lv' := [(5, .int (x5 + 1)), (0, .ref (K.2.2.2 40)), (1, .int x1), (2, .long x2), (4, .int x4)]) hx hb dX5_minor_180 hl (k := 4) rfl rfl (by decide) rfl (fun ls hl => ?_)
      refine lv_goto (tgt := 91) hx hb dX5_minor_183 (by decide) ?_
      exact ih _ _ _ _ _ _ h kk _ _ _ (lv_sub hl [1, 2, 3, 4, 0] rfl) hH
def mX5_minor_L77 : Nat → Int32 → Int64 → Int32 → fm_S → Option (fm_S)
  | 0, _, _, _, _ => none
  | n + 1, x1, x2, x4, σ =>
    if x1 ≤ (x4 + (1 : Int32)) then
      some σ
    else
      mb1 (mX5_minor_L91 fF x1 x2 x4 (x4 + (1 : Int32)) σ) fun σ91 =>
      if (((x1 * x4) + x4) < 0 ∨ 64 ≤ ((x1 * x4) + x4).toNatClampNeg) then none else
      mX5_minor_L77 n x1 (rL σ91 54 ((x1 * x4) + x4)) (x4 + 1) σ91
set_option maxHeartbeats 4000000 in
set_option maxRecDepth 100000 in
theorem wX5_minor_L77 {p : Program} {l : Launch} {e : Env} {s : State} {m : MethodId} {args : Array Value} {below : List Frame} {meth : Method} {c : Code} {Q : State → Prop} {K : fm_K} (C : CallFix p m c cX5_minor 7 s args wsX5_minor RX5) (hst : fm_st K (fm_A K s.heap.size) s s.heap) :
    ∀ (n : Nat) (x1 : Int32) (x2 : Int64) (x4 : Int32) (σ : fm_S) (σo : fm_S), mX5_minor_L77 n x1 x2 x4 σ = some σo → (∀ (ls : Array Slot) (H : Heap) (locs : List Loc), lv_has ls 7 [(0, .ref (K.2.2.2 40)), (1, .int x1)] → fm_H K σo (fm_A K s.heap.size) s H locs → W p l e rmX5_minor s m args below meth c H locs 0 0 Q (F0 m 205 ls [])) → ∀ (ls : Array Slot) (H : Heap) (locs : List Loc), lv_has ls 7 [(0, .ref (K.2.2.2 40)), (1, .int x1), (2, .long x2), (4, .int x4)] → fm_H K σ (fm_A K s.heap.size) s H locs → W p l e rmX5_minor s m args below meth c H locs 0 0 Q (F0 m 77 ls []) := by
  obtain ⟨hx, hb, hml, hown, hts⟩ := id C
  have hA : ∀ q, fm_A K s.heap.size q → fm_A K s.heap.size q := fun _ h => h
  intro n
  induction n with
  | zero => intro x1 x2 x4 σ σo h; simp [mX5_minor_L77] at h
  | succ n ih =>
    intro x1 x2 x4 σ σo h kk ls H locs hl hH
    rw [mX5_minor_L77] at h
    refine lv_iload hx hb dX5_minor_77 (lv_at hl 3 rfl) ?_
    refine lv_iconst (v := 1) hx hb dX5_minor_79 (by decide) ?_
    refine lv_iadd hx hb dX5_minor_80 ?_
    refine lv_iload_n hx hb dX5_minor_81 rfl (lv_at hl 1 rfl) ?_
    refine lv_icmp_ge (tgt := 205) hx hb dX5_minor_82 (by decide) (fun hc => ?_) (fun hc => ?_)
    · replace h := mi_pos hc h
      cases h
      exact kk _ _ _ (lv_sub hl [0, 1] rfl) hH
    · replace h := mi_neg hc h
      refine lv_iload hx hb dX5_minor_85 (lv_at hl 3 rfl) ?_
      refine lv_iconst (v := 1) hx hb dX5_minor_87 (by decide) ?_
      refine lv_iadd hx hb dX5_minor_88 ?_
      refine lv_istore (lv' := [(5, .int (x4 + (1 : Int32))), (0, .ref (K.2.2.2 40)), (1, .int x1), (2, .long x2), (4, .int x4)]) hx hb dX5_minor_89 hl (by decide) rfl (fun ls hl => ?_)
      obtain ⟨σ91, h91, h⟩ := mi_b1 h
      refine wX5_minor_L91 C hst _ _ _ _ _ _ _ h91 (fun ls H locs hl hH => ?_) _ _ _ (lv_sub hl [1, 2, 3, 4, 0] rfl) hH
      refine lv_aload_n hx hb dX5_minor_186 rfl (lv_at hl 0 rfl) ?_
      refine fm_getf (T := TX5) (N := 17) hx hb hts (fun _ h => List.mem_cons_of_mem _ (List.mem_append_right _ h)) hown hst.1 hH 40 (by decide) rfl (fm_ob_40 _ _) rfl 15 (by decide) (List.mem_of_getElem? (i := 2) rfl) rfl rfl dX5_minor_187 ?_
      refine lv_iload_n hx hb dX5_minor_190 rfl (lv_at hl 1 rfl) ?_
      refine lv_iload hx hb dX5_minor_191 (lv_at hl 2 rfl) ?_
      refine lv_imul hx hb dX5_minor_193 ?_
      refine lv_iload hx hb dX5_minor_194 (lv_at hl 2 rfl) ?_
      refine lv_iadd hx hb dX5_minor_196 ?_
      obtain ⟨hi12, h⟩ := mi_chk h
      refine fm_lld hx hb hst.1 hH 54 (by decide) rfl rfl hi12 dX5_minor_197 ?_
      refine lv_lstore_n (lv' := [(2, .long (rL σ91 54 ((x1 * x4) + x4))), (0, .ref (K.2.2.2 40)), (1, .int x1), (4, .int x4)]) hx hb dX5_minor_198 rfl hl (by decide) rfl (fun ls hl => ?_)
      refine lv_iinc (v := (x4 + 1)) (lv' := [(4, .int (x4 + 1)), (2, .long (rL σ91 54 ((x1 * x4) + x4))), (0, .ref (K.2.2.2 40)), (1, .int x1)]) hx hb dX5_minor_199 hl (k := 3) rfl rfl (by decide) rfl (fun ls hl => ?_)
      refine lv_goto (tgt := 77) hx hb dX5_minor_202 (by decide) ?_
      exact ih _ _ _ _ _ h kk _ _ _ (lv_sub hl [2, 3, 1, 0] rfl) hH
def mX5_minor (x1 : Int32) (σ : fm_S) : Option (Int64 × fm_S) :=
  mb1 (mX5_minor_L2 fF x1 (0 : Int32) σ) fun σ2 =>
  mb1 (mX5_minor_L77 fF x1 (1 : Int64) (0 : Int32) σ2) fun σ77 =>
  if x1 = 0 then
    some ((1 : Int64), σ77)
  else
    if (((x1 * x1) - (1 : Int32)) < 0 ∨ 64 ≤ ((x1 * x1) - (1 : Int32)).toNatClampNeg) then none else
    some ((rL σ77 54 ((x1 * x1) - (1 : Int32))), σ77)
set_option maxHeartbeats 4000000 in
set_option maxRecDepth 100000 in
theorem kX5_minor (l : Launch) (K : fm_K) {x1 : Int32} {σ : fm_S} {r : Int64} {σ' : fm_S} (h : mX5_minor x1 σ = some (r, σ')) : fm_CL l yX5_minor wsX5_minor rmX5_minor K [.ref (K.2.2.2 40), .int x1] σ r σ' := by
  intro sz
  refine fm_start (Qc := fun sz => fm_QL K r σ' sz) (cc := cX5_minor) (maxL := 7) (ret := (some .long)) (by decide) rfl (Nat.le_of_ble_eq_true rfl) ?_
  intro p e s m args below meth c C hr hlk hst hH ls hl
  have C : CallFix p m c cX5_minor 7 s args wsX5_minor RX5 := C
  obtain ⟨hx, hb, hml, hown, hts⟩ := id C
  have hA : ∀ q, fm_A K s.heap.size q → fm_A K s.heap.size q := fun _ h => h
  have hl : lv_has ls 7 [(0, .ref (K.2.2.2 40)), (1, .int x1)] := hl
  generalize hQ : MQ below _ args s _ _ _ = Q
  rw [mX5_minor] at h
  refine lv_iconst (v := 0) hx hb dX5_minor_0 (by decide) ?_
  refine lv_istore_n (lv' := [(2, .int (0 : Int32)), (0, .ref (K.2.2.2 40)), (1, .int x1)]) hx hb dX5_minor_1 rfl hl (by decide) rfl (fun ls hl => ?_)
  obtain ⟨σ2, h2, h⟩ := mi_b1 h
  refine wX5_minor_L2 C hst _ _ _ _ _ h2 (fun ls H locs hl hH => ?_) _ _ _ (lv_sub hl [1, 2, 0] rfl) hH
  refine lv_lconst (v := 1) hx hb dX5_minor_72 (by decide) ?_
  refine lv_lstore_n (lv' := [(2, .long (1 : Int64)), (0, .ref (K.2.2.2 40)), (1, .int x1)]) hx hb dX5_minor_73 rfl hl (by decide) rfl (fun ls hl => ?_)
  refine lv_iconst (v := 0) hx hb dX5_minor_74 (by decide) ?_
  refine lv_istore (lv' := [(4, .int (0 : Int32)), (2, .long (1 : Int64)), (0, .ref (K.2.2.2 40)), (1, .int x1)]) hx hb dX5_minor_75 hl (by decide) rfl (fun ls hl => ?_)
  obtain ⟨σ77, h77, h⟩ := mi_b1 h
  refine wX5_minor_L77 C hst _ _ _ _ _ _ h77 (fun ls H locs hl hH => ?_) _ _ _ (lv_sub hl [2, 3, 1, 0] rfl) hH
  refine lv_iload_n hx hb dX5_minor_205 rfl (lv_at hl 1 rfl) ?_
  refine lv_if_ne (tgt := 213) hx hb dX5_minor_206 (by decide) (fun hc => ?_) (fun hc => ?_)
  · replace h := mi_neg hc h
    refine lv_aload_n hx hb dX5_minor_213 rfl (lv_at hl 0 rfl) ?_
    refine fm_getf (T := TX5) (N := 17) hx hb hts (fun _ h => List.mem_cons_of_mem _ (List.mem_append_right _ h)) hown hst.1 hH 40 (by decide) rfl (fm_ob_40 _ _) rfl 15 (by decide) (List.mem_of_getElem? (i := 2) rfl) rfl rfl dX5_minor_214 ?_
    refine lv_iload_n hx hb dX5_minor_217 rfl (lv_at hl 1 rfl) ?_
    refine lv_iload_n hx hb dX5_minor_218 rfl (lv_at hl 1 rfl) ?_
    refine lv_imul hx hb dX5_minor_219 ?_
    refine lv_iconst (v := 1) hx hb dX5_minor_220 (by decide) ?_
    refine lv_isub hx hb dX5_minor_221 ?_
    obtain ⟨hi13, h⟩ := mi_chk h
    refine fm_lld hx hb hst.1 hH 54 (by decide) rfl rfl hi13 dX5_minor_222 ?_
    cases h
    subst hQ
    exact fm_lret hx hb hr hlk hst hH dX5_minor_223
  · replace h := mi_pos hc h
    refine lv_lconst (v := 1) hx hb dX5_minor_209 (by decide) ?_
    refine lv_goto (tgt := 223) hx hb dX5_minor_210 (by decide) ?_
    cases h
    subst hQ
    exact fm_lret hx hb hr hlk hst hH dX5_minor_223
/-! RX5.trees()J -/
abbrev rmX5_trees : Room := { frames := 4, cells := 0, slots := 0, locals := 96 }
def mX5_trees_L19 : Nat → Int32 → Int32 → fm_S → Option (Int32 × fm_S)
  | 0, _, _, _ => none
  | n + 1, x1, x2, σ =>
    if (σ.1 61 0) ≤ x2 then
      some (x1, σ)
    else
      if (x1 < 0 ∨ 8 ≤ x1.toNatClampNeg) then none else
      if (x2 < 0 ∨ 8 ≤ x2.toNatClampNeg) then none else
      mb1 (show Option (Int32) from
        if (rI (sI σ 52 x1 x2) 43 x2) = 0 then
          some ((1 : Int32))
        else
          some ((0 : Int32))) fun v3_0 =>
      mX5_trees_L19 n (x1 + v3_0) (x2 + 1) (sI σ 52 x1 x2)
set_option maxHeartbeats 4000000 in
set_option maxRecDepth 100000 in
theorem wX5_trees_L19 {p : Program} {l : Launch} {e : Env} {s : State} {m : MethodId} {args : Array Value} {below : List Frame} {meth : Method} {c : Code} {Q : State → Prop} {K : fm_K} (C : CallFix p m c cX5_trees 3 s args wsX5_trees RX5) (hst : fm_st K (fm_A K s.heap.size) s s.heap) :
    ∀ (n : Nat) (x1 : Int32) (x2 : Int32) (σ : fm_S) (o1 : Int32) (σo : fm_S), mX5_trees_L19 n x1 x2 σ = some (o1, σo) → (∀ (ls : Array Slot) (H : Heap) (locs : List Loc), lv_has ls 3 [(0, .ref (K.2.2.2 40)), (1, .int o1)] → fm_H K σo (fm_A K s.heap.size) s H locs → W p l e rmX5_trees s m args below meth c H locs 0 0 Q (F0 m 57 ls [])) → ∀ (ls : Array Slot) (H : Heap) (locs : List Loc), lv_has ls 3 [(0, .ref (K.2.2.2 40)), (1, .int x1), (2, .int x2)] → fm_H K σ (fm_A K s.heap.size) s H locs → W p l e rmX5_trees s m args below meth c H locs 0 0 Q (F0 m 19 ls []) := by
  obtain ⟨hx, hb, hml, hown, hts⟩ := id C
  have hA : ∀ q, fm_A K s.heap.size q → fm_A K s.heap.size q := fun _ h => h
  intro n
  induction n with
  | zero => intro x1 x2 σ o1 σo h; simp [mX5_trees_L19] at h
  | succ n ih =>
    intro x1 x2 σ o1 σo h kk ls H locs hl hH
    rw [mX5_trees_L19] at h
    refine lv_iload_n hx hb dX5_trees_19 rfl (lv_at hl 2 rfl) ?_
    refine lv_aload_n hx hb dX5_trees_20 rfl (lv_at hl 0 rfl) ?_
    refine fm_getf (T := TX5) (N := 17) hx hb hts (fun _ h => List.mem_cons_of_mem _ (List.mem_append_right _ h)) hown hst.1 hH 40 (by decide) rfl (fm_ob_40 _ _) rfl 10 (by decide) (List.mem_of_getElem? (i := 2) rfl) rfl rfl dX5_trees_21 ?_
    refine lv_icmp_ge (tgt := 57) hx hb dX5_trees_24 (by decide) (fun hc => ?_) (fun hc => ?_)
    · replace h := mi_pos hc h
      cases h
      exact kk _ _ _ (lv_sub hl [0, 1] rfl) hH
    · replace h := mi_neg hc h
      refine lv_aload_n hx hb dX5_trees_27 rfl (lv_at hl 0 rfl) ?_
      refine fm_getf (T := TX5) (N := 17) hx hb hts (fun _ h => List.mem_cons_of_mem _ (List.mem_append_right _ h)) hown hst.1 hH 40 (by decide) rfl (fm_ob_40 _ _) rfl 13 (by decide) (List.mem_of_getElem? (i := 3) rfl) rfl rfl dX5_trees_28 ?_
      refine lv_iload_n hx hb dX5_trees_31 rfl (lv_at hl 1 rfl) ?_
      refine lv_iload_n hx hb dX5_trees_32 rfl (lv_at hl 2 rfl) ?_
      obtain ⟨hi1, h⟩ := mi_chk h
      refine fm_ist hx hb hst.1 hH 52 (by decide) rfl rfl hi1 dX5_trees_33 (fun H locs hH => ?_)
      refine lv_iload_n hx hb dX5_trees_34 rfl (lv_at hl 1 rfl) ?_
      refine lv_aload_n hx hb dX5_trees_35 rfl (lv_at hl 0 rfl) ?_
      refine fm_getf (T := TX5) (N := 17) hx hb hts (fun _ h => List.mem_cons_of_mem _ (List.mem_append_right _ h)) hown hst.1 hH 40 (by decide) rfl (fm_ob_40 _ _) rfl 2 (by decide) (List.mem_of_getElem? (i := 4) rfl) rfl rfl dX5_trees_36 ?_
      refine lv_iload_n hx hb dX5_trees_39 rfl (lv_at hl 2 rfl) ?_
      obtain ⟨hi2, h⟩ := mi_chk h
      refine fm_zld hx hb hst.1 hH 43 (by decide) rfl rfl hi2 dX5_trees_40 ?_
      obtain ⟨v3_0, hd, h2⟩ := mi_b1 h
      have kj : ∀ (ls : Array Slot) (H : Heap) (locs : List Loc), lv_has ls 3 [(0, .ref (K.2.2.2 40)), (2, .int x2)] → fm_H K (sI σ 52 x1 x2) (fm_A K s.heap.size) s H locs → W p l e rmX5_trees s m args below meth c H locs 0 0 Q (F0 m 49 ls [.int v3_0, .int x1]) := by
        clear h hd
        intro ls H locs hl hH
        have h := h2
        clear h2
        refine lv_iadd hx hb dX5_trees_49 ?_
        refine lv_istore_n (lv' := [(1, .int (x1 + v3_0)), (0, .ref (K.2.2.2 40)), (2, .int x2)]) hx hb dX5_trees_50 rfl hl (by decide) rfl (fun ls hl => ?_)
        refine lv_iinc (v := (x2 + 1)) (lv' := [(2, .int (x2 + 1)), (1, .int (x1 + v3_0)), (0, .ref (K.2.2.2 40))]) hx hb dX5_trees_51 hl (k := 2) rfl rfl (by decide) rfl (fun ls hl => ?_)
        refine lv_goto (tgt := 19) hx hb dX5_trees_54 (by decide) ?_
        exact ih _ _ _ _ _ h kk _ _ _ (lv_sub hl [2, 1, 0] rfl) hH
      replace h := hd
      clear h2 hd
      refine lv_if_eq (tgt := 48) hx hb dX5_trees_41 (by decide) (fun hc => ?_) (fun hc => ?_)
      · replace h := mi_pos hc h
        refine lv_iconst (v := 1) hx hb dX5_trees_48 (by decide) ?_
        cases h
        exact kj _ _ _ (lv_sub hl [0, 2] rfl) hH
      · replace h := mi_neg hc h
        refine lv_iconst (v := 0) hx hb dX5_trees_44 (by decide) ?_
        refine lv_goto (tgt := 49) hx hb dX5_trees_45 (by decide) ?_
        cases h
        exact kj _ _ _ (lv_sub hl [0, 2] rfl) hH
def mX5_trees (σ : fm_S) : Option (Int64 × fm_S) :=
  mb1 (mX5_countGroups (fm_wr σ 61 2 (0 : Int32))) fun r6 =>
  if r6 = (1 : Int32) then
    mb2 (mX5_trees_L19 fF (0 : Int32) (0 : Int32) (fm_wr σ 61 2 (0 : Int32))) fun y19_1 σ19 =>
    mb2 (mX5_minor (y19_1 - (1 : Int32)) σ19) fun r61 σ61 =>
    some (r61, σ61)
  else
    some ((0 : Int64), (fm_wr σ 61 2 (0 : Int32)))
set_option maxHeartbeats 4000000 in
set_option maxRecDepth 100000 in
theorem kX5_trees (l : Launch) (K : fm_K) {σ : fm_S} {r : Int64} {σ' : fm_S} (h : mX5_trees σ = some (r, σ')) : fm_CL l yX5_trees wsX5_trees rmX5_trees K [.ref (K.2.2.2 40)] σ r σ' := by
  intro sz
  refine fm_start (Qc := fun sz => fm_QL K r σ' sz) (cc := cX5_trees) (maxL := 3) (ret := (some .long)) (by decide) rfl (Nat.le_of_ble_eq_true rfl) ?_
  intro p e s m args below meth c C hr hlk hst hH ls hl
  have C : CallFix p m c cX5_trees 3 s args wsX5_trees RX5 := C
  obtain ⟨hx, hb, hml, hown, hts⟩ := id C
  have hA : ∀ q, fm_A K s.heap.size q → fm_A K s.heap.size q := fun _ h => h
  have hl : lv_has ls 3 [(0, .ref (K.2.2.2 40))] := hl
  generalize hQ : MQ below _ args s _ _ _ = Q
  rw [mX5_trees] at h
  refine lv_aload_n hx hb dX5_trees_0 rfl (lv_at hl 0 rfl) ?_
  refine lv_iconst (v := 0) hx hb dX5_trees_1 (by decide) ?_
  refine fm_putf (T := TX5) (N := 17) hx hb hts (fun _ h => List.mem_cons_of_mem _ (List.mem_append_right _ h)) tyX5 tyX5_ok nmX5 hown hst.1 hH 40 61 2 (by decide) rfl (by decide) (fm_ob_40 _ _) rfl 16 (by decide) (List.mem_of_getElem? (i := 1) rfl) rfl rfl rfl rfl (Nat.le_of_ble_eq_true rfl) dX5_trees_2 (fun H locs hH => ?_)
  refine lv_aload_n hx hb dX5_trees_5 rfl (lv_at hl 0 rfl) ?_
  obtain ⟨r6, h6, h⟩ := mi_b1 h
  refine fm_ci (va_runV (As := []) (rest := []) C (kX5_countGroups l K h6 _) (cwV 0 hts gX5_trees_X5_countGroups rfl rfl rfl (by decide +kernel) ⟨(Nat.le_of_ble_eq_true rfl), (Nat.le_of_ble_eq_true rfl)⟩) ⟨fm_blind, fm_recv hst hH (q := 40) (by decide) rfl (fm_ob_40 _ _) rfl, fm_pre hst hA hH⟩ rfl rfl hl.1 rfl (lv_room (Nat.le_of_ble_eq_true rfl)) dX5_trees_6 ⟨(Nat.le_of_ble_eq_true rfl), (Nat.le_of_ble_eq_true rfl)⟩) hA hH (fun H locs hH => ?_)
  refine lv_iconst (v := 1) hx hb dX5_trees_9 (by decide) ?_
  refine lv_icmp_eq (tgt := 15) hx hb dX5_trees_10 (by decide) (fun hc => ?_) (fun hc => ?_)
  · replace h := mi_pos hc h
    refine lv_iconst (v := 0) hx hb dX5_trees_15 (by decide) ?_
    refine lv_istore_n (lv' := [(1, .int (0 : Int32)), (0, .ref (K.2.2.2 40))]) hx hb dX5_trees_16 rfl hl (by decide) rfl (fun ls hl => ?_)
    refine lv_iconst (v := 0) hx hb dX5_trees_17 (by decide) ?_
    refine lv_istore_n (lv' := [(2, .int (0 : Int32)), (1, .int (0 : Int32)), (0, .ref (K.2.2.2 40))]) hx hb dX5_trees_18 rfl hl (by decide) rfl (fun ls hl => ?_)
    obtain ⟨y19_1, σ19, h19, h⟩ := mi_b2 h
    refine wX5_trees_L19 C hst _ _ _ _ _ _ h19 (fun ls H locs hl hH => ?_) _ _ _ (lv_sub hl [2, 1, 0] rfl) hH
    refine lv_aload_n hx hb dX5_trees_57 rfl (lv_at hl 0 rfl) ?_
    refine lv_iload_n hx hb dX5_trees_58 rfl (lv_at hl 1 rfl) ?_
    refine lv_iconst (v := 1) hx hb dX5_trees_59 (by decide) ?_
    refine lv_isub hx hb dX5_trees_60 ?_
    obtain ⟨r61, σ61, h61, h⟩ := mi_b2 h
    refine fm_cl (va_runV (As := [.int (y19_1 - (1 : Int32))]) (rest := []) C (kX5_minor l K h61 _) (cwV 1 hts gX5_trees_X5_minor rfl rfl rfl (by decide +kernel) ⟨(Nat.le_of_ble_eq_true rfl), (Nat.le_of_ble_eq_true rfl)⟩) ⟨fm_blind, fm_recv hst hH (q := 40) (by decide) rfl (fm_ob_40 _ _) rfl, fm_pre hst hA hH⟩ rfl rfl hl.1 rfl (lv_room (Nat.le_of_ble_eq_true rfl)) dX5_trees_61 ⟨(Nat.le_of_ble_eq_true rfl), (Nat.le_of_ble_eq_true rfl)⟩) hA hH (fun H locs hH => ?_)
    cases h
    subst hQ
    exact fm_lret hx hb hr hlk hst hH dX5_trees_64
  · replace h := mi_neg hc h
    refine lv_lconst (v := 0) hx hb dX5_trees_13 (by decide) ?_
    cases h
    subst hQ
    exact fm_lret hx hb hr hlk hst hH dX5_trees_14
/-! RX5.setEstimate(II)I -/
abbrev rmX5_setEstimate : Room := { frames := 2, cells := 0, slots := 0, locals := 43 }
def mX5_setEstimate (x1 : Int32) (x2 : Int32) (σ : fm_S) : Option (Int32 × fm_S) :=
  mb1 (mX5_is x1 σ) fun r3 =>
  mb1 (mX5_in x2 (-1000000 : Int32) (1000000 : Int32)) fun r11 =>
  mb2 (mX5_goes r3 r11 σ) fun r14 σ14 =>
  if r14 = 0 then
    some ((0 : Int32), σ14)
  else
    if (x1 < 0 ∨ 8 ≤ x1.toNatClampNeg) then none else
    some ((rI σ14 45 x1), (sI σ14 45 x1 x2))
set_option maxHeartbeats 4000000 in
set_option maxRecDepth 100000 in
theorem kX5_setEstimate (l : Launch) (K : fm_K) {x1 : Int32} {x2 : Int32} {σ : fm_S} {r : Int32} {σ' : fm_S} (h : mX5_setEstimate x1 x2 σ = some (r, σ')) : fm_CI l yX5_setEstimate wsX5_setEstimate rmX5_setEstimate K [.ref (K.2.2.2 40), .int x1, .int x2] σ r σ' := by
  intro sz
  refine fm_start (Qc := fun sz => fm_QI K r σ' sz) (cc := cX5_setEstimate) (maxL := 4) (ret := (some .int)) (by decide) rfl (Nat.le_of_ble_eq_true rfl) ?_
  intro p e s m args below meth c C hr hlk hst hH ls hl
  have C : CallFix p m c cX5_setEstimate 4 s args wsX5_setEstimate RX5 := C
  obtain ⟨hx, hb, hml, hown, hts⟩ := id C
  have hA : ∀ q, fm_A K s.heap.size q → fm_A K s.heap.size q := fun _ h => h
  have hl : lv_has ls 4 [(0, .ref (K.2.2.2 40)), (1, .int x1), (2, .int x2)] := hl
  generalize hQ : MQ below _ args s _ _ _ = Q
  rw [mX5_setEstimate] at h
  refine lv_aload_n hx hb dX5_setEstimate_0 rfl (lv_at hl 0 rfl) ?_
  refine lv_aload_n hx hb dX5_setEstimate_1 rfl (lv_at hl 0 rfl) ?_
  refine lv_iload_n hx hb dX5_setEstimate_2 rfl (lv_at hl 1 rfl) ?_
  obtain ⟨r3, h3, h⟩ := mi_b1 h
  refine fm_ci (va_runV (As := [.int x1]) (rest := [.ref (K.2.2.2 40)]) C (kX5_is l K h3 _) (cwV 1 hts gX5_setEstimate_X5_is rfl rfl rfl (by decide +kernel) ⟨(Nat.le_of_ble_eq_true rfl), (Nat.le_of_ble_eq_true rfl)⟩) ⟨fm_blind, fm_recv hst hH (q := 40) (by decide) rfl (fm_ob_40 _ _) rfl, fm_pre hst hA hH⟩ rfl rfl hl.1 rfl (lv_room (Nat.le_of_ble_eq_true rfl)) dX5_setEstimate_3 ⟨(Nat.le_of_ble_eq_true rfl), (Nat.le_of_ble_eq_true rfl)⟩) hA hH (fun H locs hH => ?_)
  refine lv_iload_n hx hb dX5_setEstimate_6 rfl (lv_at hl 2 rfl) ?_
  refine lv_ldc (v := -1000000) hx hb hown (hts (.constant RX5 104 (-1000000)) (List.mem_of_getElem? (i := 1) rfl)) dX5_setEstimate_7 ?_
  refine lv_ldc (v := 1000000) hx hb hown (hts (.constant RX5 105 (1000000)) (List.mem_of_getElem? (i := 2) rfl)) dX5_setEstimate_9 ?_
  obtain ⟨r11, h11, h⟩ := mi_b1 h
  refine fm_ci (va_runS (As := [.int x2, .int (-1000000 : Int32), .int (1000000 : Int32)]) (rest := [.int r3, .ref (K.2.2.2 40)]) C (kX5_in l K h11 _) (va_cwS 3 hts gX5_setEstimate_X5_in rfl rfl rfl (by decide +kernel) ⟨(Nat.le_of_ble_eq_true rfl), (Nat.le_of_ble_eq_true rfl)⟩) ⟨fm_blind, fm_pre hst hA hH⟩ rfl rfl hl.1 rfl (lv_room (Nat.le_of_ble_eq_true rfl)) dX5_setEstimate_11 ⟨(Nat.le_of_ble_eq_true rfl), (Nat.le_of_ble_eq_true rfl)⟩) hA hH (fun H locs hH => ?_)
  obtain ⟨r14, σ14, h14, h⟩ := mi_b2 h
  refine fm_ci (va_runV (As := [.int r3, .int r11]) (rest := []) C (kX5_goes l K h14 _) (cwV 2 hts gX5_setEstimate_X5_goes rfl rfl rfl (by decide +kernel) ⟨(Nat.le_of_ble_eq_true rfl), (Nat.le_of_ble_eq_true rfl)⟩) ⟨fm_blind, fm_recv hst hH (q := 40) (by decide) rfl (fm_ob_40 _ _) rfl, fm_pre hst hA hH⟩ rfl rfl hl.1 rfl (lv_room (Nat.le_of_ble_eq_true rfl)) dX5_setEstimate_14 ⟨(Nat.le_of_ble_eq_true rfl), (Nat.le_of_ble_eq_true rfl)⟩) hA hH (fun H locs hH => ?_)
  refine lv_if_ne (tgt := 22) hx hb dX5_setEstimate_17 (by decide) (fun hc => ?_) (fun hc => ?_)
  · replace h := mi_neg hc h
    refine lv_aload_n hx hb dX5_setEstimate_22 rfl (lv_at hl 0 rfl) ?_
    refine fm_getf (T := TX5) (N := 17) hx hb hts (fun _ h => List.mem_cons_of_mem _ (List.mem_append_right _ h)) hown hst.1 hH 40 (by decide) rfl (fm_ob_40 _ _) rfl 4 (by decide) (List.mem_of_getElem? (i := 3) rfl) rfl rfl dX5_setEstimate_23 ?_
    refine lv_iload_n hx hb dX5_setEstimate_26 rfl (lv_at hl 1 rfl) ?_
    obtain ⟨hi1, h⟩ := mi_chk h
    refine fm_ild hx hb hst.1 hH 45 (by decide) rfl rfl hi1 dX5_setEstimate_27 ?_
    refine lv_istore_n (lv' := [(3, .int (rI σ14 45 x1)), (0, .ref (K.2.2.2 40)), (1, .int x1), (2, .int x2)]) hx hb dX5_setEstimate_28 rfl hl (by decide) rfl (fun ls hl => ?_)
    refine lv_aload_n hx hb dX5_setEstimate_29 rfl (lv_at hl 1 rfl) ?_
    refine fm_getf (T := TX5) (N := 17) hx hb hts (fun _ h => List.mem_cons_of_mem _ (List.mem_append_right _ h)) hown hst.1 hH 40 (by decide) rfl (fm_ob_40 _ _) rfl 4 (by decide) (List.mem_of_getElem? (i := 3) rfl) rfl rfl dX5_setEstimate_30 ?_
    refine lv_iload_n hx hb dX5_setEstimate_33 rfl (lv_at hl 2 rfl) ?_
    refine lv_iload_n hx hb dX5_setEstimate_34 rfl (lv_at hl 3 rfl) ?_
    refine fm_ist hx hb hst.1 hH 45 (by decide) rfl rfl hi1 dX5_setEstimate_35 (fun H locs hH => ?_)
    refine lv_iload_n hx hb dX5_setEstimate_36 rfl (lv_at hl 0 rfl) ?_
    cases h
    subst hQ
    exact fm_iret hx hb hr hlk hst hH dX5_setEstimate_37
  · replace h := mi_pos hc h
    refine lv_iconst (v := 0) hx hb dX5_setEstimate_20 (by decide) ?_
    cases h
    subst hQ
    exact fm_iret hx hb hr hlk hst hH dX5_setEstimate_21
/-! RX5.estimate(I)I -/
abbrev rmX5_estimate : Room := { frames := 2, cells := 0, slots := 0, locals := 43 }
def mX5_estimate (x1 : Int32) (σ : fm_S) : Option (Int32 × fm_S) :=
  mb1 (mX5_is x1 σ) fun r3 =>
  mb2 (mX5_goes r3 (1 : Int32) σ) fun r7 σ7 =>
  if r7 = 0 then
    some ((0 : Int32), σ7)
  else
    if (x1 < 0 ∨ 8 ≤ x1.toNatClampNeg) then none else
    some ((rI σ7 45 x1), σ7)
set_option maxHeartbeats 4000000 in
set_option maxRecDepth 100000 in
theorem kX5_estimate (l : Launch) (K : fm_K) {x1 : Int32} {σ : fm_S} {r : Int32} {σ' : fm_S} (h : mX5_estimate x1 σ = some (r, σ')) : fm_CI l yX5_estimate wsX5_estimate rmX5_estimate K [.ref (K.2.2.2 40), .int x1] σ r σ' := by
  intro sz
  refine fm_start (Qc := fun sz => fm_QI K r σ' sz) (cc := cX5_estimate) (maxL := 2) (ret := (some .int)) (by decide) rfl (Nat.le_of_ble_eq_true rfl) ?_
  intro p e s m args below meth c C hr hlk hst hH ls hl
  have C : CallFix p m c cX5_estimate 2 s args wsX5_estimate RX5 := C
  obtain ⟨hx, hb, hml, hown, hts⟩ := id C
  have hA : ∀ q, fm_A K s.heap.size q → fm_A K s.heap.size q := fun _ h => h
  have hl : lv_has ls 2 [(0, .ref (K.2.2.2 40)), (1, .int x1)] := hl
  generalize hQ : MQ below _ args s _ _ _ = Q
  rw [mX5_estimate] at h
  refine lv_aload_n hx hb dX5_estimate_0 rfl (lv_at hl 0 rfl) ?_
  refine lv_aload_n hx hb dX5_estimate_1 rfl (lv_at hl 0 rfl) ?_
  refine lv_iload_n hx hb dX5_estimate_2 rfl (lv_at hl 1 rfl) ?_
  obtain ⟨r3, h3, h⟩ := mi_b1 h
  refine fm_ci (va_runV (As := [.int x1]) (rest := [.ref (K.2.2.2 40)]) C (kX5_is l K h3 _) (cwV 1 hts gX5_estimate_X5_is rfl rfl rfl (by decide +kernel) ⟨(Nat.le_of_ble_eq_true rfl), (Nat.le_of_ble_eq_true rfl)⟩) ⟨fm_blind, fm_recv hst hH (q := 40) (by decide) rfl (fm_ob_40 _ _) rfl, fm_pre hst hA hH⟩ rfl rfl hl.1 rfl (lv_room (Nat.le_of_ble_eq_true rfl)) dX5_estimate_3 ⟨(Nat.le_of_ble_eq_true rfl), (Nat.le_of_ble_eq_true rfl)⟩) hA hH (fun H locs hH => ?_)
  refine lv_iconst (v := 1) hx hb dX5_estimate_6 (by decide) ?_
  obtain ⟨r7, σ7, h7, h⟩ := mi_b2 h
  refine fm_ci (va_runV (As := [.int r3, .int (1 : Int32)]) (rest := []) C (kX5_goes l K h7 _) (cwV 2 hts gX5_estimate_X5_goes rfl rfl rfl (by decide +kernel) ⟨(Nat.le_of_ble_eq_true rfl), (Nat.le_of_ble_eq_true rfl)⟩) ⟨fm_blind, fm_recv hst hH (q := 40) (by decide) rfl (fm_ob_40 _ _) rfl, fm_pre hst hA hH⟩ rfl rfl hl.1 rfl (lv_room (Nat.le_of_ble_eq_true rfl)) dX5_estimate_7 ⟨(Nat.le_of_ble_eq_true rfl), (Nat.le_of_ble_eq_true rfl)⟩) hA hH (fun H locs hH => ?_)
  refine lv_if_eq (tgt := 22) hx hb dX5_estimate_10 (by decide) (fun hc => ?_) (fun hc => ?_)
  · replace h := mi_pos hc h
    refine lv_iconst (v := 0) hx hb dX5_estimate_22 (by decide) ?_
    cases h
    subst hQ
    exact fm_iret hx hb hr hlk hst hH dX5_estimate_23
  · replace h := mi_neg hc h
    refine lv_aload_n hx hb dX5_estimate_13 rfl (lv_at hl 0 rfl) ?_
    refine fm_getf (T := TX5) (N := 17) hx hb hts (fun _ h => List.mem_cons_of_mem _ (List.mem_append_right _ h)) hown hst.1 hH 40 (by decide) rfl (fm_ob_40 _ _) rfl 4 (by decide) (List.mem_of_getElem? (i := 1) rfl) rfl rfl dX5_estimate_14 ?_
    refine lv_iload_n hx hb dX5_estimate_17 rfl (lv_at hl 1 rfl) ?_
    obtain ⟨hi1, h⟩ := mi_chk h
    refine fm_ild hx hb hst.1 hH 45 (by decide) rfl rfl hi1 dX5_estimate_18 ?_
    refine lv_goto (tgt := 23) hx hb dX5_estimate_19 (by decide) ?_
    cases h
    subst hQ
    exact fm_iret hx hb hr hlk hst hH dX5_estimate_23
/-! RX5.agrees()V -/
abbrev rmX5_agrees : Room := { frames := 3, cells := 0, slots := 0, locals := 70 }
def mX5_agrees_L2 : Nat → Int32 → fm_S → Option (fm_S)
  | 0, _, _ => none
  | n + 1, x1, σ =>
    if (σ.1 61 0) ≤ x1 then
      some σ
    else
      if (x1 < 0 ∨ 8 ≤ x1.toNatClampNeg) then none else
      mX5_agrees_L2 n (x1 + 1) (sI σ 51 x1 (0 : Int32))
set_option maxHeartbeats 4000000 in
set_option maxRecDepth 100000 in
theorem wX5_agrees_L2 {p : Program} {l : Launch} {e : Env} {s : State} {m : MethodId} {args : Array Value} {below : List Frame} {meth : Method} {c : Code} {Q : State → Prop} {K : fm_K} (C : CallFix p m c cX5_agrees 6 s args wsX5_agrees RX5) (hst : fm_st K (fm_A K s.heap.size) s s.heap) :
    ∀ (n : Nat) (x1 : Int32) (σ : fm_S) (σo : fm_S), mX5_agrees_L2 n x1 σ = some σo → (∀ (ls : Array Slot) (H : Heap) (locs : List Loc), lv_has ls 6 [(0, .ref (K.2.2.2 40))] → fm_H K σo (fm_A K s.heap.size) s H locs → W p l e rmX5_agrees s m args below meth c H locs 0 0 Q (F0 m 23 ls [])) → ∀ (ls : Array Slot) (H : Heap) (locs : List Loc), lv_has ls 6 [(0, .ref (K.2.2.2 40)), (1, .int x1)] → fm_H K σ (fm_A K s.heap.size) s H locs → W p l e rmX5_agrees s m args below meth c H locs 0 0 Q (F0 m 2 ls []) := by
  obtain ⟨hx, hb, hml, hown, hts⟩ := id C
  have hA : ∀ q, fm_A K s.heap.size q → fm_A K s.heap.size q := fun _ h => h
  intro n
  induction n with
  | zero => intro x1 σ σo h; simp [mX5_agrees_L2] at h
  | succ n ih =>
    intro x1 σ σo h kk ls H locs hl hH
    rw [mX5_agrees_L2] at h
    refine lv_iload_n hx hb dX5_agrees_2 rfl (lv_at hl 1 rfl) ?_
    refine lv_aload_n hx hb dX5_agrees_3 rfl (lv_at hl 0 rfl) ?_
    refine fm_getf (T := TX5) (N := 17) hx hb hts (fun _ h => List.mem_cons_of_mem _ (List.mem_append_right _ h)) hown hst.1 hH 40 (by decide) rfl (fm_ob_40 _ _) rfl 10 (by decide) (List.mem_of_getElem? (i := 1) rfl) rfl rfl dX5_agrees_4 ?_
    refine lv_icmp_ge (tgt := 23) hx hb dX5_agrees_7 (by decide) (fun hc => ?_) (fun hc => ?_)
    · replace h := mi_pos hc h
      cases h
      exact kk _ _ _ (lv_sub hl [0] rfl) hH
    · replace h := mi_neg hc h
      refine lv_aload_n hx hb dX5_agrees_10 rfl (lv_at hl 0 rfl) ?_
      refine fm_getf (T := TX5) (N := 17) hx hb hts (fun _ h => List.mem_cons_of_mem _ (List.mem_append_right _ h)) hown hst.1 hH 40 (by decide) rfl (fm_ob_40 _ _) rfl 12 (by decide) (List.mem_of_getElem? (i := 2) rfl) rfl rfl dX5_agrees_11 ?_
      refine lv_iload_n hx hb dX5_agrees_14 rfl (lv_at hl 1 rfl) ?_
      refine lv_iconst (v := 0) hx hb dX5_agrees_15 (by decide) ?_
      obtain ⟨hi1, h⟩ := mi_chk h
      refine fm_ist hx hb hst.1 hH 51 (by decide) rfl rfl hi1 dX5_agrees_16 (fun H locs hH => ?_)
      refine lv_iinc (v := (x1 + 1)) (lv' := [(1, .int (x1 + 1)), (0, .ref (K.2.2.2 40))]) hx hb dX5_agrees_17 hl (k := 1) rfl rfl (by decide) rfl (fun ls hl => ?_)
      refine lv_goto (tgt := 2) hx hb dX5_agrees_20 (by decide) ?_
      exact ih _ _ _ h kk _ _ _ (lv_sub hl [1, 0] rfl) hH
def mX5_agrees_L25 : Nat → Int32 → fm_S → Option (fm_S)
  | 0, _, _ => none
  | n + 1, x1, σ =>
    if (64 : Int32) ≤ x1 then
      some σ
    else
      if (x1 - x1 / (8 : Int32) * (8 : Int32)) ≤ (x1 / (8 : Int32)) then
        mX5_agrees_L25 n (x1 + 1) σ
      else
        if (σ.1 61 0) ≤ (x1 - x1 / (8 : Int32) * (8 : Int32)) then
          mX5_agrees_L25 n (x1 + 1) σ
        else
          mb1 (mX5_linked (x1 / (8 : Int32)) (x1 - x1 / (8 : Int32) * (8 : Int32)) σ) fun r57 =>
          if r57 = 0 then
            mX5_agrees_L25 n (x1 + 1) σ
          else
            mb1 (mX5_degrees (x1 / (8 : Int32)) σ) fun r65 =>
            mb1 (mX5_degrees (x1 - x1 / (8 : Int32) * (8 : Int32)) σ) fun r70 =>
            mb1 (show Option (Int32) from
              if r65 ≤ r70 then
                mb1 (mX5_degrees (x1 - x1 / (8 : Int32) * (8 : Int32)) σ) fun r86 =>
                some r86
              else
                mb1 (mX5_degrees (x1 / (8 : Int32)) σ) fun r78 =>
                some r78) fun v2_0 =>
            if ((x1 / (8 : Int32)) < 0 ∨ 8 ≤ (x1 / (8 : Int32)).toNatClampNeg) then none else
            if ((x1 - x1 / (8 : Int32) * (8 : Int32)) < 0 ∨ 8 ≤ (x1 - x1 / (8 : Int32) * (8 : Int32)).toNatClampNeg) then none else
            if (v2_0 + (1 : Int32)) = 0 then none else
            mX5_agrees_L25 n (x1 + 1) (sI (sI σ 51 (x1 / (8 : Int32)) ((rI σ 51 (x1 / (8 : Int32))) - (((rI σ 45 (x1 / (8 : Int32))) - (rI σ 45 (x1 - x1 / (8 : Int32) * (8 : Int32)))) / (v2_0 + (1 : Int32))))) 51 (x1 - x1 / (8 : Int32) * (8 : Int32)) ((rI (sI σ 51 (x1 / (8 : Int32)) ((rI σ 51 (x1 / (8 : Int32))) - (((rI σ 45 (x1 / (8 : Int32))) - (rI σ 45 (x1 - x1 / (8 : Int32) * (8 : Int32)))) / (v2_0 + (1 : Int32))))) 51 (x1 - x1 / (8 : Int32) * (8 : Int32))) + (((rI σ 45 (x1 / (8 : Int32))) - (rI σ 45 (x1 - x1 / (8 : Int32) * (8 : Int32)))) / (v2_0 + (1 : Int32)))))
set_option maxHeartbeats 4000000 in
set_option maxRecDepth 100000 in
theorem wX5_agrees_L25 {p : Program} {l : Launch} {e : Env} {s : State} {m : MethodId} {args : Array Value} {below : List Frame} {meth : Method} {c : Code} {Q : State → Prop} {K : fm_K} (C : CallFix p m c cX5_agrees 6 s args wsX5_agrees RX5) (hst : fm_st K (fm_A K s.heap.size) s s.heap) :
    ∀ (n : Nat) (x1 : Int32) (σ : fm_S) (σo : fm_S), mX5_agrees_L25 n x1 σ = some σo → (∀ (ls : Array Slot) (H : Heap) (locs : List Loc), lv_has ls 6 [(0, .ref (K.2.2.2 40))] → fm_H K σo (fm_A K s.heap.size) s H locs → W p l e rmX5_agrees s m args below meth c H locs 0 0 Q (F0 m 139 ls [])) → ∀ (ls : Array Slot) (H : Heap) (locs : List Loc), lv_has ls 6 [(0, .ref (K.2.2.2 40)), (1, .int x1)] → fm_H K σ (fm_A K s.heap.size) s H locs → W p l e rmX5_agrees s m args below meth c H locs 0 0 Q (F0 m 25 ls []) := by
  obtain ⟨hx, hb, hml, hown, hts⟩ := id C
  have hA : ∀ q, fm_A K s.heap.size q → fm_A K s.heap.size q := fun _ h => h
  intro n
  induction n with
  | zero => intro x1 σ σo h; simp [mX5_agrees_L25] at h
  | succ n ih =>
    intro x1 σ σo h kk ls H locs hl hH
    rw [mX5_agrees_L25] at h
    refine lv_iload_n hx hb dX5_agrees_25 rfl (lv_at hl 1 rfl) ?_
    refine lv_bipush (v := 64) hx hb dX5_agrees_26 (by decide) ?_
    refine lv_icmp_ge (tgt := 139) hx hb dX5_agrees_28 (by decide) (fun hc => ?_) (fun hc => ?_)
    · replace h := mi_pos hc h
      cases h
      exact kk _ _ _ (lv_sub hl [0] rfl) hH
    · replace h := mi_neg hc h
      refine lv_iload_n hx hb dX5_agrees_31 rfl (lv_at hl 1 rfl) ?_
      refine lv_bipush (v := 8) hx hb dX5_agrees_32 (by decide) ?_
      refine lv_idiv hx hb dX5_agrees_34 (by decide) ?_
      refine lv_istore_n (lv' := [(2, .int (x1 / (8 : Int32))), (0, .ref (K.2.2.2 40)), (1, .int x1)]) hx hb dX5_agrees_35 rfl hl (by decide) rfl (fun ls hl => ?_)
      refine lv_iload_n hx hb dX5_agrees_36 rfl (lv_at hl 2 rfl) ?_
      refine lv_bipush (v := 8) hx hb dX5_agrees_37 (by decide) ?_
      refine lv_irem hx hb dX5_agrees_39 (by decide) ?_
      refine lv_istore_n (lv' := [(3, .int (x1 - x1 / (8 : Int32) * (8 : Int32))), (2, .int (x1 / (8 : Int32))), (0, .ref (K.2.2.2 40)), (1, .int x1)]) hx hb dX5_agrees_40 rfl hl (by decide) rfl (fun ls hl => ?_)
      refine lv_iload_n hx hb dX5_agrees_41 rfl (lv_at hl 1 rfl) ?_
      refine lv_iload_n hx hb dX5_agrees_42 rfl (lv_at hl 0 rfl) ?_
      refine lv_icmp_ge (tgt := 133) hx hb dX5_agrees_43 (by decide) (fun hc => ?_) (fun hc => ?_)
      · replace h := mi_pos hc h
        refine lv_iinc (v := (x1 + 1)) (lv' := [(1, .int (x1 + 1)), (3, .int (x1 - x1 / (8 : Int32) * (8 : Int32))), (2, .int (x1 / (8 : Int32))), (0, .ref (K.2.2.2 40))]) hx hb dX5_agrees_133 hl (k := 3) rfl rfl (by decide) rfl (fun ls hl => ?_)
        refine lv_goto (tgt := 25) hx hb dX5_agrees_136 (by decide) ?_
        exact ih _ _ _ h kk _ _ _ (lv_sub hl [3, 0] rfl) hH
      · replace h := mi_neg hc h
        refine lv_iload_n hx hb dX5_agrees_46 rfl (lv_at hl 0 rfl) ?_
        refine lv_aload_n hx hb dX5_agrees_47 rfl (lv_at hl 2 rfl) ?_
        refine fm_getf (T := TX5) (N := 17) hx hb hts (fun _ h => List.mem_cons_of_mem _ (List.mem_append_right _ h)) hown hst.1 hH 40 (by decide) rfl (fm_ob_40 _ _) rfl 10 (by decide) (List.mem_of_getElem? (i := 1) rfl) rfl rfl dX5_agrees_48 ?_
        refine lv_icmp_ge (tgt := 133) hx hb dX5_agrees_51 (by decide) (fun hc => ?_) (fun hc => ?_)
        · replace h := mi_pos hc h
          refine lv_iinc (v := (x1 + 1)) (lv' := [(1, .int (x1 + 1)), (3, .int (x1 - x1 / (8 : Int32) * (8 : Int32))), (2, .int (x1 / (8 : Int32))), (0, .ref (K.2.2.2 40))]) hx hb dX5_agrees_133 hl (k := 3) rfl rfl (by decide) rfl (fun ls hl => ?_)
          refine lv_goto (tgt := 25) hx hb dX5_agrees_136 (by decide) ?_
          exact ih _ _ _ h kk _ _ _ (lv_sub hl [3, 0] rfl) hH
        · replace h := mi_neg hc h
          refine lv_aload_n hx hb dX5_agrees_54 rfl (lv_at hl 2 rfl) ?_
          refine lv_iload_n hx hb dX5_agrees_55 rfl (lv_at hl 1 rfl) ?_
          refine lv_iload_n hx hb dX5_agrees_56 rfl (lv_at hl 0 rfl) ?_
          obtain ⟨r57, h57, h⟩ := mi_b1 h
          refine fm_ci (va_runV (As := [.int (x1 / (8 : Int32)), .int (x1 - x1 / (8 : Int32) * (8 : Int32))]) (rest := []) C (kX5_linked l K h57 _) (cwV 2 hts gX5_agrees_X5_linked rfl rfl rfl (by decide +kernel) ⟨(Nat.le_of_ble_eq_true rfl), (Nat.le_of_ble_eq_true rfl)⟩) ⟨fm_blind, fm_recv hst hH (q := 40) (by decide) rfl (fm_ob_40 _ _) rfl, fm_pre hst hA hH⟩ rfl rfl hl.1 rfl (lv_room (Nat.le_of_ble_eq_true rfl)) dX5_agrees_57 ⟨(Nat.le_of_ble_eq_true rfl), (Nat.le_of_ble_eq_true rfl)⟩) hA hH (fun H locs hH => ?_)
          refine lv_if_eq (tgt := 133) hx hb dX5_agrees_60 (by decide) (fun hc => ?_) (fun hc => ?_)
          · replace h := mi_pos hc h
            refine lv_iinc (v := (x1 + 1)) (lv' := [(1, .int (x1 + 1)), (3, .int (x1 - x1 / (8 : Int32) * (8 : Int32))), (2, .int (x1 / (8 : Int32))), (0, .ref (K.2.2.2 40))]) hx hb dX5_agrees_133 hl (k := 3) rfl rfl (by decide) rfl (fun ls hl => ?_)
            refine lv_goto (tgt := 25) hx hb dX5_agrees_136 (by decide) ?_
            exact ih _ _ _ h kk _ _ _ (lv_sub hl [3, 0] rfl) hH
          · replace h := mi_neg hc h
            refine lv_aload_n hx hb dX5_agrees_63 rfl (lv_at hl 2 rfl) ?_
            refine lv_iload_n hx hb dX5_agrees_64 rfl (lv_at hl 1 rfl) ?_
            obtain ⟨r65, h65, h⟩ := mi_b1 h
            refine fm_ci (va_runV (As := [.int (x1 / (8 : Int32))]) (rest := []) C (kX5_degrees l K h65 _) (cwV 1 hts gX5_agrees_X5_degrees rfl rfl rfl (by decide +kernel) ⟨(Nat.le_of_ble_eq_true rfl), (Nat.le_of_ble_eq_true rfl)⟩) ⟨fm_blind, fm_recv hst hH (q := 40) (by decide) rfl (fm_ob_40 _ _) rfl, fm_pre hst hA hH⟩ rfl rfl hl.1 rfl (lv_room (Nat.le_of_ble_eq_true rfl)) dX5_agrees_65 ⟨(Nat.le_of_ble_eq_true rfl), (Nat.le_of_ble_eq_true rfl)⟩) hA hH (fun H locs hH => ?_)
            refine lv_aload_n hx hb dX5_agrees_68 rfl (lv_at hl 2 rfl) ?_
            refine lv_iload_n hx hb dX5_agrees_69 rfl (lv_at hl 0 rfl) ?_
            obtain ⟨r70, h70, h⟩ := mi_b1 h
            refine fm_ci (va_runV (As := [.int (x1 - x1 / (8 : Int32) * (8 : Int32))]) (rest := [.int r65]) C (kX5_degrees l K h70 _) (cwV 1 hts gX5_agrees_X5_degrees rfl rfl rfl (by decide +kernel) ⟨(Nat.le_of_ble_eq_true rfl), (Nat.le_of_ble_eq_true rfl)⟩) ⟨fm_blind, fm_recv hst hH (q := 40) (by decide) rfl (fm_ob_40 _ _) rfl, fm_pre hst hA hH⟩ rfl rfl hl.1 rfl (lv_room (Nat.le_of_ble_eq_true rfl)) dX5_agrees_70 ⟨(Nat.le_of_ble_eq_true rfl), (Nat.le_of_ble_eq_true rfl)⟩) hA hH (fun H locs hH => ?_)
            obtain ⟨v2_0, hd, h2⟩ := mi_b1 h
            have kj : ∀ (ls : Array Slot) (H : Heap) (locs : List Loc), lv_has ls 6 [(0, .ref (K.2.2.2 40)), (1, .int x1), (2, .int (x1 / (8 : Int32))), (3, .int (x1 - x1 / (8 : Int32) * (8 : Int32)))] → fm_H K σ (fm_A K s.heap.size) s H locs → W p l e rmX5_agrees s m args below meth c H locs 0 0 Q (F0 m 89 ls [.int v2_0]) := by
              clear h hd
              intro ls H locs hl hH
              have h := h2
              clear h2
              refine lv_istore (lv' := [(4, .int v2_0), (0, .ref (K.2.2.2 40)), (1, .int x1), (2, .int (x1 / (8 : Int32))), (3, .int (x1 - x1 / (8 : Int32) * (8 : Int32)))]) hx hb dX5_agrees_89 hl (by decide) rfl (fun ls hl => ?_)
              refine lv_aload_n hx hb dX5_agrees_91 rfl (lv_at hl 1 rfl) ?_
              refine fm_getf (T := TX5) (N := 17) hx hb hts (fun _ h => List.mem_cons_of_mem _ (List.mem_append_right _ h)) hown hst.1 hH 40 (by decide) rfl (fm_ob_40 _ _) rfl 4 (by decide) (List.mem_of_getElem? (i := 3) rfl) rfl rfl dX5_agrees_92 ?_
              refine lv_iload_n hx hb dX5_agrees_95 rfl (lv_at hl 3 rfl) ?_
              obtain ⟨hi3, h⟩ := mi_chk h
              refine fm_ild hx hb hst.1 hH 45 (by decide) rfl rfl hi3 dX5_agrees_96 ?_
              refine lv_aload_n hx hb dX5_agrees_97 rfl (lv_at hl 1 rfl) ?_
              refine fm_getf (T := TX5) (N := 17) hx hb hts (fun _ h => List.mem_cons_of_mem _ (List.mem_append_right _ h)) hown hst.1 hH 40 (by decide) rfl (fm_ob_40 _ _) rfl 4 (by decide) (List.mem_of_getElem? (i := 3) rfl) rfl rfl dX5_agrees_98 ?_
              refine lv_iload_n hx hb dX5_agrees_101 rfl (lv_at hl 4 rfl) ?_
              obtain ⟨hi4, h⟩ := mi_chk h
              refine fm_ild hx hb hst.1 hH 45 (by decide) rfl rfl hi4 dX5_agrees_102 ?_
              refine lv_isub hx hb dX5_agrees_103 ?_
              refine lv_iload hx hb dX5_agrees_104 (lv_at hl 0 rfl) ?_
              refine lv_iconst (v := 1) hx hb dX5_agrees_106 (by decide) ?_
              refine lv_iadd hx hb dX5_agrees_107 ?_
              obtain ⟨hz5, h⟩ := mi_chk h
              refine lv_idiv hx hb dX5_agrees_108 hz5 ?_
              refine lv_istore (lv' := [(5, .int (((rI σ 45 (x1 / (8 : Int32))) - (rI σ 45 (x1 - x1 / (8 : Int32) * (8 : Int32)))) / (v2_0 + (1 : Int32)))), (4, .int v2_0), (0, .ref (K.2.2.2 40)), (1, .int x1), (2, .int (x1 / (8 : Int32))), (3, .int (x1 - x1 / (8 : Int32) * (8 : Int32)))]) hx hb dX5_agrees_109 hl (by decide) rfl (fun ls hl => ?_)
              refine lv_aload_n hx hb dX5_agrees_111 rfl (lv_at hl 2 rfl) ?_
              refine fm_getf (T := TX5) (N := 17) hx hb hts (fun _ h => List.mem_cons_of_mem _ (List.mem_append_right _ h)) hown hst.1 hH 40 (by decide) rfl (fm_ob_40 _ _) rfl 12 (by decide) (List.mem_of_getElem? (i := 2) rfl) rfl rfl dX5_agrees_112 ?_
              refine lv_iload_n hx hb dX5_agrees_115 rfl (lv_at hl 4 rfl) ?_
              refine lv_dup2_11 hx hb dX5_agrees_116 rfl rfl ?_
              refine fm_ild hx hb hst.1 hH 51 (by decide) rfl rfl hi3 dX5_agrees_117 ?_
              refine lv_iload hx hb dX5_agrees_118 (lv_at hl 0 rfl) ?_
              refine lv_isub hx hb dX5_agrees_120 ?_
              refine fm_ist hx hb hst.1 hH 51 (by decide) rfl rfl hi3 dX5_agrees_121 (fun H locs hH => ?_)
              refine lv_aload_n hx hb dX5_agrees_122 rfl (lv_at hl 2 rfl) ?_
              refine fm_getf (T := TX5) (N := 17) hx hb hts (fun _ h => List.mem_cons_of_mem _ (List.mem_append_right _ h)) hown hst.1 hH 40 (by decide) rfl (fm_ob_40 _ _) rfl 12 (by decide) (List.mem_of_getElem? (i := 2) rfl) rfl rfl dX5_agrees_123 ?_
              refine lv_iload_n hx hb dX5_agrees_126 rfl (lv_at hl 5 rfl) ?_
              refine lv_dup2_11 hx hb dX5_agrees_127 rfl rfl ?_
              refine fm_ild hx hb hst.1 hH 51 (by decide) rfl rfl hi4 dX5_agrees_128 ?_
              refine lv_iload hx hb dX5_agrees_129 (lv_at hl 0 rfl) ?_
              refine lv_iadd hx hb dX5_agrees_131 ?_
              refine fm_ist hx hb hst.1 hH 51 (by decide) rfl rfl hi4 dX5_agrees_132 (fun H locs hH => ?_)
              refine lv_iinc (v := (x1 + 1)) (lv' := [(1, .int (x1 + 1)), (5, .int (((rI σ 45 (x1 / (8 : Int32))) - (rI σ 45 (x1 - x1 / (8 : Int32) * (8 : Int32)))) / (v2_0 + (1 : Int32)))), (4, .int v2_0), (0, .ref (K.2.2.2 40)), (2, .int (x1 / (8 : Int32))), (3, .int (x1 - x1 / (8 : Int32) * (8 : Int32)))]) hx hb dX5_agrees_133 hl (k := 3) rfl rfl (by decide) rfl (fun ls hl => ?_)
              refine lv_goto (tgt := 25) hx hb dX5_agrees_136 (by decide) ?_
              exact ih _ _ _ h kk _ _ _ (lv_sub hl [3, 0] rfl) hH
            replace h := hd
            clear h2 hd
            refine lv_icmp_le (tgt := 84) hx hb dX5_agrees_73 (by decide) (fun hc => ?_) (fun hc => ?_)
            · replace h := mi_pos hc h
              refine lv_aload_n hx hb dX5_agrees_84 rfl (lv_at hl 2 rfl) ?_
              refine lv_iload_n hx hb dX5_agrees_85 rfl (lv_at hl 0 rfl) ?_
              obtain ⟨r86, h86, h⟩ := mi_b1 h
              refine fm_ci (va_runV (As := [.int (x1 - x1 / (8 : Int32) * (8 : Int32))]) (rest := []) C (kX5_degrees l K h86 _) (cwV 1 hts gX5_agrees_X5_degrees rfl rfl rfl (by decide +kernel) ⟨(Nat.le_of_ble_eq_true rfl), (Nat.le_of_ble_eq_true rfl)⟩) ⟨fm_blind, fm_recv hst hH (q := 40) (by decide) rfl (fm_ob_40 _ _) rfl, fm_pre hst hA hH⟩ rfl rfl hl.1 rfl (lv_room (Nat.le_of_ble_eq_true rfl)) dX5_agrees_86 ⟨(Nat.le_of_ble_eq_true rfl), (Nat.le_of_ble_eq_true rfl)⟩) hA hH (fun H locs hH => ?_)
              cases h
              exact kj _ _ _ (lv_sub hl [2, 3, 1, 0] rfl) hH
            · replace h := mi_neg hc h
              refine lv_aload_n hx hb dX5_agrees_76 rfl (lv_at hl 2 rfl) ?_
              refine lv_iload_n hx hb dX5_agrees_77 rfl (lv_at hl 1 rfl) ?_
              obtain ⟨r78, h78, h⟩ := mi_b1 h
              refine fm_ci (va_runV (As := [.int (x1 / (8 : Int32))]) (rest := []) C (kX5_degrees l K h78 _) (cwV 1 hts gX5_agrees_X5_degrees rfl rfl rfl (by decide +kernel) ⟨(Nat.le_of_ble_eq_true rfl), (Nat.le_of_ble_eq_true rfl)⟩) ⟨fm_blind, fm_recv hst hH (q := 40) (by decide) rfl (fm_ob_40 _ _) rfl, fm_pre hst hA hH⟩ rfl rfl hl.1 rfl (lv_room (Nat.le_of_ble_eq_true rfl)) dX5_agrees_78 ⟨(Nat.le_of_ble_eq_true rfl), (Nat.le_of_ble_eq_true rfl)⟩) hA hH (fun H locs hH => ?_)
              refine lv_goto (tgt := 89) hx hb dX5_agrees_81 (by decide) ?_
              cases h
              exact kj _ _ _ (lv_sub hl [2, 3, 1, 0] rfl) hH
def mX5_agrees_L141 : Nat → Int32 → fm_S → Option (fm_S)
  | 0, _, _ => none
  | n + 1, x1, σ =>
    if (σ.1 61 0) ≤ x1 then
      some σ
    else
      if (x1 < 0 ∨ 8 ≤ x1.toNatClampNeg) then none else
      mX5_agrees_L141 n (x1 + 1) (sI σ 45 x1 ((rI σ 45 x1) + (rI σ 51 x1)))
set_option maxHeartbeats 4000000 in
set_option maxRecDepth 100000 in
theorem wX5_agrees_L141 {p : Program} {l : Launch} {e : Env} {s : State} {m : MethodId} {args : Array Value} {below : List Frame} {meth : Method} {c : Code} {Q : State → Prop} {K : fm_K} (C : CallFix p m c cX5_agrees 6 s args wsX5_agrees RX5) (hst : fm_st K (fm_A K s.heap.size) s s.heap) :
    ∀ (n : Nat) (x1 : Int32) (σ : fm_S) (σo : fm_S), mX5_agrees_L141 n x1 σ = some σo → (∀ (ls : Array Slot) (H : Heap) (locs : List Loc), lv_has ls 6 [] → fm_H K σo (fm_A K s.heap.size) s H locs → W p l e rmX5_agrees s m args below meth c H locs 0 0 Q (F0 m 170 ls [])) → ∀ (ls : Array Slot) (H : Heap) (locs : List Loc), lv_has ls 6 [(0, .ref (K.2.2.2 40)), (1, .int x1)] → fm_H K σ (fm_A K s.heap.size) s H locs → W p l e rmX5_agrees s m args below meth c H locs 0 0 Q (F0 m 141 ls []) := by
  obtain ⟨hx, hb, hml, hown, hts⟩ := id C
  have hA : ∀ q, fm_A K s.heap.size q → fm_A K s.heap.size q := fun _ h => h
  intro n
  induction n with
  | zero => intro x1 σ σo h; simp [mX5_agrees_L141] at h
  | succ n ih =>
    intro x1 σ σo h kk ls H locs hl hH
    rw [mX5_agrees_L141] at h
    refine lv_iload_n hx hb dX5_agrees_141 rfl (lv_at hl 1 rfl) ?_
    refine lv_aload_n hx hb dX5_agrees_142 rfl (lv_at hl 0 rfl) ?_
    refine fm_getf (T := TX5) (N := 17) hx hb hts (fun _ h => List.mem_cons_of_mem _ (List.mem_append_right _ h)) hown hst.1 hH 40 (by decide) rfl (fm_ob_40 _ _) rfl 10 (by decide) (List.mem_of_getElem? (i := 1) rfl) rfl rfl dX5_agrees_143 ?_
    refine lv_icmp_ge (tgt := 170) hx hb dX5_agrees_146 (by decide) (fun hc => ?_) (fun hc => ?_)
    · replace h := mi_pos hc h
      cases h
      exact kk _ _ _ (lv_sub hl [] rfl) hH
    · replace h := mi_neg hc h
      refine lv_aload_n hx hb dX5_agrees_149 rfl (lv_at hl 0 rfl) ?_
      refine fm_getf (T := TX5) (N := 17) hx hb hts (fun _ h => List.mem_cons_of_mem _ (List.mem_append_right _ h)) hown hst.1 hH 40 (by decide) rfl (fm_ob_40 _ _) rfl 4 (by decide) (List.mem_of_getElem? (i := 3) rfl) rfl rfl dX5_agrees_150 ?_
      refine lv_iload_n hx hb dX5_agrees_153 rfl (lv_at hl 1 rfl) ?_
      refine lv_dup2_11 hx hb dX5_agrees_154 rfl rfl ?_
      obtain ⟨hi6, h⟩ := mi_chk h
      refine fm_ild hx hb hst.1 hH 45 (by decide) rfl rfl hi6 dX5_agrees_155 ?_
      refine lv_aload_n hx hb dX5_agrees_156 rfl (lv_at hl 0 rfl) ?_
      refine fm_getf (T := TX5) (N := 17) hx hb hts (fun _ h => List.mem_cons_of_mem _ (List.mem_append_right _ h)) hown hst.1 hH 40 (by decide) rfl (fm_ob_40 _ _) rfl 12 (by decide) (List.mem_of_getElem? (i := 2) rfl) rfl rfl dX5_agrees_157 ?_
      refine lv_iload_n hx hb dX5_agrees_160 rfl (lv_at hl 1 rfl) ?_
      refine fm_ild hx hb hst.1 hH 51 (by decide) rfl rfl hi6 dX5_agrees_161 ?_
      refine lv_iadd hx hb dX5_agrees_162 ?_
      refine fm_ist hx hb hst.1 hH 45 (by decide) rfl rfl hi6 dX5_agrees_163 (fun H locs hH => ?_)
      refine lv_iinc (v := (x1 + 1)) (lv' := [(1, .int (x1 + 1)), (0, .ref (K.2.2.2 40))]) hx hb dX5_agrees_164 hl (k := 1) rfl rfl (by decide) rfl (fun ls hl => ?_)
      refine lv_goto (tgt := 141) hx hb dX5_agrees_167 (by decide) ?_
      exact ih _ _ _ h kk _ _ _ (lv_sub hl [1, 0] rfl) hH
def mX5_agrees (σ : fm_S) : Option fm_S :=
  mb1 (mX5_agrees_L2 fF (0 : Int32) σ) fun σ2 =>
  mb1 (mX5_agrees_L25 fF (0 : Int32) σ2) fun σ25 =>
  mb1 (mX5_agrees_L141 fF (0 : Int32) σ25) fun σ141 =>
  some σ141
set_option maxHeartbeats 4000000 in
set_option maxRecDepth 100000 in
theorem kX5_agrees (l : Launch) (K : fm_K) {σ : fm_S} {σ' : fm_S} (h : mX5_agrees σ = some σ') : fm_CV l yX5_agrees wsX5_agrees rmX5_agrees K [.ref (K.2.2.2 40)] σ σ' := by
  intro sz
  refine fm_start (Qc := fun sz => fm_QV K σ' sz) (cc := cX5_agrees) (maxL := 6) (ret := none) (by decide) rfl (Nat.le_of_ble_eq_true rfl) ?_
  intro p e s m args below meth c C hr hlk hst hH ls hl
  have C : CallFix p m c cX5_agrees 6 s args wsX5_agrees RX5 := C
  obtain ⟨hx, hb, hml, hown, hts⟩ := id C
  have hA : ∀ q, fm_A K s.heap.size q → fm_A K s.heap.size q := fun _ h => h
  have hl : lv_has ls 6 [(0, .ref (K.2.2.2 40))] := hl
  generalize hQ : MQ below _ args s _ _ _ = Q
  rw [mX5_agrees] at h
  refine lv_iconst (v := 0) hx hb dX5_agrees_0 (by decide) ?_
  refine lv_istore_n (lv' := [(1, .int (0 : Int32)), (0, .ref (K.2.2.2 40))]) hx hb dX5_agrees_1 rfl hl (by decide) rfl (fun ls hl => ?_)
  obtain ⟨σ2, h2, h⟩ := mi_b1 h
  refine wX5_agrees_L2 C hst _ _ _ _ h2 (fun ls H locs hl hH => ?_) _ _ _ (lv_sub hl [1, 0] rfl) hH
  refine lv_iconst (v := 0) hx hb dX5_agrees_23 (by decide) ?_
  refine lv_istore_n (lv' := [(1, .int (0 : Int32)), (0, .ref (K.2.2.2 40))]) hx hb dX5_agrees_24 rfl hl (by decide) rfl (fun ls hl => ?_)
  obtain ⟨σ25, h25, h⟩ := mi_b1 h
  refine wX5_agrees_L25 C hst _ _ _ _ h25 (fun ls H locs hl hH => ?_) _ _ _ (lv_sub hl [1, 0] rfl) hH
  refine lv_iconst (v := 0) hx hb dX5_agrees_139 (by decide) ?_
  refine lv_istore_n (lv' := [(1, .int (0 : Int32)), (0, .ref (K.2.2.2 40))]) hx hb dX5_agrees_140 rfl hl (by decide) rfl (fun ls hl => ?_)
  obtain ⟨σ141, h141, h⟩ := mi_b1 h
  refine wX5_agrees_L141 C hst _ _ _ _ h141 (fun ls H locs hl hH => ?_) _ _ _ (lv_sub hl [1, 0] rfl) hH
  cases h
  subst hQ
  exact fm_vret hx hb hr hlk hst hH dX5_agrees_170
/-! RX5.agree(I)I -/
abbrev rmX5_agree : Room := { frames := 4, cells := 0, slots := 0, locals := 95 }
def mX5_agree_L19 : Nat → Int32 → Int32 → fm_S → Option (fm_S)
  | 0, _, _, _ => none
  | n + 1, x1, x2, σ =>
    if x1 ≤ x2 then
      some σ
    else
      mb1 (mX5_agrees σ) fun σ25 =>
      mX5_agree_L19 n x1 (x2 + 1) σ25
set_option maxHeartbeats 4000000 in
set_option maxRecDepth 100000 in
theorem wX5_agree_L19 {p : Program} {l : Launch} {e : Env} {s : State} {m : MethodId} {args : Array Value} {below : List Frame} {meth : Method} {c : Code} {Q : State → Prop} {K : fm_K} (C : CallFix p m c cX5_agree 5 s args wsX5_agree RX5) (hst : fm_st K (fm_A K s.heap.size) s s.heap) :
    ∀ (n : Nat) (x1 : Int32) (x2 : Int32) (σ : fm_S) (σo : fm_S), mX5_agree_L19 n x1 x2 σ = some σo → (∀ (ls : Array Slot) (H : Heap) (locs : List Loc), lv_has ls 5 [(0, .ref (K.2.2.2 40))] → fm_H K σo (fm_A K s.heap.size) s H locs → W p l e rmX5_agree s m args below meth c H locs 0 0 Q (F0 m 34 ls [])) → ∀ (ls : Array Slot) (H : Heap) (locs : List Loc), lv_has ls 5 [(0, .ref (K.2.2.2 40)), (1, .int x1), (2, .int x2)] → fm_H K σ (fm_A K s.heap.size) s H locs → W p l e rmX5_agree s m args below meth c H locs 0 0 Q (F0 m 19 ls []) := by
  obtain ⟨hx, hb, hml, hown, hts⟩ := id C
  have hA : ∀ q, fm_A K s.heap.size q → fm_A K s.heap.size q := fun _ h => h
  intro n
  induction n with
  | zero => intro x1 x2 σ σo h; simp [mX5_agree_L19] at h
  | succ n ih =>
    intro x1 x2 σ σo h kk ls H locs hl hH
    rw [mX5_agree_L19] at h
    refine lv_iload_n hx hb dX5_agree_19 rfl (lv_at hl 2 rfl) ?_
    refine lv_iload_n hx hb dX5_agree_20 rfl (lv_at hl 1 rfl) ?_
    refine lv_icmp_ge (tgt := 34) hx hb dX5_agree_21 (by decide) (fun hc => ?_) (fun hc => ?_)
    · replace h := mi_pos hc h
      cases h
      exact kk _ _ _ (lv_sub hl [0] rfl) hH
    · replace h := mi_neg hc h
      refine lv_aload_n hx hb dX5_agree_24 rfl (lv_at hl 0 rfl) ?_
      obtain ⟨σ25, h25, h⟩ := mi_b1 h
      refine fm_cv (va_runV (As := []) (rest := []) C (kX5_agrees l K h25 _) (cwV 0 hts gX5_agree_X5_agrees rfl rfl rfl (by decide +kernel) ⟨(Nat.le_of_ble_eq_true rfl), (Nat.le_of_ble_eq_true rfl)⟩) ⟨fm_blind, fm_recv hst hH (q := 40) (by decide) rfl (fm_ob_40 _ _) rfl, fm_pre hst hA hH⟩ rfl rfl hl.1 rfl (lv_room (Nat.le_of_ble_eq_true rfl)) dX5_agree_25 ⟨(Nat.le_of_ble_eq_true rfl), (Nat.le_of_ble_eq_true rfl)⟩) hA hH (fun H locs hH => ?_)
      refine lv_iinc (v := (x2 + 1)) (lv' := [(2, .int (x2 + 1)), (0, .ref (K.2.2.2 40)), (1, .int x1)]) hx hb dX5_agree_28 hl (k := 2) rfl rfl (by decide) rfl (fun ls hl => ?_)
      refine lv_goto (tgt := 19) hx hb dX5_agree_31 (by decide) ?_
      exact ih _ _ _ _ h kk _ _ _ (lv_sub hl [1, 2, 0] rfl) hH
def mX5_agree_L51 : Nat → Int32 → Int32 → Int32 → fm_S → Option (Int32 × Int32)
  | 0, _, _, _, _ => none
  | n + 1, x2, x3, x4, σ =>
    if (σ.1 61 0) ≤ x4 then
      some (x2, x3)
    else
      if (x4 < 0 ∨ 8 ≤ x4.toNatClampNeg) then none else
      mb1 (show Option (Int32) from
        if x2 ≤ (rI σ 45 x4) then
          some x2
        else
          some ((rI σ 45 x4))) fun v3_0 =>
      if (rI σ 45 x4) ≤ x3 then
        mX5_agree_L51 n v3_0 x3 (x4 + 1) σ
      else
        mX5_agree_L51 n v3_0 (rI σ 45 x4) (x4 + 1) σ
set_option maxHeartbeats 4000000 in
set_option maxRecDepth 100000 in
theorem wX5_agree_L51 {p : Program} {l : Launch} {e : Env} {s : State} {m : MethodId} {args : Array Value} {below : List Frame} {meth : Method} {c : Code} {Q : State → Prop} {K : fm_K} (C : CallFix p m c cX5_agree 5 s args wsX5_agree RX5) (hst : fm_st K (fm_A K s.heap.size) s s.heap) :
    ∀ (n : Nat) (x2 : Int32) (x3 : Int32) (x4 : Int32) (σ : fm_S) (o2 : Int32) (o3 : Int32), mX5_agree_L51 n x2 x3 x4 σ = some (o2, o3) → (∀ (ls : Array Slot) (H : Heap) (locs : List Loc), lv_has ls 5 [(2, .int o2), (3, .int o3)] → fm_H K σ (fm_A K s.heap.size) s H locs → W p l e rmX5_agree s m args below meth c H locs 0 0 Q (F0 m 112 ls [])) → ∀ (ls : Array Slot) (H : Heap) (locs : List Loc), lv_has ls 5 [(0, .ref (K.2.2.2 40)), (2, .int x2), (3, .int x3), (4, .int x4)] → fm_H K σ (fm_A K s.heap.size) s H locs → W p l e rmX5_agree s m args below meth c H locs 0 0 Q (F0 m 51 ls []) := by
  obtain ⟨hx, hb, hml, hown, hts⟩ := id C
  have hA : ∀ q, fm_A K s.heap.size q → fm_A K s.heap.size q := fun _ h => h
  intro n
  induction n with
  | zero => intro x2 x3 x4 σ o2 o3 h; simp [mX5_agree_L51] at h
  | succ n ih =>
    intro x2 x3 x4 σ o2 o3 h kk ls H locs hl hH
    rw [mX5_agree_L51] at h
    refine lv_iload hx hb dX5_agree_51 (lv_at hl 3 rfl) ?_
    refine lv_aload_n hx hb dX5_agree_53 rfl (lv_at hl 0 rfl) ?_
    refine fm_getf (T := TX5) (N := 17) hx hb hts (fun _ h => List.mem_cons_of_mem _ (List.mem_append_right _ h)) hown hst.1 hH 40 (by decide) rfl (fm_ob_40 _ _) rfl 10 (by decide) (List.mem_of_getElem? (i := 2) rfl) rfl rfl dX5_agree_54 ?_
    refine lv_icmp_ge (tgt := 112) hx hb dX5_agree_57 (by decide) (fun hc => ?_) (fun hc => ?_)
    · replace h := mi_pos hc h
      cases h
      exact kk _ _ _ (lv_sub hl [1, 2] rfl) hH
    · replace h := mi_neg hc h
      refine lv_aload_n hx hb dX5_agree_60 rfl (lv_at hl 0 rfl) ?_
      refine fm_getf (T := TX5) (N := 17) hx hb hts (fun _ h => List.mem_cons_of_mem _ (List.mem_append_right _ h)) hown hst.1 hH 40 (by decide) rfl (fm_ob_40 _ _) rfl 4 (by decide) (List.mem_of_getElem? (i := 1) rfl) rfl rfl dX5_agree_61 ?_
      refine lv_iload hx hb dX5_agree_64 (lv_at hl 3 rfl) ?_
      obtain ⟨hi2, h⟩ := mi_chk h
      refine fm_ild hx hb hst.1 hH 45 (by decide) rfl rfl hi2 dX5_agree_66 ?_
      refine lv_iload_n hx hb dX5_agree_67 rfl (lv_at hl 1 rfl) ?_
      obtain ⟨v3_0, hd, h2⟩ := mi_b1 h
      have kj : ∀ (ls : Array Slot) (H : Heap) (locs : List Loc), lv_has ls 5 [(0, .ref (K.2.2.2 40)), (3, .int x3), (4, .int x4)] → fm_H K σ (fm_A K s.heap.size) s H locs → W p l e rmX5_agree s m args below meth c H locs 0 0 Q (F0 m 82 ls [.int v3_0]) := by
        clear h hd
        intro ls H locs hl hH
        have h := h2
        clear h2
        refine lv_istore_n (lv' := [(2, .int v3_0), (0, .ref (K.2.2.2 40)), (3, .int x3), (4, .int x4)]) hx hb dX5_agree_82 rfl hl (by decide) rfl (fun ls hl => ?_)
        refine lv_aload_n hx hb dX5_agree_83 rfl (lv_at hl 1 rfl) ?_
        refine fm_getf (T := TX5) (N := 17) hx hb hts (fun _ h => List.mem_cons_of_mem _ (List.mem_append_right _ h)) hown hst.1 hH 40 (by decide) rfl (fm_ob_40 _ _) rfl 4 (by decide) (List.mem_of_getElem? (i := 1) rfl) rfl rfl dX5_agree_84 ?_
        refine lv_iload hx hb dX5_agree_87 (lv_at hl 3 rfl) ?_
        refine fm_ild hx hb hst.1 hH 45 (by decide) rfl rfl hi2 dX5_agree_89 ?_
        refine lv_iload_n hx hb dX5_agree_90 rfl (lv_at hl 2 rfl) ?_
        refine lv_icmp_le (tgt := 104) hx hb dX5_agree_91 (by decide) (fun hc => ?_) (fun hc => ?_)
        · replace h := mi_pos hc h
          refine lv_iload_n hx hb dX5_agree_104 rfl (lv_at hl 2 rfl) ?_
          refine lv_istore_n (lv' := [(3, .int x3), (2, .int v3_0), (0, .ref (K.2.2.2 40)), (4, .int x4)]) hx hb dX5_agree_105 rfl hl (by decide) rfl (fun ls hl => ?_)
          refine lv_iinc (v := (x4 + 1)) (lv' := [(4, .int (x4 + 1)), (3, .int x3), (2, .int v3_0), (0, .ref (K.2.2.2 40))]) hx hb dX5_agree_106 hl (k := 3) rfl rfl (by decide) rfl (fun ls hl => ?_)
          refine lv_goto (tgt := 51) hx hb dX5_agree_109 (by decide) ?_
          exact ih _ _ _ _ _ _ h kk _ _ _ (lv_sub hl [3, 2, 1, 0] rfl) hH
        · replace h := mi_neg hc h
          refine lv_aload_n hx hb dX5_agree_94 rfl (lv_at hl 1 rfl) ?_
          refine fm_getf (T := TX5) (N := 17) hx hb hts (fun _ h => List.mem_cons_of_mem _ (List.mem_append_right _ h)) hown hst.1 hH 40 (by decide) rfl (fm_ob_40 _ _) rfl 4 (by decide) (List.mem_of_getElem? (i := 1) rfl) rfl rfl dX5_agree_95 ?_
          refine lv_iload hx hb dX5_agree_98 (lv_at hl 3 rfl) ?_
          refine fm_ild hx hb hst.1 hH 45 (by decide) rfl rfl hi2 dX5_agree_100 ?_
          refine lv_goto (tgt := 105) hx hb dX5_agree_101 (by decide) ?_
          refine lv_istore_n (lv' := [(3, .int (rI σ 45 x4)), (2, .int v3_0), (0, .ref (K.2.2.2 40)), (4, .int x4)]) hx hb dX5_agree_105 rfl hl (by decide) rfl (fun ls hl => ?_)
          refine lv_iinc (v := (x4 + 1)) (lv' := [(4, .int (x4 + 1)), (3, .int (rI σ 45 x4)), (2, .int v3_0), (0, .ref (K.2.2.2 40))]) hx hb dX5_agree_106 hl (k := 3) rfl rfl (by decide) rfl (fun ls hl => ?_)
          refine lv_goto (tgt := 51) hx hb dX5_agree_109 (by decide) ?_
          exact ih _ _ _ _ _ _ h kk _ _ _ (lv_sub hl [3, 2, 1, 0] rfl) hH
      replace h := hd
      clear h2 hd
      refine lv_icmp_ge (tgt := 81) hx hb dX5_agree_68 (by decide) (fun hc => ?_) (fun hc => ?_)
      · replace h := mi_pos hc h
        refine lv_iload_n hx hb dX5_agree_81 rfl (lv_at hl 1 rfl) ?_
        cases h
        exact kj _ _ _ (lv_sub hl [0, 2, 3] rfl) hH
      · replace h := mi_neg hc h
        refine lv_aload_n hx hb dX5_agree_71 rfl (lv_at hl 0 rfl) ?_
        refine fm_getf (T := TX5) (N := 17) hx hb hts (fun _ h => List.mem_cons_of_mem _ (List.mem_append_right _ h)) hown hst.1 hH 40 (by decide) rfl (fm_ob_40 _ _) rfl 4 (by decide) (List.mem_of_getElem? (i := 1) rfl) rfl rfl dX5_agree_72 ?_
        refine lv_iload hx hb dX5_agree_75 (lv_at hl 3 rfl) ?_
        refine fm_ild hx hb hst.1 hH 45 (by decide) rfl rfl hi2 dX5_agree_77 ?_
        refine lv_goto (tgt := 82) hx hb dX5_agree_78 (by decide) ?_
        cases h
        exact kj _ _ _ (lv_sub hl [0, 2, 3] rfl) hH
def mX5_agree (x1 : Int32) (σ : fm_S) : Option (Int32 × fm_S) :=
  mb1 (mX5_in x1 (1 : Int32) (50 : Int32)) fun r5 =>
  mb2 (mX5_goes r5 (1 : Int32) σ) fun r9 σ9 =>
  if r9 = 0 then
    some ((0 : Int32), σ9)
  else
    mb1 (mX5_agree_L19 fF x1 (0 : Int32) σ9) fun σ19 =>
    if ((0 : Int32) < 0 ∨ 8 ≤ (0 : Int32).toNatClampNeg) then none else
    mb2 (mX5_agree_L51 fF (rI σ19 45 (0 : Int32)) (rI σ19 45 (0 : Int32)) (1 : Int32) σ19) fun y51_2 y51_3 =>
    some ((y51_3 - y51_2), σ19)
set_option maxHeartbeats 4000000 in
set_option maxRecDepth 100000 in
theorem kX5_agree (l : Launch) (K : fm_K) {x1 : Int32} {σ : fm_S} {r : Int32} {σ' : fm_S} (h : mX5_agree x1 σ = some (r, σ')) : fm_CI l yX5_agree wsX5_agree rmX5_agree K [.ref (K.2.2.2 40), .int x1] σ r σ' := by
  intro sz
  refine fm_start (Qc := fun sz => fm_QI K r σ' sz) (cc := cX5_agree) (maxL := 5) (ret := (some .int)) (by decide) rfl (Nat.le_of_ble_eq_true rfl) ?_
  intro p e s m args below meth c C hr hlk hst hH ls hl
  have C : CallFix p m c cX5_agree 5 s args wsX5_agree RX5 := C
  obtain ⟨hx, hb, hml, hown, hts⟩ := id C
  have hA : ∀ q, fm_A K s.heap.size q → fm_A K s.heap.size q := fun _ h => h
  have hl : lv_has ls 5 [(0, .ref (K.2.2.2 40)), (1, .int x1)] := hl
  generalize hQ : MQ below _ args s _ _ _ = Q
  rw [mX5_agree] at h
  refine lv_aload_n hx hb dX5_agree_0 rfl (lv_at hl 0 rfl) ?_
  refine lv_iload_n hx hb dX5_agree_1 rfl (lv_at hl 1 rfl) ?_
  refine lv_iconst (v := 1) hx hb dX5_agree_2 (by decide) ?_
  refine lv_bipush (v := 50) hx hb dX5_agree_3 (by decide) ?_
  obtain ⟨r5, h5, h⟩ := mi_b1 h
  refine fm_ci (va_runS (As := [.int x1, .int (1 : Int32), .int (50 : Int32)]) (rest := [.ref (K.2.2.2 40)]) C (kX5_in l K h5 _) (va_cwS 3 hts gX5_agree_X5_in rfl rfl rfl (by decide +kernel) ⟨(Nat.le_of_ble_eq_true rfl), (Nat.le_of_ble_eq_true rfl)⟩) ⟨fm_blind, fm_pre hst hA hH⟩ rfl rfl hl.1 rfl (lv_room (Nat.le_of_ble_eq_true rfl)) dX5_agree_5 ⟨(Nat.le_of_ble_eq_true rfl), (Nat.le_of_ble_eq_true rfl)⟩) hA hH (fun H locs hH => ?_)
  refine lv_iconst (v := 1) hx hb dX5_agree_8 (by decide) ?_
  obtain ⟨r9, σ9, h9, h⟩ := mi_b2 h
  refine fm_ci (va_runV (As := [.int r5, .int (1 : Int32)]) (rest := []) C (kX5_goes l K h9 _) (cwV 2 hts gX5_agree_X5_goes rfl rfl rfl (by decide +kernel) ⟨(Nat.le_of_ble_eq_true rfl), (Nat.le_of_ble_eq_true rfl)⟩) ⟨fm_blind, fm_recv hst hH (q := 40) (by decide) rfl (fm_ob_40 _ _) rfl, fm_pre hst hA hH⟩ rfl rfl hl.1 rfl (lv_room (Nat.le_of_ble_eq_true rfl)) dX5_agree_9 ⟨(Nat.le_of_ble_eq_true rfl), (Nat.le_of_ble_eq_true rfl)⟩) hA hH (fun H locs hH => ?_)
  refine lv_if_ne (tgt := 17) hx hb dX5_agree_12 (by decide) (fun hc => ?_) (fun hc => ?_)
  · replace h := mi_neg hc h
    refine lv_iconst (v := 0) hx hb dX5_agree_17 (by decide) ?_
    refine lv_istore_n (lv' := [(2, .int (0 : Int32)), (0, .ref (K.2.2.2 40)), (1, .int x1)]) hx hb dX5_agree_18 rfl hl (by decide) rfl (fun ls hl => ?_)
    obtain ⟨σ19, h19, h⟩ := mi_b1 h
    refine wX5_agree_L19 C hst _ _ _ _ _ h19 (fun ls H locs hl hH => ?_) _ _ _ (lv_sub hl [1, 2, 0] rfl) hH
    refine lv_aload_n hx hb dX5_agree_34 rfl (lv_at hl 0 rfl) ?_
    refine fm_getf (T := TX5) (N := 17) hx hb hts (fun _ h => List.mem_cons_of_mem _ (List.mem_append_right _ h)) hown hst.1 hH 40 (by decide) rfl (fm_ob_40 _ _) rfl 4 (by decide) (List.mem_of_getElem? (i := 1) rfl) rfl rfl dX5_agree_35 ?_
    refine lv_iconst (v := 0) hx hb dX5_agree_38 (by decide) ?_
    obtain ⟨hi1, h⟩ := mi_chk h
    refine fm_ild hx hb hst.1 hH 45 (by decide) rfl rfl hi1 dX5_agree_39 ?_
    refine lv_istore_n (lv' := [(2, .int (rI σ19 45 (0 : Int32))), (0, .ref (K.2.2.2 40))]) hx hb dX5_agree_40 rfl hl (by decide) rfl (fun ls hl => ?_)
    refine lv_aload_n hx hb dX5_agree_41 rfl (lv_at hl 1 rfl) ?_
    refine fm_getf (T := TX5) (N := 17) hx hb hts (fun _ h => List.mem_cons_of_mem _ (List.mem_append_right _ h)) hown hst.1 hH 40 (by decide) rfl (fm_ob_40 _ _) rfl 4 (by decide) (List.mem_of_getElem? (i := 1) rfl) rfl rfl dX5_agree_42 ?_
    refine lv_iconst (v := 0) hx hb dX5_agree_45 (by decide) ?_
    refine fm_ild hx hb hst.1 hH 45 (by decide) rfl rfl hi1 dX5_agree_46 ?_
    refine lv_istore_n (lv' := [(3, .int (rI σ19 45 (0 : Int32))), (2, .int (rI σ19 45 (0 : Int32))), (0, .ref (K.2.2.2 40))]) hx hb dX5_agree_47 rfl hl (by decide) rfl (fun ls hl => ?_)
    refine lv_iconst (v := 1) hx hb dX5_agree_48 (by decide) ?_
    refine lv_istore (lv' := [(4, .int (1 : Int32)), (3, .int (rI σ19 45 (0 : Int32))), (2, .int (rI σ19 45 (0 : Int32))), (0, .ref (K.2.2.2 40))]) hx hb dX5_agree_49 hl (by decide) rfl (fun ls hl => ?_)
    obtain ⟨y51_2, y51_3, h51, h⟩ := mi_b2 h
    refine wX5_agree_L51 C hst _ _ _ _ _ _ _ h51 (fun ls H locs hl hH => ?_) _ _ _ (lv_sub hl [3, 2, 1, 0] rfl) hH
    refine lv_iload_n hx hb dX5_agree_112 rfl (lv_at hl 1 rfl) ?_
    refine lv_iload_n hx hb dX5_agree_113 rfl (lv_at hl 0 rfl) ?_
    refine lv_isub hx hb dX5_agree_114 ?_
    cases h
    subst hQ
    exact fm_iret hx hb hr hlk hst hH dX5_agree_115
  · replace h := mi_pos hc h
    refine lv_iconst (v := 0) hx hb dX5_agree_15 (by decide) ?_
    cases h
    subst hQ
    exact fm_iret hx hb hr hlk hst hH dX5_agree_16
/-! RX5.setSum(II)I -/
abbrev rmX5_setSum : Room := { frames := 2, cells := 0, slots := 0, locals := 43 }
def mX5_setSum (x1 : Int32) (x2 : Int32) (σ : fm_S) : Option (Int32 × fm_S) :=
  mb1 (mX5_is x1 σ) fun r3 =>
  mb1 (mX5_in x2 (-1000000 : Int32) (1000000 : Int32)) fun r11 =>
  mb2 (mX5_goes r3 r11 σ) fun r14 σ14 =>
  if r14 = 0 then
    some ((0 : Int32), σ14)
  else
    if (x1 < 0 ∨ 8 ≤ x1.toNatClampNeg) then none else
    some ((rI σ14 46 x1), (sI σ14 46 x1 x2))
set_option maxHeartbeats 4000000 in
set_option maxRecDepth 100000 in
theorem kX5_setSum (l : Launch) (K : fm_K) {x1 : Int32} {x2 : Int32} {σ : fm_S} {r : Int32} {σ' : fm_S} (h : mX5_setSum x1 x2 σ = some (r, σ')) : fm_CI l yX5_setSum wsX5_setSum rmX5_setSum K [.ref (K.2.2.2 40), .int x1, .int x2] σ r σ' := by
  intro sz
  refine fm_start (Qc := fun sz => fm_QI K r σ' sz) (cc := cX5_setSum) (maxL := 4) (ret := (some .int)) (by decide) rfl (Nat.le_of_ble_eq_true rfl) ?_
  intro p e s m args below meth c C hr hlk hst hH ls hl
  have C : CallFix p m c cX5_setSum 4 s args wsX5_setSum RX5 := C
  obtain ⟨hx, hb, hml, hown, hts⟩ := id C
  have hA : ∀ q, fm_A K s.heap.size q → fm_A K s.heap.size q := fun _ h => h
  have hl : lv_has ls 4 [(0, .ref (K.2.2.2 40)), (1, .int x1), (2, .int x2)] := hl
  generalize hQ : MQ below _ args s _ _ _ = Q
  rw [mX5_setSum] at h
  refine lv_aload_n hx hb dX5_setSum_0 rfl (lv_at hl 0 rfl) ?_
  refine lv_aload_n hx hb dX5_setSum_1 rfl (lv_at hl 0 rfl) ?_
  refine lv_iload_n hx hb dX5_setSum_2 rfl (lv_at hl 1 rfl) ?_
  obtain ⟨r3, h3, h⟩ := mi_b1 h
  refine fm_ci (va_runV (As := [.int x1]) (rest := [.ref (K.2.2.2 40)]) C (kX5_is l K h3 _) (cwV 1 hts gX5_setSum_X5_is rfl rfl rfl (by decide +kernel) ⟨(Nat.le_of_ble_eq_true rfl), (Nat.le_of_ble_eq_true rfl)⟩) ⟨fm_blind, fm_recv hst hH (q := 40) (by decide) rfl (fm_ob_40 _ _) rfl, fm_pre hst hA hH⟩ rfl rfl hl.1 rfl (lv_room (Nat.le_of_ble_eq_true rfl)) dX5_setSum_3 ⟨(Nat.le_of_ble_eq_true rfl), (Nat.le_of_ble_eq_true rfl)⟩) hA hH (fun H locs hH => ?_)
  refine lv_iload_n hx hb dX5_setSum_6 rfl (lv_at hl 2 rfl) ?_
  refine lv_ldc (v := -1000000) hx hb hown (hts (.constant RX5 104 (-1000000)) (List.mem_of_getElem? (i := 1) rfl)) dX5_setSum_7 ?_
  refine lv_ldc (v := 1000000) hx hb hown (hts (.constant RX5 105 (1000000)) (List.mem_of_getElem? (i := 2) rfl)) dX5_setSum_9 ?_
  obtain ⟨r11, h11, h⟩ := mi_b1 h
  refine fm_ci (va_runS (As := [.int x2, .int (-1000000 : Int32), .int (1000000 : Int32)]) (rest := [.int r3, .ref (K.2.2.2 40)]) C (kX5_in l K h11 _) (va_cwS 3 hts gX5_setSum_X5_in rfl rfl rfl (by decide +kernel) ⟨(Nat.le_of_ble_eq_true rfl), (Nat.le_of_ble_eq_true rfl)⟩) ⟨fm_blind, fm_pre hst hA hH⟩ rfl rfl hl.1 rfl (lv_room (Nat.le_of_ble_eq_true rfl)) dX5_setSum_11 ⟨(Nat.le_of_ble_eq_true rfl), (Nat.le_of_ble_eq_true rfl)⟩) hA hH (fun H locs hH => ?_)
  obtain ⟨r14, σ14, h14, h⟩ := mi_b2 h
  refine fm_ci (va_runV (As := [.int r3, .int r11]) (rest := []) C (kX5_goes l K h14 _) (cwV 2 hts gX5_setSum_X5_goes rfl rfl rfl (by decide +kernel) ⟨(Nat.le_of_ble_eq_true rfl), (Nat.le_of_ble_eq_true rfl)⟩) ⟨fm_blind, fm_recv hst hH (q := 40) (by decide) rfl (fm_ob_40 _ _) rfl, fm_pre hst hA hH⟩ rfl rfl hl.1 rfl (lv_room (Nat.le_of_ble_eq_true rfl)) dX5_setSum_14 ⟨(Nat.le_of_ble_eq_true rfl), (Nat.le_of_ble_eq_true rfl)⟩) hA hH (fun H locs hH => ?_)
  refine lv_if_ne (tgt := 22) hx hb dX5_setSum_17 (by decide) (fun hc => ?_) (fun hc => ?_)
  · replace h := mi_neg hc h
    refine lv_aload_n hx hb dX5_setSum_22 rfl (lv_at hl 0 rfl) ?_
    refine fm_getf (T := TX5) (N := 17) hx hb hts (fun _ h => List.mem_cons_of_mem _ (List.mem_append_right _ h)) hown hst.1 hH 40 (by decide) rfl (fm_ob_40 _ _) rfl 5 (by decide) (List.mem_of_getElem? (i := 3) rfl) rfl rfl dX5_setSum_23 ?_
    refine lv_iload_n hx hb dX5_setSum_26 rfl (lv_at hl 1 rfl) ?_
    obtain ⟨hi1, h⟩ := mi_chk h
    refine fm_ild hx hb hst.1 hH 46 (by decide) rfl rfl hi1 dX5_setSum_27 ?_
    refine lv_istore_n (lv' := [(3, .int (rI σ14 46 x1)), (0, .ref (K.2.2.2 40)), (1, .int x1), (2, .int x2)]) hx hb dX5_setSum_28 rfl hl (by decide) rfl (fun ls hl => ?_)
    refine lv_aload_n hx hb dX5_setSum_29 rfl (lv_at hl 1 rfl) ?_
    refine fm_getf (T := TX5) (N := 17) hx hb hts (fun _ h => List.mem_cons_of_mem _ (List.mem_append_right _ h)) hown hst.1 hH 40 (by decide) rfl (fm_ob_40 _ _) rfl 5 (by decide) (List.mem_of_getElem? (i := 3) rfl) rfl rfl dX5_setSum_30 ?_
    refine lv_iload_n hx hb dX5_setSum_33 rfl (lv_at hl 2 rfl) ?_
    refine lv_iload_n hx hb dX5_setSum_34 rfl (lv_at hl 3 rfl) ?_
    refine fm_ist hx hb hst.1 hH 46 (by decide) rfl rfl hi1 dX5_setSum_35 (fun H locs hH => ?_)
    refine lv_iload_n hx hb dX5_setSum_36 rfl (lv_at hl 0 rfl) ?_
    cases h
    subst hQ
    exact fm_iret hx hb hr hlk hst hH dX5_setSum_37
  · replace h := mi_pos hc h
    refine lv_iconst (v := 0) hx hb dX5_setSum_20 (by decide) ?_
    cases h
    subst hQ
    exact fm_iret hx hb hr hlk hst hH dX5_setSum_21
/-! RX5.sum(I)I -/
abbrev rmX5_sum : Room := { frames := 2, cells := 0, slots := 0, locals := 43 }
def mX5_sum (x1 : Int32) (σ : fm_S) : Option (Int32 × fm_S) :=
  mb1 (mX5_is x1 σ) fun r3 =>
  mb2 (mX5_goes r3 (1 : Int32) σ) fun r7 σ7 =>
  if r7 = 0 then
    some ((0 : Int32), σ7)
  else
    if (x1 < 0 ∨ 8 ≤ x1.toNatClampNeg) then none else
    some ((rI σ7 46 x1), σ7)
set_option maxHeartbeats 4000000 in
set_option maxRecDepth 100000 in
theorem kX5_sum (l : Launch) (K : fm_K) {x1 : Int32} {σ : fm_S} {r : Int32} {σ' : fm_S} (h : mX5_sum x1 σ = some (r, σ')) : fm_CI l yX5_sum wsX5_sum rmX5_sum K [.ref (K.2.2.2 40), .int x1] σ r σ' := by
  intro sz
  refine fm_start (Qc := fun sz => fm_QI K r σ' sz) (cc := cX5_sum) (maxL := 2) (ret := (some .int)) (by decide) rfl (Nat.le_of_ble_eq_true rfl) ?_
  intro p e s m args below meth c C hr hlk hst hH ls hl
  have C : CallFix p m c cX5_sum 2 s args wsX5_sum RX5 := C
  obtain ⟨hx, hb, hml, hown, hts⟩ := id C
  have hA : ∀ q, fm_A K s.heap.size q → fm_A K s.heap.size q := fun _ h => h
  have hl : lv_has ls 2 [(0, .ref (K.2.2.2 40)), (1, .int x1)] := hl
  generalize hQ : MQ below _ args s _ _ _ = Q
  rw [mX5_sum] at h
  refine lv_aload_n hx hb dX5_sum_0 rfl (lv_at hl 0 rfl) ?_
  refine lv_aload_n hx hb dX5_sum_1 rfl (lv_at hl 0 rfl) ?_
  refine lv_iload_n hx hb dX5_sum_2 rfl (lv_at hl 1 rfl) ?_
  obtain ⟨r3, h3, h⟩ := mi_b1 h
  refine fm_ci (va_runV (As := [.int x1]) (rest := [.ref (K.2.2.2 40)]) C (kX5_is l K h3 _) (cwV 1 hts gX5_sum_X5_is rfl rfl rfl (by decide +kernel) ⟨(Nat.le_of_ble_eq_true rfl), (Nat.le_of_ble_eq_true rfl)⟩) ⟨fm_blind, fm_recv hst hH (q := 40) (by decide) rfl (fm_ob_40 _ _) rfl, fm_pre hst hA hH⟩ rfl rfl hl.1 rfl (lv_room (Nat.le_of_ble_eq_true rfl)) dX5_sum_3 ⟨(Nat.le_of_ble_eq_true rfl), (Nat.le_of_ble_eq_true rfl)⟩) hA hH (fun H locs hH => ?_)
  refine lv_iconst (v := 1) hx hb dX5_sum_6 (by decide) ?_
  obtain ⟨r7, σ7, h7, h⟩ := mi_b2 h
  refine fm_ci (va_runV (As := [.int r3, .int (1 : Int32)]) (rest := []) C (kX5_goes l K h7 _) (cwV 2 hts gX5_sum_X5_goes rfl rfl rfl (by decide +kernel) ⟨(Nat.le_of_ble_eq_true rfl), (Nat.le_of_ble_eq_true rfl)⟩) ⟨fm_blind, fm_recv hst hH (q := 40) (by decide) rfl (fm_ob_40 _ _) rfl, fm_pre hst hA hH⟩ rfl rfl hl.1 rfl (lv_room (Nat.le_of_ble_eq_true rfl)) dX5_sum_7 ⟨(Nat.le_of_ble_eq_true rfl), (Nat.le_of_ble_eq_true rfl)⟩) hA hH (fun H locs hH => ?_)
  refine lv_if_eq (tgt := 22) hx hb dX5_sum_10 (by decide) (fun hc => ?_) (fun hc => ?_)
  · replace h := mi_pos hc h
    refine lv_iconst (v := 0) hx hb dX5_sum_22 (by decide) ?_
    cases h
    subst hQ
    exact fm_iret hx hb hr hlk hst hH dX5_sum_23
  · replace h := mi_neg hc h
    refine lv_aload_n hx hb dX5_sum_13 rfl (lv_at hl 0 rfl) ?_
    refine fm_getf (T := TX5) (N := 17) hx hb hts (fun _ h => List.mem_cons_of_mem _ (List.mem_append_right _ h)) hown hst.1 hH 40 (by decide) rfl (fm_ob_40 _ _) rfl 5 (by decide) (List.mem_of_getElem? (i := 1) rfl) rfl rfl dX5_sum_14 ?_
    refine lv_iload_n hx hb dX5_sum_17 rfl (lv_at hl 1 rfl) ?_
    obtain ⟨hi1, h⟩ := mi_chk h
    refine fm_ild hx hb hst.1 hH 46 (by decide) rfl rfl hi1 dX5_sum_18 ?_
    refine lv_goto (tgt := 23) hx hb dX5_sum_19 (by decide) ?_
    cases h
    subst hQ
    exact fm_iret hx hb hr hlk hst hH dX5_sum_23
/-! RX5.weight(I)I -/
abbrev rmX5_weight : Room := { frames := 2, cells := 0, slots := 0, locals := 43 }
def mX5_weight (x1 : Int32) (σ : fm_S) : Option (Int32 × fm_S) :=
  mb1 (mX5_is x1 σ) fun r3 =>
  mb2 (mX5_goes r3 (1 : Int32) σ) fun r7 σ7 =>
  if r7 = 0 then
    some ((0 : Int32), σ7)
  else
    if (x1 < 0 ∨ 8 ≤ x1.toNatClampNeg) then none else
    some ((rI σ7 47 x1), σ7)
set_option maxHeartbeats 4000000 in
set_option maxRecDepth 100000 in
theorem kX5_weight (l : Launch) (K : fm_K) {x1 : Int32} {σ : fm_S} {r : Int32} {σ' : fm_S} (h : mX5_weight x1 σ = some (r, σ')) : fm_CI l yX5_weight wsX5_weight rmX5_weight K [.ref (K.2.2.2 40), .int x1] σ r σ' := by
  intro sz
  refine fm_start (Qc := fun sz => fm_QI K r σ' sz) (cc := cX5_weight) (maxL := 2) (ret := (some .int)) (by decide) rfl (Nat.le_of_ble_eq_true rfl) ?_
  intro p e s m args below meth c C hr hlk hst hH ls hl
  have C : CallFix p m c cX5_weight 2 s args wsX5_weight RX5 := C
  obtain ⟨hx, hb, hml, hown, hts⟩ := id C
  have hA : ∀ q, fm_A K s.heap.size q → fm_A K s.heap.size q := fun _ h => h
  have hl : lv_has ls 2 [(0, .ref (K.2.2.2 40)), (1, .int x1)] := hl
  generalize hQ : MQ below _ args s _ _ _ = Q
  rw [mX5_weight] at h
  refine lv_aload_n hx hb dX5_weight_0 rfl (lv_at hl 0 rfl) ?_
  refine lv_aload_n hx hb dX5_weight_1 rfl (lv_at hl 0 rfl) ?_
  refine lv_iload_n hx hb dX5_weight_2 rfl (lv_at hl 1 rfl) ?_
  obtain ⟨r3, h3, h⟩ := mi_b1 h
  refine fm_ci (va_runV (As := [.int x1]) (rest := [.ref (K.2.2.2 40)]) C (kX5_is l K h3 _) (cwV 1 hts gX5_weight_X5_is rfl rfl rfl (by decide +kernel) ⟨(Nat.le_of_ble_eq_true rfl), (Nat.le_of_ble_eq_true rfl)⟩) ⟨fm_blind, fm_recv hst hH (q := 40) (by decide) rfl (fm_ob_40 _ _) rfl, fm_pre hst hA hH⟩ rfl rfl hl.1 rfl (lv_room (Nat.le_of_ble_eq_true rfl)) dX5_weight_3 ⟨(Nat.le_of_ble_eq_true rfl), (Nat.le_of_ble_eq_true rfl)⟩) hA hH (fun H locs hH => ?_)
  refine lv_iconst (v := 1) hx hb dX5_weight_6 (by decide) ?_
  obtain ⟨r7, σ7, h7, h⟩ := mi_b2 h
  refine fm_ci (va_runV (As := [.int r3, .int (1 : Int32)]) (rest := []) C (kX5_goes l K h7 _) (cwV 2 hts gX5_weight_X5_goes rfl rfl rfl (by decide +kernel) ⟨(Nat.le_of_ble_eq_true rfl), (Nat.le_of_ble_eq_true rfl)⟩) ⟨fm_blind, fm_recv hst hH (q := 40) (by decide) rfl (fm_ob_40 _ _) rfl, fm_pre hst hA hH⟩ rfl rfl hl.1 rfl (lv_room (Nat.le_of_ble_eq_true rfl)) dX5_weight_7 ⟨(Nat.le_of_ble_eq_true rfl), (Nat.le_of_ble_eq_true rfl)⟩) hA hH (fun H locs hH => ?_)
  refine lv_if_eq (tgt := 22) hx hb dX5_weight_10 (by decide) (fun hc => ?_) (fun hc => ?_)
  · replace h := mi_pos hc h
    refine lv_iconst (v := 0) hx hb dX5_weight_22 (by decide) ?_
    cases h
    subst hQ
    exact fm_iret hx hb hr hlk hst hH dX5_weight_23
  · replace h := mi_neg hc h
    refine lv_aload_n hx hb dX5_weight_13 rfl (lv_at hl 0 rfl) ?_
    refine fm_getf (T := TX5) (N := 17) hx hb hts (fun _ h => List.mem_cons_of_mem _ (List.mem_append_right _ h)) hown hst.1 hH 40 (by decide) rfl (fm_ob_40 _ _) rfl 6 (by decide) (List.mem_of_getElem? (i := 1) rfl) rfl rfl dX5_weight_14 ?_
    refine lv_iload_n hx hb dX5_weight_17 rfl (lv_at hl 1 rfl) ?_
    obtain ⟨hi1, h⟩ := mi_chk h
    refine fm_ild hx hb hst.1 hH 47 (by decide) rfl rfl hi1 dX5_weight_18 ?_
    refine lv_goto (tgt := 23) hx hb dX5_weight_19 (by decide) ?_
    cases h
    subst hQ
    exact fm_iret hx hb hr hlk hst hH dX5_weight_23
/-! RX5.nextOf(I)I -/
abbrev rmX5_nextOf : Room := { frames := 2, cells := 0, slots := 0, locals := 47 }
def mX5_nextOf_L2 : Nat → Int32 → Int32 → fm_S → Option (Except Int32 (Unit))
  | 0, _, _, _ => none
  | n + 1, x1, x2, σ =>
    if (16 : Int32) < x2 then
      some (.ok ())
    else
      if (x1 < 0 ∨ 8 ≤ x1.toNatClampNeg) then none else
      if (σ.1 61 0) ≤ ((rI σ 48 x1) + x2) then
        mX5_nextOf_L2 n x1 (x2 + 1) σ
      else
        mb1 (mX5_linked x1 ((rI σ 48 x1) + x2) σ) fun r28 =>
        if r28 = 0 then
          mX5_nextOf_L2 n x1 (x2 + 1) σ
        else
          some (.error ((rI σ 48 x1) + x2))
set_option maxHeartbeats 4000000 in
set_option maxRecDepth 100000 in
theorem wX5_nextOf_L2 {p : Program} {l : Launch} {e : Env} {s : State} {m : MethodId} {args : Array Value} {below : List Frame} {meth : Method} {c : Code} {Q : State → Prop} {K : fm_K} (C : CallFix p m c cX5_nextOf 4 s args wsX5_nextOf RX5) (hst : fm_st K (fm_A K s.heap.size) s s.heap) :
    ∀ (n : Nat) (x1 : Int32) (x2 : Int32) (σ : fm_S) (x : Except Int32 (Unit)), mX5_nextOf_L2 n x1 x2 σ = some x → (x = .ok () → ∀ (ls : Array Slot) (H : Heap) (locs : List Loc), lv_has ls 4 [(0, .ref (K.2.2.2 40)), (1, .int x1)] → fm_H K σ (fm_A K s.heap.size) s H locs → W p l e rmX5_nextOf s m args below meth c H locs 0 0 Q (F0 m 42 ls [])) → (∀ (ve : Int32), x = .error ve → ∀ (pcR : Nat) (ls : Array Slot) (H : Heap) (locs : List Loc), decode cX5_nextOf pcR = .ok (.ireturn, 1) → fm_H K σ (fm_A K s.heap.size) s H locs → W p l e rmX5_nextOf s m args below meth c H locs 0 0 Q (F0 m pcR ls [.int ve])) → ∀ (ls : Array Slot) (H : Heap) (locs : List Loc), lv_has ls 4 [(0, .ref (K.2.2.2 40)), (1, .int x1), (2, .int x2)] → fm_H K σ (fm_A K s.heap.size) s H locs → W p l e rmX5_nextOf s m args below meth c H locs 0 0 Q (F0 m 2 ls []) := by
  obtain ⟨hx, hb, hml, hown, hts⟩ := id C
  have hA : ∀ q, fm_A K s.heap.size q → fm_A K s.heap.size q := fun _ h => h
  intro n
  induction n with
  | zero => intro x1 x2 σ x h; simp [mX5_nextOf_L2] at h
  | succ n ih =>
    intro x1 x2 σ x h kk kr ls H locs hl hH
    rw [mX5_nextOf_L2] at h
    refine lv_iload_n hx hb dX5_nextOf_2 rfl (lv_at hl 2 rfl) ?_
    refine lv_bipush (v := 16) hx hb dX5_nextOf_3 (by decide) ?_
    refine lv_icmp_gt (tgt := 42) hx hb dX5_nextOf_5 (by decide) (fun hc => ?_) (fun hc => ?_)
    · replace h := mi_pos hc h
      cases h
      exact kk rfl _ _ _ (lv_sub hl [0, 1] rfl) hH
    · replace h := mi_neg hc h
      refine lv_aload_n hx hb dX5_nextOf_8 rfl (lv_at hl 0 rfl) ?_
      refine fm_getf (T := TX5) (N := 17) hx hb hts (fun _ h => List.mem_cons_of_mem _ (List.mem_append_right _ h)) hown hst.1 hH 40 (by decide) rfl (fm_ob_40 _ _) rfl 7 (by decide) (List.mem_of_getElem? (i := 1) rfl) rfl rfl dX5_nextOf_9 ?_
      refine lv_iload_n hx hb dX5_nextOf_12 rfl (lv_at hl 1 rfl) ?_
      obtain ⟨hi1, h⟩ := mi_chk h
      refine fm_ild hx hb hst.1 hH 48 (by decide) rfl rfl hi1 dX5_nextOf_13 ?_
      refine lv_iload_n hx hb dX5_nextOf_14 rfl (lv_at hl 2 rfl) ?_
      refine lv_iadd hx hb dX5_nextOf_15 ?_
      refine lv_istore_n (lv' := [(3, .int ((rI σ 48 x1) + x2)), (0, .ref (K.2.2.2 40)), (1, .int x1), (2, .int x2)]) hx hb dX5_nextOf_16 rfl hl (by decide) rfl (fun ls hl => ?_)
      refine lv_iload_n hx hb dX5_nextOf_17 rfl (lv_at hl 0 rfl) ?_
      refine lv_aload_n hx hb dX5_nextOf_18 rfl (lv_at hl 1 rfl) ?_
      refine fm_getf (T := TX5) (N := 17) hx hb hts (fun _ h => List.mem_cons_of_mem _ (List.mem_append_right _ h)) hown hst.1 hH 40 (by decide) rfl (fm_ob_40 _ _) rfl 10 (by decide) (List.mem_of_getElem? (i := 2) rfl) rfl rfl dX5_nextOf_19 ?_
      refine lv_icmp_ge (tgt := 36) hx hb dX5_nextOf_22 (by decide) (fun hc => ?_) (fun hc => ?_)
      · replace h := mi_pos hc h
        refine lv_iinc (v := (x2 + 1)) (lv' := [(2, .int (x2 + 1)), (3, .int ((rI σ 48 x1) + x2)), (0, .ref (K.2.2.2 40)), (1, .int x1)]) hx hb dX5_nextOf_36 hl (k := 3) rfl rfl (by decide) rfl (fun ls hl => ?_)
        refine lv_goto (tgt := 2) hx hb dX5_nextOf_39 (by decide) ?_
        exact ih _ _ _ _ h kk kr _ _ _ (lv_sub hl [2, 3, 0] rfl) hH
      · replace h := mi_neg hc h
        refine lv_aload_n hx hb dX5_nextOf_25 rfl (lv_at hl 1 rfl) ?_
        refine lv_iload_n hx hb dX5_nextOf_26 rfl (lv_at hl 2 rfl) ?_
        refine lv_iload_n hx hb dX5_nextOf_27 rfl (lv_at hl 0 rfl) ?_
        obtain ⟨r28, h28, h⟩ := mi_b1 h
        refine fm_ci (va_runV (As := [.int x1, .int ((rI σ 48 x1) + x2)]) (rest := []) C (kX5_linked l K h28 _) (cwV 2 hts gX5_nextOf_X5_linked rfl rfl rfl (by decide +kernel) ⟨(Nat.le_of_ble_eq_true rfl), (Nat.le_of_ble_eq_true rfl)⟩) ⟨fm_blind, fm_recv hst hH (q := 40) (by decide) rfl (fm_ob_40 _ _) rfl, fm_pre hst hA hH⟩ rfl rfl hl.1 rfl (lv_room (Nat.le_of_ble_eq_true rfl)) dX5_nextOf_28 ⟨(Nat.le_of_ble_eq_true rfl), (Nat.le_of_ble_eq_true rfl)⟩) hA hH (fun H locs hH => ?_)
        refine lv_if_eq (tgt := 36) hx hb dX5_nextOf_31 (by decide) (fun hc => ?_) (fun hc => ?_)
        · replace h := mi_pos hc h
          refine lv_iinc (v := (x2 + 1)) (lv' := [(2, .int (x2 + 1)), (3, .int ((rI σ 48 x1) + x2)), (0, .ref (K.2.2.2 40)), (1, .int x1)]) hx hb dX5_nextOf_36 hl (k := 3) rfl rfl (by decide) rfl (fun ls hl => ?_)
          refine lv_goto (tgt := 2) hx hb dX5_nextOf_39 (by decide) ?_
          exact ih _ _ _ _ h kk kr _ _ _ (lv_sub hl [2, 3, 0] rfl) hH
        · replace h := mi_neg hc h
          refine lv_iload_n hx hb dX5_nextOf_34 rfl (lv_at hl 0 rfl) ?_
          cases h
          exact kr _ rfl _ _ _ _ dX5_nextOf_35 hH
def mX5_nextOf_L44 : Nat → Int32 → Int32 → fm_S → Option (Except Int32 (Unit))
  | 0, _, _, _ => none
  | n + 1, x1, x2, σ =>
    if (σ.1 61 0) ≤ x2 then
      some (.ok ())
    else
      mb1 (mX5_linked x1 x2 σ) fun r55 =>
      if r55 = 0 then
        mX5_nextOf_L44 n x1 (x2 + 1) σ
      else
        some (.error x2)
set_option maxHeartbeats 4000000 in
set_option maxRecDepth 100000 in
theorem wX5_nextOf_L44 {p : Program} {l : Launch} {e : Env} {s : State} {m : MethodId} {args : Array Value} {below : List Frame} {meth : Method} {c : Code} {Q : State → Prop} {K : fm_K} (C : CallFix p m c cX5_nextOf 4 s args wsX5_nextOf RX5) (hst : fm_st K (fm_A K s.heap.size) s s.heap) :
    ∀ (n : Nat) (x1 : Int32) (x2 : Int32) (σ : fm_S) (x : Except Int32 (Unit)), mX5_nextOf_L44 n x1 x2 σ = some x → (x = .ok () → ∀ (ls : Array Slot) (H : Heap) (locs : List Loc), lv_has ls 4 [] → fm_H K σ (fm_A K s.heap.size) s H locs → W p l e rmX5_nextOf s m args below meth c H locs 0 0 Q (F0 m 69 ls [])) → (∀ (ve : Int32), x = .error ve → ∀ (pcR : Nat) (ls : Array Slot) (H : Heap) (locs : List Loc), decode cX5_nextOf pcR = .ok (.ireturn, 1) → fm_H K σ (fm_A K s.heap.size) s H locs → W p l e rmX5_nextOf s m args below meth c H locs 0 0 Q (F0 m pcR ls [.int ve])) → ∀ (ls : Array Slot) (H : Heap) (locs : List Loc), lv_has ls 4 [(0, .ref (K.2.2.2 40)), (1, .int x1), (2, .int x2)] → fm_H K σ (fm_A K s.heap.size) s H locs → W p l e rmX5_nextOf s m args below meth c H locs 0 0 Q (F0 m 44 ls []) := by
  obtain ⟨hx, hb, hml, hown, hts⟩ := id C
  have hA : ∀ q, fm_A K s.heap.size q → fm_A K s.heap.size q := fun _ h => h
  intro n
  induction n with
  | zero => intro x1 x2 σ x h; simp [mX5_nextOf_L44] at h
  | succ n ih =>
    intro x1 x2 σ x h kk kr ls H locs hl hH
    rw [mX5_nextOf_L44] at h
    refine lv_iload_n hx hb dX5_nextOf_44 rfl (lv_at hl 2 rfl) ?_
    refine lv_aload_n hx hb dX5_nextOf_45 rfl (lv_at hl 0 rfl) ?_
    refine fm_getf (T := TX5) (N := 17) hx hb hts (fun _ h => List.mem_cons_of_mem _ (List.mem_append_right _ h)) hown hst.1 hH 40 (by decide) rfl (fm_ob_40 _ _) rfl 10 (by decide) (List.mem_of_getElem? (i := 2) rfl) rfl rfl dX5_nextOf_46 ?_
    refine lv_icmp_ge (tgt := 69) hx hb dX5_nextOf_49 (by decide) (fun hc => ?_) (fun hc => ?_)
    · replace h := mi_pos hc h
      cases h
      exact kk rfl _ _ _ (lv_sub hl [] rfl) hH
    · replace h := mi_neg hc h
      refine lv_aload_n hx hb dX5_nextOf_52 rfl (lv_at hl 0 rfl) ?_
      refine lv_iload_n hx hb dX5_nextOf_53 rfl (lv_at hl 1 rfl) ?_
      refine lv_iload_n hx hb dX5_nextOf_54 rfl (lv_at hl 2 rfl) ?_
      obtain ⟨r55, h55, h⟩ := mi_b1 h
      refine fm_ci (va_runV (As := [.int x1, .int x2]) (rest := []) C (kX5_linked l K h55 _) (cwV 2 hts gX5_nextOf_X5_linked rfl rfl rfl (by decide +kernel) ⟨(Nat.le_of_ble_eq_true rfl), (Nat.le_of_ble_eq_true rfl)⟩) ⟨fm_blind, fm_recv hst hH (q := 40) (by decide) rfl (fm_ob_40 _ _) rfl, fm_pre hst hA hH⟩ rfl rfl hl.1 rfl (lv_room (Nat.le_of_ble_eq_true rfl)) dX5_nextOf_55 ⟨(Nat.le_of_ble_eq_true rfl), (Nat.le_of_ble_eq_true rfl)⟩) hA hH (fun H locs hH => ?_)
      refine lv_if_eq (tgt := 63) hx hb dX5_nextOf_58 (by decide) (fun hc => ?_) (fun hc => ?_)
      · replace h := mi_pos hc h
        refine lv_iinc (v := (x2 + 1)) (lv' := [(2, .int (x2 + 1)), (0, .ref (K.2.2.2 40)), (1, .int x1)]) hx hb dX5_nextOf_63 hl (k := 2) rfl rfl (by decide) rfl (fun ls hl => ?_)
        refine lv_goto (tgt := 44) hx hb dX5_nextOf_66 (by decide) ?_
        exact ih _ _ _ _ h kk kr _ _ _ (lv_sub hl [1, 2, 0] rfl) hH
      · replace h := mi_neg hc h
        refine lv_iload_n hx hb dX5_nextOf_61 rfl (lv_at hl 2 rfl) ?_
        cases h
        exact kr _ rfl _ _ _ _ dX5_nextOf_62 hH
def mX5_nextOf (x1 : Int32) (σ : fm_S) : Option Int32 :=
  ml1 (mX5_nextOf_L2 fF x1 (1 : Int32) σ) (fun _ =>
    ml1 (mX5_nextOf_L44 fF x1 (0 : Int32) σ) (fun _ =>
      some (-1 : Int32)) (fun e => some e)) (fun e => some e)
set_option maxHeartbeats 4000000 in
set_option maxRecDepth 100000 in
theorem kX5_nextOf (l : Launch) (K : fm_K) {x1 : Int32} {σ : fm_S} {r : Int32} (h : mX5_nextOf x1 σ = some r) : fm_CI l yX5_nextOf wsX5_nextOf rmX5_nextOf K [.ref (K.2.2.2 40), .int x1] σ r σ := by
  intro sz
  refine fm_start (Qc := fun sz => fm_QI K r σ sz) (cc := cX5_nextOf) (maxL := 4) (ret := (some .int)) (by decide) rfl (Nat.le_of_ble_eq_true rfl) ?_
  intro p e s m args below meth c C hr hlk hst hH ls hl
  have C : CallFix p m c cX5_nextOf 4 s args wsX5_nextOf RX5 := C
  obtain ⟨hx, hb, hml, hown, hts⟩ := id C
  have hA : ∀ q, fm_A K s.heap.size q → fm_A K s.heap.size q := fun _ h => h
  have hl : lv_has ls 4 [(0, .ref (K.2.2.2 40)), (1, .int x1)] := hl
  generalize hQ : MQ below _ args s _ _ _ = Q
  rw [mX5_nextOf] at h
  refine lv_iconst (v := 1) hx hb dX5_nextOf_0 (by decide) ?_
  refine lv_istore_n (lv' := [(2, .int (1 : Int32)), (0, .ref (K.2.2.2 40)), (1, .int x1)]) hx hb dX5_nextOf_1 rfl hl (by decide) rfl (fun ls hl => ?_)
  obtain ⟨x2_, h2, hok, her⟩ := mi_l1 h
  refine wX5_nextOf_L2 C hst _ _ _ _ _ h2 (fun hx1 ls H locs hl hH => ?_) (fun ve hx1 pcR ls H locs hdg hH => ?_) _ _ _ (lv_sub hl [1, 2, 0] rfl) hH
  · replace h := hok _ hx1
    clear hok her
    refine lv_iconst (v := 0) hx hb dX5_nextOf_42 (by decide) ?_
    refine lv_istore_n (lv' := [(2, .int (0 : Int32)), (0, .ref (K.2.2.2 40)), (1, .int x1)]) hx hb dX5_nextOf_43 rfl hl (by decide) rfl (fun ls hl => ?_)
    obtain ⟨x44_, h44, hok, her⟩ := mi_l1 h
    refine wX5_nextOf_L44 C hst _ _ _ _ _ h44 (fun hx1 ls H locs hl hH => ?_) (fun ve hx1 pcR ls H locs hdg hH => ?_) _ _ _ (lv_sub hl [1, 2, 0] rfl) hH
    · replace h := hok _ hx1
      clear hok her
      refine lv_iconst (v := -1) hx hb dX5_nextOf_69 (by decide) ?_
      cases h
      subst hQ
      exact fm_iret hx hb hr hlk hst hH dX5_nextOf_70
    · replace h := her _ hx1
      cases h
      subst hQ
      exact fm_iret hx hb hr hlk hst hH hdg
  · replace h := her _ hx1
    cases h
    subst hQ
    exact fm_iret hx hb hr hlk hst hH hdg
/-! RX5.spreads()I -/
abbrev rmX5_spreads : Room := { frames := 3, cells := 0, slots := 0, locals := 70 }
def mX5_spreads_L4 : Nat → Int32 → fm_S → Option (fm_S)
  | 0, _, _ => none
  | n + 1, x2, σ =>
    if (σ.1 61 0) ≤ x2 then
      some σ
    else
      if (x2 < 0 ∨ 8 ≤ x2.toNatClampNeg) then none else
      mX5_spreads_L4 n (x2 + 1) (sI (sI σ 51 x2 (0 : Int32)) 52 x2 (0 : Int32))
set_option maxHeartbeats 4000000 in
set_option maxRecDepth 100000 in
theorem wX5_spreads_L4 {p : Program} {l : Launch} {e : Env} {s : State} {m : MethodId} {args : Array Value} {below : List Frame} {meth : Method} {c : Code} {Q : State → Prop} {K : fm_K} (C : CallFix p m c cX5_spreads 4 s args wsX5_spreads RX5) (hst : fm_st K (fm_A K s.heap.size) s s.heap) :
    ∀ (n : Nat) (x2 : Int32) (σ : fm_S) (σo : fm_S), mX5_spreads_L4 n x2 σ = some σo → ∀ (x1 : Int32), (∀ (ls : Array Slot) (H : Heap) (locs : List Loc), lv_has ls 4 [(0, .ref (K.2.2.2 40)), (1, .int x1)] → fm_H K σo (fm_A K s.heap.size) s H locs → W p l e rmX5_spreads s m args below meth c H locs 0 0 Q (F0 m 32 ls [])) → ∀ (ls : Array Slot) (H : Heap) (locs : List Loc), lv_has ls 4 [(0, .ref (K.2.2.2 40)), (1, .int x1), (2, .int x2)] → fm_H K σ (fm_A K s.heap.size) s H locs → W p l e rmX5_spreads s m args below meth c H locs 0 0 Q (F0 m 4 ls []) := by
  obtain ⟨hx, hb, hml, hown, hts⟩ := id C
  have hA : ∀ q, fm_A K s.heap.size q → fm_A K s.heap.size q := fun _ h => h
  intro n
  induction n with
  | zero => intro x2 σ σo h; simp [mX5_spreads_L4] at h
  | succ n ih =>
    intro x2 σ σo h x1 kk ls H locs hl hH
    rw [mX5_spreads_L4] at h
    refine lv_iload_n hx hb dX5_spreads_4 rfl (lv_at hl 2 rfl) ?_
    refine lv_aload_n hx hb dX5_spreads_5 rfl (lv_at hl 0 rfl) ?_
    refine fm_getf (T := TX5) (N := 17) hx hb hts (fun _ h => List.mem_cons_of_mem _ (List.mem_append_right _ h)) hown hst.1 hH 40 (by decide) rfl (fm_ob_40 _ _) rfl 10 (by decide) (List.mem_of_getElem? (i := 1) rfl) rfl rfl dX5_spreads_6 ?_
    refine lv_icmp_ge (tgt := 32) hx hb dX5_spreads_9 (by decide) (fun hc => ?_) (fun hc => ?_)
    · replace h := mi_pos hc h
      cases h
      exact kk _ _ _ (lv_sub hl [0, 1] rfl) hH
    · replace h := mi_neg hc h
      refine lv_aload_n hx hb dX5_spreads_12 rfl (lv_at hl 0 rfl) ?_
      refine fm_getf (T := TX5) (N := 17) hx hb hts (fun _ h => List.mem_cons_of_mem _ (List.mem_append_right _ h)) hown hst.1 hH 40 (by decide) rfl (fm_ob_40 _ _) rfl 12 (by decide) (List.mem_of_getElem? (i := 2) rfl) rfl rfl dX5_spreads_13 ?_
      refine lv_iload_n hx hb dX5_spreads_16 rfl (lv_at hl 2 rfl) ?_
      refine lv_iconst (v := 0) hx hb dX5_spreads_17 (by decide) ?_
      obtain ⟨hi1, h⟩ := mi_chk h
      refine fm_ist hx hb hst.1 hH 51 (by decide) rfl rfl hi1 dX5_spreads_18 (fun H locs hH => ?_)
      refine lv_aload_n hx hb dX5_spreads_19 rfl (lv_at hl 0 rfl) ?_
      refine fm_getf (T := TX5) (N := 17) hx hb hts (fun _ h => List.mem_cons_of_mem _ (List.mem_append_right _ h)) hown hst.1 hH 40 (by decide) rfl (fm_ob_40 _ _) rfl 13 (by decide) (List.mem_of_getElem? (i := 3) rfl) rfl rfl dX5_spreads_20 ?_
      refine lv_iload_n hx hb dX5_spreads_23 rfl (lv_at hl 2 rfl) ?_
      refine lv_iconst (v := 0) hx hb dX5_spreads_24 (by decide) ?_
      refine fm_ist hx hb hst.1 hH 52 (by decide) rfl rfl hi1 dX5_spreads_25 (fun H locs hH => ?_)
      refine lv_iinc (v := (x2 + 1)) (lv' := [(2, .int (x2 + 1)), (0, .ref (K.2.2.2 40)), (1, .int x1)]) hx hb dX5_spreads_26 hl (k := 2) rfl rfl (by decide) rfl (fun ls hl => ?_)
      refine lv_goto (tgt := 4) hx hb dX5_spreads_29 (by decide) ?_
      exact ih _ _ _ h _ kk _ _ _ (lv_sub hl [1, 2, 0] rfl) hH
def mX5_spreads_L34 : Nat → Int32 → Int32 → fm_S → Option (Int32 × fm_S)
  | 0, _, _, _ => none
  | n + 1, x1, x2, σ =>
    if (σ.1 61 0) ≤ x2 then
      some (x1, σ)
    else
      mb1 (mX5_nextOf x2 σ) fun r44 =>
      if r44 < 0 then
        mX5_spreads_L34 n x1 (x2 + 1) σ
      else
        if (x2 < 0 ∨ 8 ≤ x2.toNatClampNeg) then none else
        if (r44 < 0 ∨ 8 ≤ r44.toNatClampNeg) then none else
        mX5_spreads_L34 n (x1 + 1) (x2 + 1) (sI (sI (sI (sI (sI σ 51 x2 ((rI σ 51 x2) - ((rI σ 46 x2) / (2 : Int32)))) 51 r44 ((rI (sI σ 51 x2 ((rI σ 51 x2) - ((rI σ 46 x2) / (2 : Int32)))) 51 r44) + ((rI (sI σ 51 x2 ((rI σ 51 x2) - ((rI σ 46 x2) / (2 : Int32)))) 46 x2) / (2 : Int32)))) 52 x2 ((rI (sI (sI σ 51 x2 ((rI σ 51 x2) - ((rI σ 46 x2) / (2 : Int32)))) 51 r44 ((rI (sI σ 51 x2 ((rI σ 51 x2) - ((rI σ 46 x2) / (2 : Int32)))) 51 r44) + ((rI (sI σ 51 x2 ((rI σ 51 x2) - ((rI σ 46 x2) / (2 : Int32)))) 46 x2) / (2 : Int32)))) 52 x2) - ((rI (sI (sI σ 51 x2 ((rI σ 51 x2) - ((rI σ 46 x2) / (2 : Int32)))) 51 r44 ((rI (sI σ 51 x2 ((rI σ 51 x2) - ((rI σ 46 x2) / (2 : Int32)))) 51 r44) + ((rI (sI σ 51 x2 ((rI σ 51 x2) - ((rI σ 46 x2) / (2 : Int32)))) 46 x2) / (2 : Int32)))) 47 x2) / (2 : Int32)))) 52 r44 ((rI (sI (sI (sI σ 51 x2 ((rI σ 51 x2) - ((rI σ 46 x2) / (2 : Int32)))) 51 r44 ((rI (sI σ 51 x2 ((rI σ 51 x2) - ((rI σ 46 x2) / (2 : Int32)))) 51 r44) + ((rI (sI σ 51 x2 ((rI σ 51 x2) - ((rI σ 46 x2) / (2 : Int32)))) 46 x2) / (2 : Int32)))) 52 x2 ((rI (sI (sI σ 51 x2 ((rI σ 51 x2) - ((rI σ 46 x2) / (2 : Int32)))) 51 r44 ((rI (sI σ 51 x2 ((rI σ 51 x2) - ((rI σ 46 x2) / (2 : Int32)))) 51 r44) + ((rI (sI σ 51 x2 ((rI σ 51 x2) - ((rI σ 46 x2) / (2 : Int32)))) 46 x2) / (2 : Int32)))) 52 x2) - ((rI (sI (sI σ 51 x2 ((rI σ 51 x2) - ((rI σ 46 x2) / (2 : Int32)))) 51 r44 ((rI (sI σ 51 x2 ((rI σ 51 x2) - ((rI σ 46 x2) / (2 : Int32)))) 51 r44) + ((rI (sI σ 51 x2 ((rI σ 51 x2) - ((rI σ 46 x2) / (2 : Int32)))) 46 x2) / (2 : Int32)))) 47 x2) / (2 : Int32)))) 52 r44) + ((rI (sI (sI (sI σ 51 x2 ((rI σ 51 x2) - ((rI σ 46 x2) / (2 : Int32)))) 51 r44 ((rI (sI σ 51 x2 ((rI σ 51 x2) - ((rI σ 46 x2) / (2 : Int32)))) 51 r44) + ((rI (sI σ 51 x2 ((rI σ 51 x2) - ((rI σ 46 x2) / (2 : Int32)))) 46 x2) / (2 : Int32)))) 52 x2 ((rI (sI (sI σ 51 x2 ((rI σ 51 x2) - ((rI σ 46 x2) / (2 : Int32)))) 51 r44 ((rI (sI σ 51 x2 ((rI σ 51 x2) - ((rI σ 46 x2) / (2 : Int32)))) 51 r44) + ((rI (sI σ 51 x2 ((rI σ 51 x2) - ((rI σ 46 x2) / (2 : Int32)))) 46 x2) / (2 : Int32)))) 52 x2) - ((rI (sI (sI σ 51 x2 ((rI σ 51 x2) - ((rI σ 46 x2) / (2 : Int32)))) 51 r44 ((rI (sI σ 51 x2 ((rI σ 51 x2) - ((rI σ 46 x2) / (2 : Int32)))) 51 r44) + ((rI (sI σ 51 x2 ((rI σ 51 x2) - ((rI σ 46 x2) / (2 : Int32)))) 46 x2) / (2 : Int32)))) 47 x2) / (2 : Int32)))) 47 x2) / (2 : Int32)))) 48 x2 r44)
set_option maxHeartbeats 4000000 in
set_option maxRecDepth 100000 in
theorem wX5_spreads_L34 {p : Program} {l : Launch} {e : Env} {s : State} {m : MethodId} {args : Array Value} {below : List Frame} {meth : Method} {c : Code} {Q : State → Prop} {K : fm_K} (C : CallFix p m c cX5_spreads 4 s args wsX5_spreads RX5) (hst : fm_st K (fm_A K s.heap.size) s s.heap) :
    ∀ (n : Nat) (x1 : Int32) (x2 : Int32) (σ : fm_S) (o1 : Int32) (σo : fm_S), mX5_spreads_L34 n x1 x2 σ = some (o1, σo) → (∀ (ls : Array Slot) (H : Heap) (locs : List Loc), lv_has ls 4 [(0, .ref (K.2.2.2 40)), (1, .int o1)] → fm_H K σo (fm_A K s.heap.size) s H locs → W p l e rmX5_spreads s m args below meth c H locs 0 0 Q (F0 m 136 ls [])) → ∀ (ls : Array Slot) (H : Heap) (locs : List Loc), lv_has ls 4 [(0, .ref (K.2.2.2 40)), (1, .int x1), (2, .int x2)] → fm_H K σ (fm_A K s.heap.size) s H locs → W p l e rmX5_spreads s m args below meth c H locs 0 0 Q (F0 m 34 ls []) := by
  obtain ⟨hx, hb, hml, hown, hts⟩ := id C
  have hA : ∀ q, fm_A K s.heap.size q → fm_A K s.heap.size q := fun _ h => h
  intro n
  induction n with
  | zero => intro x1 x2 σ o1 σo h; simp [mX5_spreads_L34] at h
  | succ n ih =>
    intro x1 x2 σ o1 σo h kk ls H locs hl hH
    rw [mX5_spreads_L34] at h
    refine lv_iload_n hx hb dX5_spreads_34 rfl (lv_at hl 2 rfl) ?_
    refine lv_aload_n hx hb dX5_spreads_35 rfl (lv_at hl 0 rfl) ?_
    refine fm_getf (T := TX5) (N := 17) hx hb hts (fun _ h => List.mem_cons_of_mem _ (List.mem_append_right _ h)) hown hst.1 hH 40 (by decide) rfl (fm_ob_40 _ _) rfl 10 (by decide) (List.mem_of_getElem? (i := 1) rfl) rfl rfl dX5_spreads_36 ?_
    refine lv_icmp_ge (tgt := 136) hx hb dX5_spreads_39 (by decide) (fun hc => ?_) (fun hc => ?_)
    · replace h := mi_pos hc h
      cases h
      exact kk _ _ _ (lv_sub hl [0, 1] rfl) hH
    · replace h := mi_neg hc h
      refine lv_aload_n hx hb dX5_spreads_42 rfl (lv_at hl 0 rfl) ?_
      refine lv_iload_n hx hb dX5_spreads_43 rfl (lv_at hl 2 rfl) ?_
      obtain ⟨r44, h44, h⟩ := mi_b1 h
      refine fm_ci (va_runV (As := [.int x2]) (rest := []) C (kX5_nextOf l K h44 _) (cwV 1 hts gX5_spreads_X5_nextOf rfl rfl rfl (by decide +kernel) ⟨(Nat.le_of_ble_eq_true rfl), (Nat.le_of_ble_eq_true rfl)⟩) ⟨fm_blind, fm_recv hst hH (q := 40) (by decide) rfl (fm_ob_40 _ _) rfl, fm_pre hst hA hH⟩ rfl rfl hl.1 rfl (lv_room (Nat.le_of_ble_eq_true rfl)) dX5_spreads_44 ⟨(Nat.le_of_ble_eq_true rfl), (Nat.le_of_ble_eq_true rfl)⟩) hA hH (fun H locs hH => ?_)
      refine lv_istore_n (lv' := [(3, .int r44), (0, .ref (K.2.2.2 40)), (1, .int x1), (2, .int x2)]) hx hb dX5_spreads_47 rfl hl (by decide) rfl (fun ls hl => ?_)
      refine lv_iload_n hx hb dX5_spreads_48 rfl (lv_at hl 0 rfl) ?_
      refine lv_if_lt (tgt := 130) hx hb dX5_spreads_49 (by decide) (fun hc => ?_) (fun hc => ?_)
      · replace h := mi_pos hc h
        refine lv_iinc (v := (x2 + 1)) (lv' := [(2, .int (x2 + 1)), (3, .int r44), (0, .ref (K.2.2.2 40)), (1, .int x1)]) hx hb dX5_spreads_130 hl (k := 3) rfl rfl (by decide) rfl (fun ls hl => ?_)
        refine lv_goto (tgt := 34) hx hb dX5_spreads_133 (by decide) ?_
        exact ih _ _ _ _ _ h kk _ _ _ (lv_sub hl [2, 3, 0] rfl) hH
      · replace h := mi_neg hc h
        refine lv_aload_n hx hb dX5_spreads_52 rfl (lv_at hl 1 rfl) ?_
        refine fm_getf (T := TX5) (N := 17) hx hb hts (fun _ h => List.mem_cons_of_mem _ (List.mem_append_right _ h)) hown hst.1 hH 40 (by decide) rfl (fm_ob_40 _ _) rfl 12 (by decide) (List.mem_of_getElem? (i := 2) rfl) rfl rfl dX5_spreads_53 ?_
        refine lv_iload_n hx hb dX5_spreads_56 rfl (lv_at hl 3 rfl) ?_
        refine lv_dup2_11 hx hb dX5_spreads_57 rfl rfl ?_
        obtain ⟨hi2, h⟩ := mi_chk h
        refine fm_ild hx hb hst.1 hH 51 (by decide) rfl rfl hi2 dX5_spreads_58 ?_
        refine lv_aload_n hx hb dX5_spreads_59 rfl (lv_at hl 1 rfl) ?_
        refine fm_getf (T := TX5) (N := 17) hx hb hts (fun _ h => List.mem_cons_of_mem _ (List.mem_append_right _ h)) hown hst.1 hH 40 (by decide) rfl (fm_ob_40 _ _) rfl 5 (by decide) (List.mem_of_getElem? (i := 4) rfl) rfl rfl dX5_spreads_60 ?_
        refine lv_iload_n hx hb dX5_spreads_63 rfl (lv_at hl 3 rfl) ?_
        refine fm_ild hx hb hst.1 hH 46 (by decide) rfl rfl hi2 dX5_spreads_64 ?_
        refine lv_iconst (v := 2) hx hb dX5_spreads_65 (by decide) ?_
        refine lv_idiv hx hb dX5_spreads_66 (by decide) ?_
        refine lv_isub hx hb dX5_spreads_67 ?_
        refine fm_ist hx hb hst.1 hH 51 (by decide) rfl rfl hi2 dX5_spreads_68 (fun H locs hH => ?_)
        refine lv_aload_n hx hb dX5_spreads_69 rfl (lv_at hl 1 rfl) ?_
        refine fm_getf (T := TX5) (N := 17) hx hb hts (fun _ h => List.mem_cons_of_mem _ (List.mem_append_right _ h)) hown hst.1 hH 40 (by decide) rfl (fm_ob_40 _ _) rfl 12 (by decide) (List.mem_of_getElem? (i := 2) rfl) rfl rfl dX5_spreads_70 ?_
        refine lv_iload_n hx hb dX5_spreads_73 rfl (lv_at hl 0 rfl) ?_
        refine lv_dup2_11 hx hb dX5_spreads_74 rfl rfl ?_
        obtain ⟨hi3, h⟩ := mi_chk h
        refine fm_ild hx hb hst.1 hH 51 (by decide) rfl rfl hi3 dX5_spreads_75 ?_
        refine lv_aload_n hx hb dX5_spreads_76 rfl (lv_at hl 1 rfl) ?_
        refine fm_getf (T := TX5) (N := 17) hx hb hts (fun _ h => List.mem_cons_of_mem _ (List.mem_append_right _ h)) hown hst.1 hH 40 (by decide) rfl (fm_ob_40 _ _) rfl 5 (by decide) (List.mem_of_getElem? (i := 4) rfl) rfl rfl dX5_spreads_77 ?_
        refine lv_iload_n hx hb dX5_spreads_80 rfl (lv_at hl 3 rfl) ?_
        refine fm_ild hx hb hst.1 hH 46 (by decide) rfl rfl hi2 dX5_spreads_81 ?_
        refine lv_iconst (v := 2) hx hb dX5_spreads_82 (by decide) ?_
        refine lv_idiv hx hb dX5_spreads_83 (by decide) ?_
        refine lv_iadd hx hb dX5_spreads_84 ?_
        refine fm_ist hx hb hst.1 hH 51 (by decide) rfl rfl hi3 dX5_spreads_85 (fun H locs hH => ?_)
        refine lv_aload_n hx hb dX5_spreads_86 rfl (lv_at hl 1 rfl) ?_
        refine fm_getf (T := TX5) (N := 17) hx hb hts (fun _ h => List.mem_cons_of_mem _ (List.mem_append_right _ h)) hown hst.1 hH 40 (by decide) rfl (fm_ob_40 _ _) rfl 13 (by decide) (List.mem_of_getElem? (i := 3) rfl) rfl rfl dX5_spreads_87 ?_
        refine lv_iload_n hx hb dX5_spreads_90 rfl (lv_at hl 3 rfl) ?_
        refine lv_dup2_11 hx hb dX5_spreads_91 rfl rfl ?_
        refine fm_ild hx hb hst.1 hH 52 (by decide) rfl rfl hi2 dX5_spreads_92 ?_
        refine lv_aload_n hx hb dX5_spreads_93 rfl (lv_at hl 1 rfl) ?_
        refine fm_getf (T := TX5) (N := 17) hx hb hts (fun _ h => List.mem_cons_of_mem _ (List.mem_append_right _ h)) hown hst.1 hH 40 (by decide) rfl (fm_ob_40 _ _) rfl 6 (by decide) (List.mem_of_getElem? (i := 5) rfl) rfl rfl dX5_spreads_94 ?_
        refine lv_iload_n hx hb dX5_spreads_97 rfl (lv_at hl 3 rfl) ?_
        refine fm_ild hx hb hst.1 hH 47 (by decide) rfl rfl hi2 dX5_spreads_98 ?_
        refine lv_iconst (v := 2) hx hb dX5_spreads_99 (by decide) ?_
        refine lv_idiv hx hb dX5_spreads_100 (by decide) ?_
        refine lv_isub hx hb dX5_spreads_101 ?_
        refine fm_ist hx hb hst.1 hH 52 (by decide) rfl rfl hi2 dX5_spreads_102 (fun H locs hH => ?_)
        refine lv_aload_n hx hb dX5_spreads_103 rfl (lv_at hl 1 rfl) ?_
        refine fm_getf (T := TX5) (N := 17) hx hb hts (fun _ h => List.mem_cons_of_mem _ (List.mem_append_right _ h)) hown hst.1 hH 40 (by decide) rfl (fm_ob_40 _ _) rfl 13 (by decide) (List.mem_of_getElem? (i := 3) rfl) rfl rfl dX5_spreads_104 ?_
        refine lv_iload_n hx hb dX5_spreads_107 rfl (lv_at hl 0 rfl) ?_
        refine lv_dup2_11 hx hb dX5_spreads_108 rfl rfl ?_
        refine fm_ild hx hb hst.1 hH 52 (by decide) rfl rfl hi3 dX5_spreads_109 ?_
        refine lv_aload_n hx hb dX5_spreads_110 rfl (lv_at hl 1 rfl) ?_
        refine fm_getf (T := TX5) (N := 17) hx hb hts (fun _ h => List.mem_cons_of_mem _ (List.mem_append_right _ h)) hown hst.1 hH 40 (by decide) rfl (fm_ob_40 _ _) rfl 6 (by decide) (List.mem_of_getElem? (i := 5) rfl) rfl rfl dX5_spreads_111 ?_
        refine lv_iload_n hx hb dX5_spreads_114 rfl (lv_at hl 3 rfl) ?_
        refine fm_ild hx hb hst.1 hH 47 (by decide) rfl rfl hi2 dX5_spreads_115 ?_
        refine lv_iconst (v := 2) hx hb dX5_spreads_116 (by decide) ?_
        refine lv_idiv hx hb dX5_spreads_117 (by decide) ?_
        refine lv_iadd hx hb dX5_spreads_118 ?_
        refine fm_ist hx hb hst.1 hH 52 (by decide) rfl rfl hi3 dX5_spreads_119 (fun H locs hH => ?_)
        refine lv_aload_n hx hb dX5_spreads_120 rfl (lv_at hl 1 rfl) ?_
        refine fm_getf (T := TX5) (N := 17) hx hb hts (fun _ h => List.mem_cons_of_mem _ (List.mem_append_right _ h)) hown hst.1 hH 40 (by decide) rfl (fm_ob_40 _ _) rfl 7 (by decide) (List.mem_of_getElem? (i := 6) rfl) rfl rfl dX5_spreads_121 ?_
        refine lv_iload_n hx hb dX5_spreads_124 rfl (lv_at hl 3 rfl) ?_
        refine lv_iload_n hx hb dX5_spreads_125 rfl (lv_at hl 0 rfl) ?_
        refine fm_ist hx hb hst.1 hH 48 (by decide) rfl rfl hi2 dX5_spreads_126 (fun H locs hH => ?_)
        refine lv_iinc (v := (x1 + 1)) (lv' := [(1, .int (x1 + 1)), (3, .int r44), (0, .ref (K.2.2.2 40)), (2, .int x2)]) hx hb dX5_spreads_127 hl (k := 2) rfl rfl (by decide) rfl (fun ls hl => ?_)
        refine lv_iinc (v := (x2 + 1)) (lv' := [(2, .int (x2 + 1)), (1, .int (x1 + 1)), (3, .int r44), (0, .ref (K.2.2.2 40))]) hx hb dX5_spreads_130 hl (k := 3) rfl rfl (by decide) rfl (fun ls hl => ?_)
        refine lv_goto (tgt := 34) hx hb dX5_spreads_133 (by decide) ?_
        exact ih _ _ _ _ _ h kk _ _ _ (lv_sub hl [3, 1, 0] rfl) hH
def mX5_spreads_L138 : Nat → Int32 → fm_S → Option (fm_S)
  | 0, _, _ => none
  | n + 1, x2, σ =>
    if (σ.1 61 0) ≤ x2 then
      some σ
    else
      if (x2 < 0 ∨ 8 ≤ x2.toNatClampNeg) then none else
      mX5_spreads_L138 n (x2 + 1) (sI (sI σ 46 x2 ((rI σ 46 x2) + (rI σ 51 x2))) 47 x2 ((rI (sI σ 46 x2 ((rI σ 46 x2) + (rI σ 51 x2))) 47 x2) + (rI (sI σ 46 x2 ((rI σ 46 x2) + (rI σ 51 x2))) 52 x2)))
set_option maxHeartbeats 4000000 in
set_option maxRecDepth 100000 in
theorem wX5_spreads_L138 {p : Program} {l : Launch} {e : Env} {s : State} {m : MethodId} {args : Array Value} {below : List Frame} {meth : Method} {c : Code} {Q : State → Prop} {K : fm_K} (C : CallFix p m c cX5_spreads 4 s args wsX5_spreads RX5) (hst : fm_st K (fm_A K s.heap.size) s s.heap) :
    ∀ (n : Nat) (x2 : Int32) (σ : fm_S) (σo : fm_S), mX5_spreads_L138 n x2 σ = some σo → ∀ (x1 : Int32), (∀ (ls : Array Slot) (H : Heap) (locs : List Loc), lv_has ls 4 [(1, .int x1)] → fm_H K σo (fm_A K s.heap.size) s H locs → W p l e rmX5_spreads s m args below meth c H locs 0 0 Q (F0 m 182 ls [])) → ∀ (ls : Array Slot) (H : Heap) (locs : List Loc), lv_has ls 4 [(0, .ref (K.2.2.2 40)), (1, .int x1), (2, .int x2)] → fm_H K σ (fm_A K s.heap.size) s H locs → W p l e rmX5_spreads s m args below meth c H locs 0 0 Q (F0 m 138 ls []) := by
  obtain ⟨hx, hb, hml, hown, hts⟩ := id C
  have hA : ∀ q, fm_A K s.heap.size q → fm_A K s.heap.size q := fun _ h => h
  intro n
  induction n with
  | zero => intro x2 σ σo h; simp [mX5_spreads_L138] at h
  | succ n ih =>
    intro x2 σ σo h x1 kk ls H locs hl hH
    rw [mX5_spreads_L138] at h
    refine lv_iload_n hx hb dX5_spreads_138 rfl (lv_at hl 2 rfl) ?_
    refine lv_aload_n hx hb dX5_spreads_139 rfl (lv_at hl 0 rfl) ?_
    refine fm_getf (T := TX5) (N := 17) hx hb hts (fun _ h => List.mem_cons_of_mem _ (List.mem_append_right _ h)) hown hst.1 hH 40 (by decide) rfl (fm_ob_40 _ _) rfl 10 (by decide) (List.mem_of_getElem? (i := 1) rfl) rfl rfl dX5_spreads_140 ?_
    refine lv_icmp_ge (tgt := 182) hx hb dX5_spreads_143 (by decide) (fun hc => ?_) (fun hc => ?_)
    · replace h := mi_pos hc h
      cases h
      exact kk _ _ _ (lv_sub hl [1] rfl) hH
    · replace h := mi_neg hc h
      refine lv_aload_n hx hb dX5_spreads_146 rfl (lv_at hl 0 rfl) ?_
      refine fm_getf (T := TX5) (N := 17) hx hb hts (fun _ h => List.mem_cons_of_mem _ (List.mem_append_right _ h)) hown hst.1 hH 40 (by decide) rfl (fm_ob_40 _ _) rfl 5 (by decide) (List.mem_of_getElem? (i := 4) rfl) rfl rfl dX5_spreads_147 ?_
      refine lv_iload_n hx hb dX5_spreads_150 rfl (lv_at hl 2 rfl) ?_
      refine lv_dup2_11 hx hb dX5_spreads_151 rfl rfl ?_
      obtain ⟨hi4, h⟩ := mi_chk h
      refine fm_ild hx hb hst.1 hH 46 (by decide) rfl rfl hi4 dX5_spreads_152 ?_
      refine lv_aload_n hx hb dX5_spreads_153 rfl (lv_at hl 0 rfl) ?_
      refine fm_getf (T := TX5) (N := 17) hx hb hts (fun _ h => List.mem_cons_of_mem _ (List.mem_append_right _ h)) hown hst.1 hH 40 (by decide) rfl (fm_ob_40 _ _) rfl 12 (by decide) (List.mem_of_getElem? (i := 2) rfl) rfl rfl dX5_spreads_154 ?_
      refine lv_iload_n hx hb dX5_spreads_157 rfl (lv_at hl 2 rfl) ?_
      refine fm_ild hx hb hst.1 hH 51 (by decide) rfl rfl hi4 dX5_spreads_158 ?_
      refine lv_iadd hx hb dX5_spreads_159 ?_
      refine fm_ist hx hb hst.1 hH 46 (by decide) rfl rfl hi4 dX5_spreads_160 (fun H locs hH => ?_)
      refine lv_aload_n hx hb dX5_spreads_161 rfl (lv_at hl 0 rfl) ?_
      refine fm_getf (T := TX5) (N := 17) hx hb hts (fun _ h => List.mem_cons_of_mem _ (List.mem_append_right _ h)) hown hst.1 hH 40 (by decide) rfl (fm_ob_40 _ _) rfl 6 (by decide) (List.mem_of_getElem? (i := 5) rfl) rfl rfl dX5_spreads_162 ?_
      refine lv_iload_n hx hb dX5_spreads_165 rfl (lv_at hl 2 rfl) ?_
      refine lv_dup2_11 hx hb dX5_spreads_166 rfl rfl ?_
      refine fm_ild hx hb hst.1 hH 47 (by decide) rfl rfl hi4 dX5_spreads_167 ?_
      refine lv_aload_n hx hb dX5_spreads_168 rfl (lv_at hl 0 rfl) ?_
      refine fm_getf (T := TX5) (N := 17) hx hb hts (fun _ h => List.mem_cons_of_mem _ (List.mem_append_right _ h)) hown hst.1 hH 40 (by decide) rfl (fm_ob_40 _ _) rfl 13 (by decide) (List.mem_of_getElem? (i := 3) rfl) rfl rfl dX5_spreads_169 ?_
      refine lv_iload_n hx hb dX5_spreads_172 rfl (lv_at hl 2 rfl) ?_
      refine fm_ild hx hb hst.1 hH 52 (by decide) rfl rfl hi4 dX5_spreads_173 ?_
      refine lv_iadd hx hb dX5_spreads_174 ?_
      refine fm_ist hx hb hst.1 hH 47 (by decide) rfl rfl hi4 dX5_spreads_175 (fun H locs hH => ?_)
      refine lv_iinc (v := (x2 + 1)) (lv' := [(2, .int (x2 + 1)), (0, .ref (K.2.2.2 40)), (1, .int x1)]) hx hb dX5_spreads_176 hl (k := 2) rfl rfl (by decide) rfl (fun ls hl => ?_)
      refine lv_goto (tgt := 138) hx hb dX5_spreads_179 (by decide) ?_
      exact ih _ _ _ h _ kk _ _ _ (lv_sub hl [1, 2, 0] rfl) hH
def mX5_spreads (σ : fm_S) : Option (Int32 × fm_S) :=
  mb1 (mX5_spreads_L4 fF (0 : Int32) σ) fun σ4 =>
  mb2 (mX5_spreads_L34 fF (0 : Int32) (0 : Int32) σ4) fun y34_1 σ34 =>
  mb1 (mX5_spreads_L138 fF (0 : Int32) σ34) fun σ138 =>
  some (y34_1, σ138)
set_option maxHeartbeats 4000000 in
set_option maxRecDepth 100000 in
theorem kX5_spreads (l : Launch) (K : fm_K) {σ : fm_S} {r : Int32} {σ' : fm_S} (h : mX5_spreads σ = some (r, σ')) : fm_CI l yX5_spreads wsX5_spreads rmX5_spreads K [.ref (K.2.2.2 40)] σ r σ' := by
  intro sz
  refine fm_start (Qc := fun sz => fm_QI K r σ' sz) (cc := cX5_spreads) (maxL := 4) (ret := (some .int)) (by decide) rfl (Nat.le_of_ble_eq_true rfl) ?_
  intro p e s m args below meth c C hr hlk hst hH ls hl
  have C : CallFix p m c cX5_spreads 4 s args wsX5_spreads RX5 := C
  obtain ⟨hx, hb, hml, hown, hts⟩ := id C
  have hA : ∀ q, fm_A K s.heap.size q → fm_A K s.heap.size q := fun _ h => h
  have hl : lv_has ls 4 [(0, .ref (K.2.2.2 40))] := hl
  generalize hQ : MQ below _ args s _ _ _ = Q
  rw [mX5_spreads] at h
  refine lv_iconst (v := 0) hx hb dX5_spreads_0 (by decide) ?_
  refine lv_istore_n (lv' := [(1, .int (0 : Int32)), (0, .ref (K.2.2.2 40))]) hx hb dX5_spreads_1 rfl hl (by decide) rfl (fun ls hl => ?_)
  refine lv_iconst (v := 0) hx hb dX5_spreads_2 (by decide) ?_
  refine lv_istore_n (lv' := [(2, .int (0 : Int32)), (1, .int (0 : Int32)), (0, .ref (K.2.2.2 40))]) hx hb dX5_spreads_3 rfl hl (by decide) rfl (fun ls hl => ?_)
  obtain ⟨σ4, h4, h⟩ := mi_b1 h
  refine wX5_spreads_L4 C hst _ _ _ _ h4 _ (fun ls H locs hl hH => ?_) _ _ _ (lv_sub hl [2, 1, 0] rfl) hH
  refine lv_iconst (v := 0) hx hb dX5_spreads_32 (by decide) ?_
  refine lv_istore_n (lv' := [(2, .int (0 : Int32)), (0, .ref (K.2.2.2 40)), (1, .int (0 : Int32))]) hx hb dX5_spreads_33 rfl hl (by decide) rfl (fun ls hl => ?_)
  obtain ⟨y34_1, σ34, h34, h⟩ := mi_b2 h
  refine wX5_spreads_L34 C hst _ _ _ _ _ _ h34 (fun ls H locs hl hH => ?_) _ _ _ (lv_sub hl [1, 2, 0] rfl) hH
  refine lv_iconst (v := 0) hx hb dX5_spreads_136 (by decide) ?_
  refine lv_istore_n (lv' := [(2, .int (0 : Int32)), (0, .ref (K.2.2.2 40)), (1, .int y34_1)]) hx hb dX5_spreads_137 rfl hl (by decide) rfl (fun ls hl => ?_)
  obtain ⟨σ138, h138, h⟩ := mi_b1 h
  refine wX5_spreads_L138 C hst _ _ _ _ h138 _ (fun ls H locs hl hH => ?_) _ _ _ (lv_sub hl [1, 2, 0] rfl) hH
  refine lv_iload_n hx hb dX5_spreads_182 rfl (lv_at hl 0 rfl) ?_
  cases h
  subst hQ
  exact fm_iret hx hb hr hlk hst hH dX5_spreads_183
/-! RX5.spread(I)I -/
abbrev rmX5_spread : Room := { frames := 4, cells := 0, slots := 0, locals := 93 }
def mX5_spread_L18 : Nat → Int32 → Int32 → Int32 → Int32 → fm_S → Option (Int32 × fm_S)
  | 0, _, _, _, _, _ => none
  | n + 1, x1, x2, x3, x4, σ =>
    if x1 ≤ x4 then
      some (x2, σ)
    else
      if x3 = 0 then
        some (x2, σ)
      else
        mb2 (mX5_spreads σ) fun r30 σ30 =>
        mX5_spread_L18 n x1 (x2 + r30) x3 (x4 + 1) σ30
set_option maxHeartbeats 4000000 in
set_option maxRecDepth 100000 in
theorem wX5_spread_L18 {p : Program} {l : Launch} {e : Env} {s : State} {m : MethodId} {args : Array Value} {below : List Frame} {meth : Method} {c : Code} {Q : State → Prop} {K : fm_K} (C : CallFix p m c cX5_spread 5 s args wsX5_spread RX5) (hst : fm_st K (fm_A K s.heap.size) s s.heap) :
    ∀ (n : Nat) (x1 : Int32) (x2 : Int32) (x3 : Int32) (x4 : Int32) (σ : fm_S) (o2 : Int32) (σo : fm_S), mX5_spread_L18 n x1 x2 x3 x4 σ = some (o2, σo) → (∀ (ls : Array Slot) (H : Heap) (locs : List Loc), lv_has ls 5 [(2, .int o2)] → fm_H K σo (fm_A K s.heap.size) s H locs → W p l e rmX5_spread s m args below meth c H locs 0 0 Q (F0 m 41 ls [])) → ∀ (ls : Array Slot) (H : Heap) (locs : List Loc), lv_has ls 5 [(0, .ref (K.2.2.2 40)), (1, .int x1), (2, .int x2), (3, .int x3), (4, .int x4)] → fm_H K σ (fm_A K s.heap.size) s H locs → W p l e rmX5_spread s m args below meth c H locs 0 0 Q (F0 m 18 ls []) := by
  obtain ⟨hx, hb, hml, hown, hts⟩ := id C
  have hA : ∀ q, fm_A K s.heap.size q → fm_A K s.heap.size q := fun _ h => h
  intro n
  induction n with
  | zero => intro x1 x2 x3 x4 σ o2 σo h; simp [mX5_spread_L18] at h
  | succ n ih =>
    intro x1 x2 x3 x4 σ o2 σo h kk ls H locs hl hH
    rw [mX5_spread_L18] at h
    refine lv_iload hx hb dX5_spread_18 (lv_at hl 4 rfl) ?_
    refine lv_iload_n hx hb dX5_spread_20 rfl (lv_at hl 1 rfl) ?_
    refine lv_icmp_ge (tgt := 41) hx hb dX5_spread_21 (by decide) (fun hc => ?_) (fun hc => ?_)
    · replace h := mi_pos hc h
      cases h
      exact kk _ _ _ (lv_sub hl [2] rfl) hH
    · replace h := mi_neg hc h
      refine lv_iload_n hx hb dX5_spread_24 rfl (lv_at hl 3 rfl) ?_
      refine lv_if_eq (tgt := 41) hx hb dX5_spread_25 (by decide) (fun hc => ?_) (fun hc => ?_)
      · replace h := mi_pos hc h
        cases h
        exact kk _ _ _ (lv_sub hl [2] rfl) hH
      · replace h := mi_neg hc h
        refine lv_iload_n hx hb dX5_spread_28 rfl (lv_at hl 2 rfl) ?_
        refine lv_aload_n hx hb dX5_spread_29 rfl (lv_at hl 0 rfl) ?_
        obtain ⟨r30, σ30, h30, h⟩ := mi_b2 h
        refine fm_ci (va_runV (As := []) (rest := [.int x2]) C (kX5_spreads l K h30 _) (cwV 0 hts gX5_spread_X5_spreads rfl rfl rfl (by decide +kernel) ⟨(Nat.le_of_ble_eq_true rfl), (Nat.le_of_ble_eq_true rfl)⟩) ⟨fm_blind, fm_recv hst hH (q := 40) (by decide) rfl (fm_ob_40 _ _) rfl, fm_pre hst hA hH⟩ rfl rfl hl.1 rfl (lv_room (Nat.le_of_ble_eq_true rfl)) dX5_spread_30 ⟨(Nat.le_of_ble_eq_true rfl), (Nat.le_of_ble_eq_true rfl)⟩) hA hH (fun H locs hH => ?_)
        refine lv_iadd hx hb dX5_spread_33 ?_
        refine lv_istore_n (lv' := [(2, .int (x2 + r30)), (0, .ref (K.2.2.2 40)), (1, .int x1), (3, .int x3), (4, .int x4)]) hx hb dX5_spread_34 rfl hl (by decide) rfl (fun ls hl => ?_)
        refine lv_iinc (v := (x4 + 1)) (lv' := [(4, .int (x4 + 1)), (2, .int (x2 + r30)), (0, .ref (K.2.2.2 40)), (1, .int x1), (3, .int x3)]) hx hb dX5_spread_35 hl (k := 4) rfl rfl (by decide) rfl (fun ls hl => ?_)
        refine lv_goto (tgt := 18) hx hb dX5_spread_38 (by decide) ?_
        exact ih _ _ _ _ _ _ _ h kk _ _ _ (lv_sub hl [2, 3, 1, 4, 0] rfl) hH
def mX5_spread (x1 : Int32) (σ : fm_S) : Option (Int32 × fm_S) :=
  mb1 (mX5_in x1 (1 : Int32) (50 : Int32)) fun r7 =>
  mb2 (mX5_goes r7 (1 : Int32) σ) fun r11 σ11 =>
  mb2 (mX5_spread_L18 fF x1 (0 : Int32) r11 (0 : Int32) σ11) fun y18_2 σ18 =>
  some (y18_2, σ18)
set_option maxHeartbeats 4000000 in
set_option maxRecDepth 100000 in
theorem kX5_spread (l : Launch) (K : fm_K) {x1 : Int32} {σ : fm_S} {r : Int32} {σ' : fm_S} (h : mX5_spread x1 σ = some (r, σ')) : fm_CI l yX5_spread wsX5_spread rmX5_spread K [.ref (K.2.2.2 40), .int x1] σ r σ' := by
  intro sz
  refine fm_start (Qc := fun sz => fm_QI K r σ' sz) (cc := cX5_spread) (maxL := 5) (ret := (some .int)) (by decide) rfl (Nat.le_of_ble_eq_true rfl) ?_
  intro p e s m args below meth c C hr hlk hst hH ls hl
  have C : CallFix p m c cX5_spread 5 s args wsX5_spread RX5 := C
  obtain ⟨hx, hb, hml, hown, hts⟩ := id C
  have hA : ∀ q, fm_A K s.heap.size q → fm_A K s.heap.size q := fun _ h => h
  have hl : lv_has ls 5 [(0, .ref (K.2.2.2 40)), (1, .int x1)] := hl
  generalize hQ : MQ below _ args s _ _ _ = Q
  rw [mX5_spread] at h
  refine lv_iconst (v := 0) hx hb dX5_spread_0 (by decide) ?_
  refine lv_istore_n (lv' := [(2, .int (0 : Int32)), (0, .ref (K.2.2.2 40)), (1, .int x1)]) hx hb dX5_spread_1 rfl hl (by decide) rfl (fun ls hl => ?_)
  refine lv_aload_n hx hb dX5_spread_2 rfl (lv_at hl 1 rfl) ?_
  refine lv_iload_n hx hb dX5_spread_3 rfl (lv_at hl 2 rfl) ?_
  refine lv_iconst (v := 1) hx hb dX5_spread_4 (by decide) ?_
  refine lv_bipush (v := 50) hx hb dX5_spread_5 (by decide) ?_
  obtain ⟨r7, h7, h⟩ := mi_b1 h
  refine fm_ci (va_runS (As := [.int x1, .int (1 : Int32), .int (50 : Int32)]) (rest := [.ref (K.2.2.2 40)]) C (kX5_in l K h7 _) (va_cwS 3 hts gX5_spread_X5_in rfl rfl rfl (by decide +kernel) ⟨(Nat.le_of_ble_eq_true rfl), (Nat.le_of_ble_eq_true rfl)⟩) ⟨fm_blind, fm_pre hst hA hH⟩ rfl rfl hl.1 rfl (lv_room (Nat.le_of_ble_eq_true rfl)) dX5_spread_7 ⟨(Nat.le_of_ble_eq_true rfl), (Nat.le_of_ble_eq_true rfl)⟩) hA hH (fun H locs hH => ?_)
  refine lv_iconst (v := 1) hx hb dX5_spread_10 (by decide) ?_
  obtain ⟨r11, σ11, h11, h⟩ := mi_b2 h
  refine fm_ci (va_runV (As := [.int r7, .int (1 : Int32)]) (rest := []) C (kX5_goes l K h11 _) (cwV 2 hts gX5_spread_X5_goes rfl rfl rfl (by decide +kernel) ⟨(Nat.le_of_ble_eq_true rfl), (Nat.le_of_ble_eq_true rfl)⟩) ⟨fm_blind, fm_recv hst hH (q := 40) (by decide) rfl (fm_ob_40 _ _) rfl, fm_pre hst hA hH⟩ rfl rfl hl.1 rfl (lv_room (Nat.le_of_ble_eq_true rfl)) dX5_spread_11 ⟨(Nat.le_of_ble_eq_true rfl), (Nat.le_of_ble_eq_true rfl)⟩) hA hH (fun H locs hH => ?_)
  refine lv_istore_n (lv' := [(3, .int r11), (2, .int (0 : Int32)), (0, .ref (K.2.2.2 40)), (1, .int x1)]) hx hb dX5_spread_14 rfl hl (by decide) rfl (fun ls hl => ?_)
  refine lv_iconst (v := 0) hx hb dX5_spread_15 (by decide) ?_
  refine lv_istore (lv' := [(4, .int (0 : Int32)), (3, .int r11), (2, .int (0 : Int32)), (0, .ref (K.2.2.2 40)), (1, .int x1)]) hx hb dX5_spread_16 hl (by decide) rfl (fun ls hl => ?_)
  obtain ⟨y18_2, σ18, h18, h⟩ := mi_b2 h
  refine wX5_spread_L18 C hst _ _ _ _ _ _ _ _ h18 (fun ls H locs hl hH => ?_) _ _ _ (lv_sub hl [3, 4, 2, 1, 0] rfl) hH
  refine lv_iload_n hx hb dX5_spread_41 rfl (lv_at hl 0 rfl) ?_
  cases h
  subst hQ
  exact fm_iret hx hb hr hlk hst hH dX5_spread_42
/-! RX5.want(III)I -/
abbrev rmX5_want : Room := { frames := 2, cells := 0, slots := 0, locals := 43 }
def mX5_want (x1 : Int32) (x2 : Int32) (x3 : Int32) (σ : fm_S) : Option (Int32 × fm_S) :=
  mb1 (show Option (Int32) from
    if x1 = x2 then
      some ((0 : Int32))
    else
      if x3 = (-1 : Int32) then
        some ((1 : Int32))
      else
        mb1 (mX5_in x3 (1 : Int32) (8000000 : Int32)) fun r14 =>
        if r14 = 0 then
          some ((0 : Int32))
        else
          some ((1 : Int32))) fun v1_0 =>
  mb1 (mX5_is x1 σ) fun r30 =>
  mb1 (show Option (Int32) from
    if r30 = 0 then
      some ((0 : Int32))
    else
      mb1 (mX5_is x2 σ) fun r38 =>
      if r38 = 0 then
        some ((0 : Int32))
      else
        some ((1 : Int32))) fun v2_0 =>
  mb2 (mX5_goes v2_0 v1_0 σ) fun r51 σ51 =>
  if r51 = 0 then
    some ((0 : Int32), σ51)
  else
    if ((((8 : Int32) * x1) + x2) < 0 ∨ 64 ≤ (((8 : Int32) * x1) + x2).toNatClampNeg) then none else
    if ((((8 : Int32) * x2) + x1) < 0 ∨ 64 ≤ (((8 : Int32) * x2) + x1).toNatClampNeg) then none else
    some ((rI σ51 50 (((8 : Int32) * x1) + x2)), (sI (sI σ51 50 (((8 : Int32) * x1) + x2) x3) 50 (((8 : Int32) * x2) + x1) x3))
set_option maxHeartbeats 4000000 in
set_option maxRecDepth 100000 in
theorem kX5_want (l : Launch) (K : fm_K) {x1 : Int32} {x2 : Int32} {x3 : Int32} {σ : fm_S} {r : Int32} {σ' : fm_S} (h : mX5_want x1 x2 x3 σ = some (r, σ')) : fm_CI l yX5_want wsX5_want rmX5_want K [.ref (K.2.2.2 40), .int x1, .int x2, .int x3] σ r σ' := by
  intro sz
  refine fm_start (Qc := fun sz => fm_QI K r σ' sz) (cc := cX5_want) (maxL := 6) (ret := (some .int)) (by decide) rfl (Nat.le_of_ble_eq_true rfl) ?_
  intro p e s m args below meth c C hr hlk hst hH ls hl
  have C : CallFix p m c cX5_want 6 s args wsX5_want RX5 := C
  obtain ⟨hx, hb, hml, hown, hts⟩ := id C
  have hA : ∀ q, fm_A K s.heap.size q → fm_A K s.heap.size q := fun _ h => h
  have hl : lv_has ls 6 [(0, .ref (K.2.2.2 40)), (1, .int x1), (2, .int x2), (3, .int x3)] := hl
  generalize hQ : MQ below _ args s _ _ _ = Q
  rw [mX5_want] at h
  refine lv_iload_n hx hb dX5_want_0 rfl (lv_at hl 1 rfl) ?_
  refine lv_iload_n hx hb dX5_want_1 rfl (lv_at hl 2 rfl) ?_
  obtain ⟨v1_0, hd, h2⟩ := mi_b1 h
  have kj : ∀ (ls : Array Slot) (H : Heap) (locs : List Loc), lv_has ls 6 [(0, .ref (K.2.2.2 40)), (1, .int x1), (2, .int x2), (3, .int x3)] → fm_H K σ (fm_A K s.heap.size) s H locs → W p l e rmX5_want s m args below meth c H locs 0 0 Q (F0 m 25 ls [.int v1_0]) := by
    clear h hd
    intro ls H locs hl hH
    have h := h2
    clear h2
    refine lv_istore (lv' := [(4, .int v1_0), (0, .ref (K.2.2.2 40)), (1, .int x1), (2, .int x2), (3, .int x3)]) hx hb dX5_want_25 hl (by decide) rfl (fun ls hl => ?_)
    refine lv_aload_n hx hb dX5_want_27 rfl (lv_at hl 1 rfl) ?_
    refine lv_aload_n hx hb dX5_want_28 rfl (lv_at hl 1 rfl) ?_
    refine lv_iload_n hx hb dX5_want_29 rfl (lv_at hl 2 rfl) ?_
    obtain ⟨r30, h30, h⟩ := mi_b1 h
    refine fm_ci (va_runV (As := [.int x1]) (rest := [.ref (K.2.2.2 40)]) C (kX5_is l K h30 _) (cwV 1 hts gX5_want_X5_is rfl rfl rfl (by decide +kernel) ⟨(Nat.le_of_ble_eq_true rfl), (Nat.le_of_ble_eq_true rfl)⟩) ⟨fm_blind, fm_recv hst hH (q := 40) (by decide) rfl (fm_ob_40 _ _) rfl, fm_pre hst hA hH⟩ rfl rfl hl.1 rfl (lv_room (Nat.le_of_ble_eq_true rfl)) dX5_want_30 ⟨(Nat.le_of_ble_eq_true rfl), (Nat.le_of_ble_eq_true rfl)⟩) hA hH (fun H locs hH => ?_)
    obtain ⟨v2_0, hd, h2⟩ := mi_b1 h
    have kj : ∀ (ls : Array Slot) (H : Heap) (locs : List Loc), lv_has ls 6 [(0, .ref (K.2.2.2 40)), (1, .int x1), (2, .int x2), (3, .int x3), (4, .int v1_0)] → fm_H K σ (fm_A K s.heap.size) s H locs → W p l e rmX5_want s m args below meth c H locs 0 0 Q (F0 m 49 ls [.int v2_0, .ref (K.2.2.2 40)]) := by
      clear h hd
      intro ls H locs hl hH
      have h := h2
      clear h2
      refine lv_iload hx hb dX5_want_49 (lv_at hl 4 rfl) ?_
      obtain ⟨r51, σ51, h51, h⟩ := mi_b2 h
      refine fm_ci (va_runV (As := [.int v2_0, .int v1_0]) (rest := []) C (kX5_goes l K h51 _) (cwV 2 hts gX5_want_X5_goes rfl rfl rfl (by decide +kernel) ⟨(Nat.le_of_ble_eq_true rfl), (Nat.le_of_ble_eq_true rfl)⟩) ⟨fm_blind, fm_recv hst hH (q := 40) (by decide) rfl (fm_ob_40 _ _) rfl, fm_pre hst hA hH⟩ rfl rfl hl.1 rfl (lv_room (Nat.le_of_ble_eq_true rfl)) dX5_want_51 ⟨(Nat.le_of_ble_eq_true rfl), (Nat.le_of_ble_eq_true rfl)⟩) hA hH (fun H locs hH => ?_)
      refine lv_if_ne (tgt := 59) hx hb dX5_want_54 (by decide) (fun hc => ?_) (fun hc => ?_)
      · replace h := mi_neg hc h
        refine lv_aload_n hx hb dX5_want_59 rfl (lv_at hl 0 rfl) ?_
        refine fm_getf (T := TX5) (N := 17) hx hb hts (fun _ h => List.mem_cons_of_mem _ (List.mem_append_right _ h)) hown hst.1 hH 40 (by decide) rfl (fm_ob_40 _ _) rfl 9 (by decide) (List.mem_of_getElem? (i := 2) rfl) rfl rfl dX5_want_60 ?_
        refine lv_bipush (v := 8) hx hb dX5_want_63 (by decide) ?_
        refine lv_iload_n hx hb dX5_want_65 rfl (lv_at hl 1 rfl) ?_
        refine lv_imul hx hb dX5_want_66 ?_
        refine lv_iload_n hx hb dX5_want_67 rfl (lv_at hl 2 rfl) ?_
        refine lv_iadd hx hb dX5_want_68 ?_
        obtain ⟨hi3, h⟩ := mi_chk h
        refine fm_ild hx hb hst.1 hH 50 (by decide) rfl rfl hi3 dX5_want_69 ?_
        refine lv_istore (lv' := [(5, .int (rI σ51 50 (((8 : Int32) * x1) + x2))), (0, .ref (K.2.2.2 40)), (1, .int x1), (2, .int x2), (3, .int x3), (4, .int v1_0)]) hx hb dX5_want_70 hl (by decide) rfl (fun ls hl => ?_)
        refine lv_aload_n hx hb dX5_want_72 rfl (lv_at hl 1 rfl) ?_
        refine fm_getf (T := TX5) (N := 17) hx hb hts (fun _ h => List.mem_cons_of_mem _ (List.mem_append_right _ h)) hown hst.1 hH 40 (by decide) rfl (fm_ob_40 _ _) rfl 9 (by decide) (List.mem_of_getElem? (i := 2) rfl) rfl rfl dX5_want_73 ?_
        refine lv_bipush (v := 8) hx hb dX5_want_76 (by decide) ?_
        refine lv_iload_n hx hb dX5_want_78 rfl (lv_at hl 2 rfl) ?_
        refine lv_imul hx hb dX5_want_79 ?_
        refine lv_iload_n hx hb dX5_want_80 rfl (lv_at hl 3 rfl) ?_
        refine lv_iadd hx hb dX5_want_81 ?_
        refine lv_iload_n hx hb dX5_want_82 rfl (lv_at hl 4 rfl) ?_
        refine fm_ist hx hb hst.1 hH 50 (by decide) rfl rfl hi3 dX5_want_83 (fun H locs hH => ?_)
        refine lv_aload_n hx hb dX5_want_84 rfl (lv_at hl 1 rfl) ?_
        refine fm_getf (T := TX5) (N := 17) hx hb hts (fun _ h => List.mem_cons_of_mem _ (List.mem_append_right _ h)) hown hst.1 hH 40 (by decide) rfl (fm_ob_40 _ _) rfl 9 (by decide) (List.mem_of_getElem? (i := 2) rfl) rfl rfl dX5_want_85 ?_
        refine lv_bipush (v := 8) hx hb dX5_want_88 (by decide) ?_
        refine lv_iload_n hx hb dX5_want_90 rfl (lv_at hl 3 rfl) ?_
        refine lv_imul hx hb dX5_want_91 ?_
        refine lv_iload_n hx hb dX5_want_92 rfl (lv_at hl 2 rfl) ?_
        refine lv_iadd hx hb dX5_want_93 ?_
        refine lv_iload_n hx hb dX5_want_94 rfl (lv_at hl 4 rfl) ?_
        obtain ⟨hi4, h⟩ := mi_chk h
        refine fm_ist hx hb hst.1 hH 50 (by decide) rfl rfl hi4 dX5_want_95 (fun H locs hH => ?_)
        refine lv_iload hx hb dX5_want_96 (lv_at hl 0 rfl) ?_
        cases h
        subst hQ
        exact fm_iret hx hb hr hlk hst hH dX5_want_98
      · replace h := mi_pos hc h
        refine lv_iconst (v := 0) hx hb dX5_want_57 (by decide) ?_
        cases h
        subst hQ
        exact fm_iret hx hb hr hlk hst hH dX5_want_58
    replace h := hd
    clear h2 hd
    refine lv_if_eq (tgt := 48) hx hb dX5_want_33 (by decide) (fun hc => ?_) (fun hc => ?_)
    · replace h := mi_pos hc h
      refine lv_iconst (v := 0) hx hb dX5_want_48 (by decide) ?_
      cases h
      exact kj _ _ _ (lv_sub hl [1, 2, 3, 4, 0] rfl) hH
    · replace h := mi_neg hc h
      refine lv_aload_n hx hb dX5_want_36 rfl (lv_at hl 1 rfl) ?_
      refine lv_iload_n hx hb dX5_want_37 rfl (lv_at hl 3 rfl) ?_
      obtain ⟨r38, h38, h⟩ := mi_b1 h
      refine fm_ci (va_runV (As := [.int x2]) (rest := [.ref (K.2.2.2 40)]) C (kX5_is l K h38 _) (cwV 1 hts gX5_want_X5_is rfl rfl rfl (by decide +kernel) ⟨(Nat.le_of_ble_eq_true rfl), (Nat.le_of_ble_eq_true rfl)⟩) ⟨fm_blind, fm_recv hst hH (q := 40) (by decide) rfl (fm_ob_40 _ _) rfl, fm_pre hst hA hH⟩ rfl rfl hl.1 rfl (lv_room (Nat.le_of_ble_eq_true rfl)) dX5_want_38 ⟨(Nat.le_of_ble_eq_true rfl), (Nat.le_of_ble_eq_true rfl)⟩) hA hH (fun H locs hH => ?_)
      refine lv_if_eq (tgt := 48) hx hb dX5_want_41 (by decide) (fun hc => ?_) (fun hc => ?_)
      · replace h := mi_pos hc h
        refine lv_iconst (v := 0) hx hb dX5_want_48 (by decide) ?_
        cases h
        exact kj _ _ _ (lv_sub hl [1, 2, 3, 4, 0] rfl) hH
      · replace h := mi_neg hc h
        refine lv_iconst (v := 1) hx hb dX5_want_44 (by decide) ?_
        refine lv_goto (tgt := 49) hx hb dX5_want_45 (by decide) ?_
        cases h
        exact kj _ _ _ (lv_sub hl [1, 2, 3, 4, 0] rfl) hH
  replace h := hd
  clear h2 hd
  refine lv_icmp_eq (tgt := 24) hx hb dX5_want_2 (by decide) (fun hc => ?_) (fun hc => ?_)
  · replace h := mi_pos hc h
    refine lv_iconst (v := 0) hx hb dX5_want_24 (by decide) ?_
    cases h
    exact kj _ _ _ (lv_sub hl [0, 1, 2, 3] rfl) hH
  · replace h := mi_neg hc h
    refine lv_iload_n hx hb dX5_want_5 rfl (lv_at hl 3 rfl) ?_
    refine lv_iconst (v := -1) hx hb dX5_want_6 (by decide) ?_
    refine lv_icmp_eq (tgt := 20) hx hb dX5_want_7 (by decide) (fun hc => ?_) (fun hc => ?_)
    · replace h := mi_pos hc h
      refine lv_iconst (v := 1) hx hb dX5_want_20 (by decide) ?_
      refine lv_goto (tgt := 25) hx hb dX5_want_21 (by decide) ?_
      cases h
      exact kj _ _ _ (lv_sub hl [0, 1, 2, 3] rfl) hH
    · replace h := mi_neg hc h
      refine lv_iload_n hx hb dX5_want_10 rfl (lv_at hl 3 rfl) ?_
      refine lv_iconst (v := 1) hx hb dX5_want_11 (by decide) ?_
      refine lv_ldc (v := 8000000) hx hb hown (hts (.constant RX5 115 (8000000)) (List.mem_of_getElem? (i := 1) rfl)) dX5_want_12 ?_
      obtain ⟨r14, h14, h⟩ := mi_b1 h
      refine fm_ci (va_runS (As := [.int x3, .int (1 : Int32), .int (8000000 : Int32)]) (rest := []) C (kX5_in l K h14 _) (va_cwS 3 hts gX5_want_X5_in rfl rfl rfl (by decide +kernel) ⟨(Nat.le_of_ble_eq_true rfl), (Nat.le_of_ble_eq_true rfl)⟩) ⟨fm_blind, fm_pre hst hA hH⟩ rfl rfl hl.1 rfl (lv_room (Nat.le_of_ble_eq_true rfl)) dX5_want_14 ⟨(Nat.le_of_ble_eq_true rfl), (Nat.le_of_ble_eq_true rfl)⟩) hA hH (fun H locs hH => ?_)
      refine lv_if_eq (tgt := 24) hx hb dX5_want_17 (by decide) (fun hc => ?_) (fun hc => ?_)
      · replace h := mi_pos hc h
        refine lv_iconst (v := 0) hx hb dX5_want_24 (by decide) ?_
        cases h
        exact kj _ _ _ (lv_sub hl [0, 1, 2, 3] rfl) hH
      · replace h := mi_neg hc h
        refine lv_iconst (v := 1) hx hb dX5_want_20 (by decide) ?_
        refine lv_goto (tgt := 25) hx hb dX5_want_21 (by decide) ?_
        cases h
        exact kj _ _ _ (lv_sub hl [0, 1, 2, 3] rfl) hH
/-! RX5.above(II)I -/
abbrev rmX5_above : Room := { frames := 2, cells := 0, slots := 0, locals := 47 }
def mX5_above (x1 : Int32) (x2 : Int32) (σ : fm_S) : Option Int32 :=
  if ((((8 : Int32) * x1) + x2) < 0 ∨ 64 ≤ (((8 : Int32) * x1) + x2).toNatClampNeg) then none else
  if (rI σ 50 (((8 : Int32) * x1) + x2)) = (-1 : Int32) then
    some (0 : Int32)
  else
    mb1 (mX5_linked x1 x2 σ) fun r20 =>
    if r20 = 0 then
      some (0 : Int32)
    else
      mb1 (mX5_square x1 x2 σ) fun r33 =>
      some (r33 - (rI σ 50 (((8 : Int32) * x1) + x2)))
set_option maxHeartbeats 4000000 in
set_option maxRecDepth 100000 in
theorem kX5_above (l : Launch) (K : fm_K) {x1 : Int32} {x2 : Int32} {σ : fm_S} {r : Int32} (h : mX5_above x1 x2 σ = some r) : fm_CI l yX5_above wsX5_above rmX5_above K [.ref (K.2.2.2 40), .int x1, .int x2] σ r σ := by
  intro sz
  refine fm_start (Qc := fun sz => fm_QI K r σ sz) (cc := cX5_above) (maxL := 4) (ret := (some .int)) (by decide) rfl (Nat.le_of_ble_eq_true rfl) ?_
  intro p e s m args below meth c C hr hlk hst hH ls hl
  have C : CallFix p m c cX5_above 4 s args wsX5_above RX5 := C
  obtain ⟨hx, hb, hml, hown, hts⟩ := id C
  have hA : ∀ q, fm_A K s.heap.size q → fm_A K s.heap.size q := fun _ h => h
  have hl : lv_has ls 4 [(0, .ref (K.2.2.2 40)), (1, .int x1), (2, .int x2)] := hl
  generalize hQ : MQ below _ args s _ _ _ = Q
  rw [mX5_above] at h
  refine lv_aload_n hx hb dX5_above_0 rfl (lv_at hl 0 rfl) ?_
  refine fm_getf (T := TX5) (N := 17) hx hb hts (fun _ h => List.mem_cons_of_mem _ (List.mem_append_right _ h)) hown hst.1 hH 40 (by decide) rfl (fm_ob_40 _ _) rfl 9 (by decide) (List.mem_of_getElem? (i := 1) rfl) rfl rfl dX5_above_1 ?_
  refine lv_bipush (v := 8) hx hb dX5_above_4 (by decide) ?_
  refine lv_iload_n hx hb dX5_above_6 rfl (lv_at hl 1 rfl) ?_
  refine lv_imul hx hb dX5_above_7 ?_
  refine lv_iload_n hx hb dX5_above_8 rfl (lv_at hl 2 rfl) ?_
  refine lv_iadd hx hb dX5_above_9 ?_
  obtain ⟨hi1, h⟩ := mi_chk h
  refine fm_ild hx hb hst.1 hH 50 (by decide) rfl rfl hi1 dX5_above_10 ?_
  refine lv_istore_n (lv' := [(3, .int (rI σ 50 (((8 : Int32) * x1) + x2))), (0, .ref (K.2.2.2 40)), (1, .int x1), (2, .int x2)]) hx hb dX5_above_11 rfl hl (by decide) rfl (fun ls hl => ?_)
  refine lv_iload_n hx hb dX5_above_12 rfl (lv_at hl 0 rfl) ?_
  refine lv_iconst (v := -1) hx hb dX5_above_13 (by decide) ?_
  refine lv_icmp_eq (tgt := 26) hx hb dX5_above_14 (by decide) (fun hc => ?_) (fun hc => ?_)
  · replace h := mi_pos hc h
    refine lv_iconst (v := 0) hx hb dX5_above_26 (by decide) ?_
    refine lv_goto (tgt := 38) hx hb dX5_above_27 (by decide) ?_
    cases h
    subst hQ
    exact fm_iret hx hb hr hlk hst hH dX5_above_38
  · replace h := mi_neg hc h
    refine lv_aload_n hx hb dX5_above_17 rfl (lv_at hl 1 rfl) ?_
    refine lv_iload_n hx hb dX5_above_18 rfl (lv_at hl 2 rfl) ?_
    refine lv_iload_n hx hb dX5_above_19 rfl (lv_at hl 3 rfl) ?_
    obtain ⟨r20, h20, h⟩ := mi_b1 h
    refine fm_ci (va_runV (As := [.int x1, .int x2]) (rest := []) C (kX5_linked l K h20 _) (cwV 2 hts gX5_above_X5_linked rfl rfl rfl (by decide +kernel) ⟨(Nat.le_of_ble_eq_true rfl), (Nat.le_of_ble_eq_true rfl)⟩) ⟨fm_blind, fm_recv hst hH (q := 40) (by decide) rfl (fm_ob_40 _ _) rfl, fm_pre hst hA hH⟩ rfl rfl hl.1 rfl (lv_room (Nat.le_of_ble_eq_true rfl)) dX5_above_20 ⟨(Nat.le_of_ble_eq_true rfl), (Nat.le_of_ble_eq_true rfl)⟩) hA hH (fun H locs hH => ?_)
    refine lv_if_ne (tgt := 30) hx hb dX5_above_23 (by decide) (fun hc => ?_) (fun hc => ?_)
    · replace h := mi_neg hc h
      refine lv_aload_n hx hb dX5_above_30 rfl (lv_at hl 1 rfl) ?_
      refine lv_iload_n hx hb dX5_above_31 rfl (lv_at hl 2 rfl) ?_
      refine lv_iload_n hx hb dX5_above_32 rfl (lv_at hl 3 rfl) ?_
      obtain ⟨r33, h33, h⟩ := mi_b1 h
      refine fm_ci (va_runV (As := [.int x1, .int x2]) (rest := []) C (kX5_square l K h33 _) (cwV 2 hts gX5_above_X5_square rfl rfl rfl (by decide +kernel) ⟨(Nat.le_of_ble_eq_true rfl), (Nat.le_of_ble_eq_true rfl)⟩) ⟨fm_blind, fm_recv hst hH (q := 40) (by decide) rfl (fm_ob_40 _ _) rfl, fm_pre hst hA hH⟩ rfl rfl hl.1 rfl (lv_room (Nat.le_of_ble_eq_true rfl)) dX5_above_33 ⟨(Nat.le_of_ble_eq_true rfl), (Nat.le_of_ble_eq_true rfl)⟩) hA hH (fun H locs hH => ?_)
      refine lv_iload_n hx hb dX5_above_36 rfl (lv_at hl 0 rfl) ?_
      refine lv_isub hx hb dX5_above_37 ?_
      cases h
      subst hQ
      exact fm_iret hx hb hr hlk hst hH dX5_above_38
    · replace h := mi_pos hc h
      refine lv_iconst (v := 0) hx hb dX5_above_26 (by decide) ?_
      refine lv_goto (tgt := 38) hx hb dX5_above_27 (by decide) ?_
      cases h
      subst hQ
      exact fm_iret hx hb hr hlk hst hH dX5_above_38
/-! RX5.errors()I -/
abbrev rmX5_errors : Room := { frames := 3, cells := 0, slots := 0, locals := 70 }
def mX5_errors_L4 : Nat → Int32 → Int32 → fm_S → Option (Int32)
  | 0, _, _, _ => none
  | n + 1, x1, x2, σ =>
    if (64 : Int32) ≤ x2 then
      some x1
    else
      mb1 (show Option (Int32) from
        if (x2 - x2 / (8 : Int32) * (8 : Int32)) ≤ (x2 / (8 : Int32)) then
          some ((0 : Int32))
        else
          if (σ.1 61 0) ≤ (x2 - x2 / (8 : Int32) * (8 : Int32)) then
            some ((0 : Int32))
          else
            mb1 (mX5_above (x2 / (8 : Int32)) (x2 - x2 / (8 : Int32) * (8 : Int32)) σ) fun r41 =>
            some r41) fun v1_0 =>
      mb1 (show Option (Int32) from
        if 0 ≤ v1_0 then
          some v1_0
        else
          some ((-v1_0))) fun v2_0 =>
      mX5_errors_L4 n (x1 + v2_0) (x2 + 1) σ
set_option maxHeartbeats 4000000 in
set_option maxRecDepth 100000 in
theorem wX5_errors_L4 {p : Program} {l : Launch} {e : Env} {s : State} {m : MethodId} {args : Array Value} {below : List Frame} {meth : Method} {c : Code} {Q : State → Prop} {K : fm_K} (C : CallFix p m c cX5_errors 4 s args wsX5_errors RX5) (hst : fm_st K (fm_A K s.heap.size) s s.heap) :
    ∀ (n : Nat) (x1 : Int32) (x2 : Int32) (σ : fm_S) (o1 : Int32), mX5_errors_L4 n x1 x2 σ = some o1 → (∀ (ls : Array Slot) (H : Heap) (locs : List Loc), lv_has ls 4 [(1, .int o1)] → fm_H K σ (fm_A K s.heap.size) s H locs → W p l e rmX5_errors s m args below meth c H locs 0 0 Q (F0 m 68 ls [])) → ∀ (ls : Array Slot) (H : Heap) (locs : List Loc), lv_has ls 4 [(0, .ref (K.2.2.2 40)), (1, .int x1), (2, .int x2)] → fm_H K σ (fm_A K s.heap.size) s H locs → W p l e rmX5_errors s m args below meth c H locs 0 0 Q (F0 m 4 ls []) := by
  obtain ⟨hx, hb, hml, hown, hts⟩ := id C
  have hA : ∀ q, fm_A K s.heap.size q → fm_A K s.heap.size q := fun _ h => h
  intro n
  induction n with
  | zero => intro x1 x2 σ o1 h; simp [mX5_errors_L4] at h
  | succ n ih =>
    intro x1 x2 σ o1 h kk ls H locs hl hH
    rw [mX5_errors_L4] at h
    refine lv_iload_n hx hb dX5_errors_4 rfl (lv_at hl 2 rfl) ?_
    refine lv_bipush (v := 64) hx hb dX5_errors_5 (by decide) ?_
    refine lv_icmp_ge (tgt := 68) hx hb dX5_errors_7 (by decide) (fun hc => ?_) (fun hc => ?_)
    · replace h := mi_pos hc h
      cases h
      exact kk _ _ _ (lv_sub hl [1] rfl) hH
    · replace h := mi_neg hc h
      refine lv_iload_n hx hb dX5_errors_10 rfl (lv_at hl 2 rfl) ?_
      refine lv_bipush (v := 8) hx hb dX5_errors_11 (by decide) ?_
      refine lv_idiv hx hb dX5_errors_13 (by decide) ?_
      refine lv_iload_n hx hb dX5_errors_14 rfl (lv_at hl 2 rfl) ?_
      refine lv_bipush (v := 8) hx hb dX5_errors_15 (by decide) ?_
      refine lv_irem hx hb dX5_errors_17 (by decide) ?_
      obtain ⟨v1_0, hd, h2⟩ := mi_b1 h
      have kj : ∀ (ls : Array Slot) (H : Heap) (locs : List Loc), lv_has ls 4 [(0, .ref (K.2.2.2 40)), (1, .int x1), (2, .int x2)] → fm_H K σ (fm_A K s.heap.size) s H locs → W p l e rmX5_errors s m args below meth c H locs 0 0 Q (F0 m 48 ls [.int v1_0]) := by
        clear h hd
        intro ls H locs hl hH
        have h := h2
        clear h2
        refine lv_istore_n (lv' := [(3, .int v1_0), (0, .ref (K.2.2.2 40)), (1, .int x1), (2, .int x2)]) hx hb dX5_errors_48 rfl hl (by decide) rfl (fun ls hl => ?_)
        refine lv_iload_n hx hb dX5_errors_49 rfl (lv_at hl 2 rfl) ?_
        refine lv_iload_n hx hb dX5_errors_50 rfl (lv_at hl 0 rfl) ?_
        obtain ⟨v2_0, hd, h2⟩ := mi_b1 h
        have kj : ∀ (ls : Array Slot) (H : Heap) (locs : List Loc), lv_has ls 4 [(0, .ref (K.2.2.2 40)), (2, .int x2)] → fm_H K σ (fm_A K s.heap.size) s H locs → W p l e rmX5_errors s m args below meth c H locs 0 0 Q (F0 m 60 ls [.int v2_0, .int x1]) := by
          clear h hd
          intro ls H locs hl hH
          have h := h2
          clear h2
          refine lv_iadd hx hb dX5_errors_60 ?_
          refine lv_istore_n (lv' := [(1, .int (x1 + v2_0)), (0, .ref (K.2.2.2 40)), (2, .int x2)]) hx hb dX5_errors_61 rfl hl (by decide) rfl (fun ls hl => ?_)
          refine lv_iinc (v := (x2 + 1)) (lv' := [(2, .int (x2 + 1)), (1, .int (x1 + v2_0)), (0, .ref (K.2.2.2 40))]) hx hb dX5_errors_62 hl (k := 2) rfl rfl (by decide) rfl (fun ls hl => ?_)
          refine lv_goto (tgt := 4) hx hb dX5_errors_65 (by decide) ?_
          exact ih _ _ _ _ h kk _ _ _ (lv_sub hl [2, 1, 0] rfl) hH
        replace h := hd
        clear h2 hd
        refine lv_if_ge (tgt := 59) hx hb dX5_errors_51 (by decide) (fun hc => ?_) (fun hc => ?_)
        · replace h := mi_pos hc h
          refine lv_iload_n hx hb dX5_errors_59 rfl (lv_at hl 0 rfl) ?_
          cases h
          exact kj _ _ _ (lv_sub hl [1, 3] rfl) hH
        · replace h := mi_neg hc h
          refine lv_iload_n hx hb dX5_errors_54 rfl (lv_at hl 0 rfl) ?_
          refine lv_ineg hx hb dX5_errors_55 ?_
          refine lv_goto (tgt := 60) hx hb dX5_errors_56 (by decide) ?_
          cases h
          exact kj _ _ _ (lv_sub hl [1, 3] rfl) hH
      replace h := hd
      clear h2 hd
      refine lv_icmp_ge (tgt := 47) hx hb dX5_errors_18 (by decide) (fun hc => ?_) (fun hc => ?_)
      · replace h := mi_pos hc h
        refine lv_iconst (v := 0) hx hb dX5_errors_47 (by decide) ?_
        cases h
        exact kj _ _ _ (lv_sub hl [0, 1, 2] rfl) hH
      · replace h := mi_neg hc h
        refine lv_iload_n hx hb dX5_errors_21 rfl (lv_at hl 2 rfl) ?_
        refine lv_bipush (v := 8) hx hb dX5_errors_22 (by decide) ?_
        refine lv_irem hx hb dX5_errors_24 (by decide) ?_
        refine lv_aload_n hx hb dX5_errors_25 rfl (lv_at hl 0 rfl) ?_
        refine fm_getf (T := TX5) (N := 17) hx hb hts (fun _ h => List.mem_cons_of_mem _ (List.mem_append_right _ h)) hown hst.1 hH 40 (by decide) rfl (fm_ob_40 _ _) rfl 10 (by decide) (List.mem_of_getElem? (i := 1) rfl) rfl rfl dX5_errors_26 ?_
        refine lv_icmp_ge (tgt := 47) hx hb dX5_errors_29 (by decide) (fun hc => ?_) (fun hc => ?_)
        · replace h := mi_pos hc h
          refine lv_iconst (v := 0) hx hb dX5_errors_47 (by decide) ?_
          cases h
          exact kj _ _ _ (lv_sub hl [0, 1, 2] rfl) hH
        · replace h := mi_neg hc h
          refine lv_aload_n hx hb dX5_errors_32 rfl (lv_at hl 0 rfl) ?_
          refine lv_iload_n hx hb dX5_errors_33 rfl (lv_at hl 2 rfl) ?_
          refine lv_bipush (v := 8) hx hb dX5_errors_34 (by decide) ?_
          refine lv_idiv hx hb dX5_errors_36 (by decide) ?_
          refine lv_iload_n hx hb dX5_errors_37 rfl (lv_at hl 2 rfl) ?_
          refine lv_bipush (v := 8) hx hb dX5_errors_38 (by decide) ?_
          refine lv_irem hx hb dX5_errors_40 (by decide) ?_
          obtain ⟨r41, h41, h⟩ := mi_b1 h
          refine fm_ci (va_runV (As := [.int (x2 / (8 : Int32)), .int (x2 - x2 / (8 : Int32) * (8 : Int32))]) (rest := []) C (kX5_above l K h41 _) (cwV 2 hts gX5_errors_X5_above rfl rfl rfl (by decide +kernel) ⟨(Nat.le_of_ble_eq_true rfl), (Nat.le_of_ble_eq_true rfl)⟩) ⟨fm_blind, fm_recv hst hH (q := 40) (by decide) rfl (fm_ob_40 _ _) rfl, fm_pre hst hA hH⟩ rfl rfl hl.1 rfl (lv_room (Nat.le_of_ble_eq_true rfl)) dX5_errors_41 ⟨(Nat.le_of_ble_eq_true rfl), (Nat.le_of_ble_eq_true rfl)⟩) hA hH (fun H locs hH => ?_)
          refine lv_goto (tgt := 48) hx hb dX5_errors_44 (by decide) ?_
          cases h
          exact kj _ _ _ (lv_sub hl [0, 1, 2] rfl) hH
def mX5_errors (σ : fm_S) : Option Int32 :=
  mb1 (mX5_errors_L4 fF (0 : Int32) (0 : Int32) σ) fun y4_1 =>
  some y4_1
set_option maxHeartbeats 4000000 in
set_option maxRecDepth 100000 in
theorem kX5_errors (l : Launch) (K : fm_K) {σ : fm_S} {r : Int32} (h : mX5_errors σ = some r) : fm_CI l yX5_errors wsX5_errors rmX5_errors K [.ref (K.2.2.2 40)] σ r σ := by
  intro sz
  refine fm_start (Qc := fun sz => fm_QI K r σ sz) (cc := cX5_errors) (maxL := 4) (ret := (some .int)) (by decide) rfl (Nat.le_of_ble_eq_true rfl) ?_
  intro p e s m args below meth c C hr hlk hst hH ls hl
  have C : CallFix p m c cX5_errors 4 s args wsX5_errors RX5 := C
  obtain ⟨hx, hb, hml, hown, hts⟩ := id C
  have hA : ∀ q, fm_A K s.heap.size q → fm_A K s.heap.size q := fun _ h => h
  have hl : lv_has ls 4 [(0, .ref (K.2.2.2 40))] := hl
  generalize hQ : MQ below _ args s _ _ _ = Q
  rw [mX5_errors] at h
  refine lv_iconst (v := 0) hx hb dX5_errors_0 (by decide) ?_
  refine lv_istore_n (lv' := [(1, .int (0 : Int32)), (0, .ref (K.2.2.2 40))]) hx hb dX5_errors_1 rfl hl (by decide) rfl (fun ls hl => ?_)
  refine lv_iconst (v := 0) hx hb dX5_errors_2 (by decide) ?_
  refine lv_istore_n (lv' := [(2, .int (0 : Int32)), (1, .int (0 : Int32)), (0, .ref (K.2.2.2 40))]) hx hb dX5_errors_3 rfl hl (by decide) rfl (fun ls hl => ?_)
  obtain ⟨y4_1, h4, h⟩ := mi_b1 h
  refine wX5_errors_L4 C hst _ _ _ _ _ h4 (fun ls H locs hl hH => ?_) _ _ _ (lv_sub hl [2, 1, 0] rfl) hH
  refine lv_iload_n hx hb dX5_errors_68 rfl (lv_at hl 0 rfl) ?_
  cases h
  subst hQ
  exact fm_iret hx hb hr hlk hst hH dX5_errors_69
/-! RX5.error()I -/
abbrev rmX5_error : Room := { frames := 4, cells := 0, slots := 0, locals := 93 }
def mX5_error (σ : fm_S) : Option (Int32 × fm_S) :=
  mb1 (mX5_errors (fm_wr σ 61 2 (0 : Int32))) fun r6 =>
  some (r6, (fm_wr σ 61 2 (0 : Int32)))
set_option maxHeartbeats 4000000 in
set_option maxRecDepth 100000 in
theorem kX5_error (l : Launch) (K : fm_K) {σ : fm_S} {r : Int32} {σ' : fm_S} (h : mX5_error σ = some (r, σ')) : fm_CI l yX5_error wsX5_error rmX5_error K [.ref (K.2.2.2 40)] σ r σ' := by
  intro sz
  refine fm_start (Qc := fun sz => fm_QI K r σ' sz) (cc := cX5_error) (maxL := 1) (ret := (some .int)) (by decide) rfl (Nat.le_of_ble_eq_true rfl) ?_
  intro p e s m args below meth c C hr hlk hst hH ls hl
  have C : CallFix p m c cX5_error 1 s args wsX5_error RX5 := C
  obtain ⟨hx, hb, hml, hown, hts⟩ := id C
  have hA : ∀ q, fm_A K s.heap.size q → fm_A K s.heap.size q := fun _ h => h
  have hl : lv_has ls 1 [(0, .ref (K.2.2.2 40))] := hl
  generalize hQ : MQ below _ args s _ _ _ = Q
  rw [mX5_error] at h
  refine lv_aload_n hx hb dX5_error_0 rfl (lv_at hl 0 rfl) ?_
  refine lv_iconst (v := 0) hx hb dX5_error_1 (by decide) ?_
  refine fm_putf (T := TX5) (N := 17) hx hb hts (fun _ h => List.mem_cons_of_mem _ (List.mem_append_right _ h)) tyX5 tyX5_ok nmX5 hown hst.1 hH 40 61 2 (by decide) rfl (by decide) (fm_ob_40 _ _) rfl 16 (by decide) (List.mem_of_getElem? (i := 1) rfl) rfl rfl rfl rfl (Nat.le_of_ble_eq_true rfl) dX5_error_2 (fun H locs hH => ?_)
  refine lv_aload_n hx hb dX5_error_5 rfl (lv_at hl 0 rfl) ?_
  obtain ⟨r6, h6, h⟩ := mi_b1 h
  refine fm_ci (va_runV (As := []) (rest := []) C (kX5_errors l K h6 _) (cwV 0 hts gX5_error_X5_errors rfl rfl rfl (by decide +kernel) ⟨(Nat.le_of_ble_eq_true rfl), (Nat.le_of_ble_eq_true rfl)⟩) ⟨fm_blind, fm_recv hst hH (q := 40) (by decide) rfl (fm_ob_40 _ _) rfl, fm_pre hst hA hH⟩ rfl rfl hl.1 rfl (lv_room (Nat.le_of_ble_eq_true rfl)) dX5_error_6 ⟨(Nat.le_of_ble_eq_true rfl), (Nat.le_of_ble_eq_true rfl)⟩) hA hH (fun H locs hH => ?_)
  cases h
  subst hQ
  exact fm_iret hx hb hr hlk hst hH dX5_error_9
/-! RX5.step(J)I -/
abbrev rmX5_step : Room := { frames := 0, cells := 0, slots := 0, locals := 0 }
def mX5_step (x0 : Int64) : Option Int32 :=
  if 0 ≤ (lg_cmp (x0 / (1000000 : Int64)) (-50 : Int64)) then
    if (lg_cmp (x0 / (1000000 : Int64)) (50 : Int64)) ≤ 0 then
      some ((x0 / (1000000 : Int64)).toInt32)
    else
      some (50 : Int32)
  else
    some (-50 : Int32)
set_option maxHeartbeats 4000000 in
set_option maxRecDepth 100000 in
theorem kX5_step (l : Launch) (K : fm_K) {x0 : Int64} {σ : fm_S} {r : Int32} (h : mX5_step x0 = some r) : fm_CI l yX5_step wsX5_step rmX5_step K [.long x0] σ r σ := by
  intro sz
  refine fm_start (Qc := fun sz => fm_QI K r σ sz) (cc := cX5_step) (maxL := 4) (ret := (some .int)) (by decide) rfl (Nat.le_of_ble_eq_true rfl) ?_
  intro p e s m args below meth c C hr hlk hst hH ls hl
  have C : CallFix p m c cX5_step 4 s args wsX5_step RX5 := C
  obtain ⟨hx, hb, hml, hown, hts⟩ := id C
  have hA : ∀ q, fm_A K s.heap.size q → fm_A K s.heap.size q := fun _ h => h
  have hl : lv_has ls 4 [(0, .long x0)] := hl
  generalize hQ : MQ below _ args s _ _ _ = Q
  rw [mX5_step] at h
  refine lv_lload_n hx hb dX5_step_0 rfl (lv_at hl 0 rfl) ?_
  refine lv_ldc2 (v := 1000000) hx hb hown (hts (.constantLong RX5 122 (1000000)) (List.mem_of_getElem? (i := 1) rfl)) dX5_step_1 ?_
  refine lv_ldiv hx hb dX5_step_4 (by decide) ?_
  refine lv_lstore_n (lv' := [(2, .long (x0 / (1000000 : Int64))), (0, .long x0)]) hx hb dX5_step_5 rfl hl (by decide) rfl (fun ls hl => ?_)
  refine lv_lload_n hx hb dX5_step_6 rfl (lv_at hl 0 rfl) ?_
  refine lv_ldc2 (v := -50) hx hb hown (hts (.constantLong RX5 124 (-50)) (List.mem_of_getElem? (i := 2) rfl)) dX5_step_7 ?_
  refine W.lcmp hx hb dX5_step_10 ?_
  refine lv_if_ge (tgt := 19) hx hb dX5_step_11 (by decide) (fun hc => ?_) (fun hc => ?_)
  · replace h := mi_pos hc h
    refine lv_lload_n hx hb dX5_step_19 rfl (lv_at hl 0 rfl) ?_
    refine lv_ldc2 (v := 50) hx hb hown (hts (.constantLong RX5 126 (50)) (List.mem_of_getElem? (i := 3) rfl)) dX5_step_20 ?_
    refine W.lcmp hx hb dX5_step_23 ?_
    refine lv_if_le (tgt := 32) hx hb dX5_step_24 (by decide) (fun hc => ?_) (fun hc => ?_)
    · replace h := mi_pos hc h
      refine lv_lload_n hx hb dX5_step_32 rfl (lv_at hl 0 rfl) ?_
      refine lv_l2i (v := (x0 / (1000000 : Int64)).toInt32) hx hb dX5_step_33 rfl ?_
      cases h
      subst hQ
      exact fm_iret hx hb hr hlk hst hH dX5_step_34
    · replace h := mi_neg hc h
      refine lv_bipush (v := 50) hx hb dX5_step_27 (by decide) ?_
      refine lv_goto (tgt := 34) hx hb dX5_step_29 (by decide) ?_
      cases h
      subst hQ
      exact fm_iret hx hb hr hlk hst hH dX5_step_34
  · replace h := mi_neg hc h
    refine lv_bipush (v := -50) hx hb dX5_step_14 (by decide) ?_
    refine lv_goto (tgt := 34) hx hb dX5_step_16 (by decide) ?_
    cases h
    subst hQ
    exact fm_iret hx hb hr hlk hst hH dX5_step_34
/-! RX5.within(I)I -/
abbrev rmX5_within : Room := { frames := 0, cells := 0, slots := 0, locals := 0 }
def mX5_within (x0 : Int32) : Option Int32 :=
  if (-1000 : Int32) ≤ x0 then
    if x0 ≤ (1000 : Int32) then
      some x0
    else
      some (1000 : Int32)
  else
    some (-1000 : Int32)
set_option maxHeartbeats 4000000 in
set_option maxRecDepth 100000 in
theorem kX5_within (l : Launch) (K : fm_K) {x0 : Int32} {σ : fm_S} {r : Int32} (h : mX5_within x0 = some r) : fm_CI l yX5_within wsX5_within rmX5_within K [.int x0] σ r σ := by
  intro sz
  refine fm_start (Qc := fun sz => fm_QI K r σ sz) (cc := cX5_within) (maxL := 1) (ret := (some .int)) (by decide) rfl (Nat.le_of_ble_eq_true rfl) ?_
  intro p e s m args below meth c C hr hlk hst hH ls hl
  have C : CallFix p m c cX5_within 1 s args wsX5_within RX5 := C
  obtain ⟨hx, hb, hml, hown, hts⟩ := id C
  have hA : ∀ q, fm_A K s.heap.size q → fm_A K s.heap.size q := fun _ h => h
  have hl : lv_has ls 1 [(0, .int x0)] := hl
  generalize hQ : MQ below _ args s _ _ _ = Q
  rw [mX5_within] at h
  refine lv_iload_n hx hb dX5_within_0 rfl (lv_at hl 0 rfl) ?_
  refine lv_sipush (v := -1000) hx hb dX5_within_1 (by decide) ?_
  refine lv_icmp_ge (tgt := 13) hx hb dX5_within_4 (by decide) (fun hc => ?_) (fun hc => ?_)
  · replace h := mi_pos hc h
    refine lv_iload_n hx hb dX5_within_13 rfl (lv_at hl 0 rfl) ?_
    refine lv_sipush (v := 1000) hx hb dX5_within_14 (by decide) ?_
    refine lv_icmp_le (tgt := 26) hx hb dX5_within_17 (by decide) (fun hc => ?_) (fun hc => ?_)
    · replace h := mi_pos hc h
      refine lv_iload_n hx hb dX5_within_26 rfl (lv_at hl 0 rfl) ?_
      cases h
      subst hQ
      exact fm_iret hx hb hr hlk hst hH dX5_within_27
    · replace h := mi_neg hc h
      refine lv_sipush (v := 1000) hx hb dX5_within_20 (by decide) ?_
      refine lv_goto (tgt := 27) hx hb dX5_within_23 (by decide) ?_
      cases h
      subst hQ
      exact fm_iret hx hb hr hlk hst hH dX5_within_27
  · replace h := mi_neg hc h
    refine lv_sipush (v := -1000) hx hb dX5_within_7 (by decide) ?_
    refine lv_goto (tgt := 27) hx hb dX5_within_10 (by decide) ?_
    cases h
    subst hQ
    exact fm_iret hx hb hr hlk hst hH dX5_within_27
/-! RX5.settles()V -/
abbrev rmX5_settles : Room := { frames := 3, cells := 0, slots := 0, locals := 70 }
def mX5_settles_L18 : Nat → Int32 → Int64 → Int64 → Int32 → fm_S → Option (Int64 × Int64)
  | 0, _, _, _, _, _ => none
  | n + 1, x1, x2, x4, x6, σ =>
    if (σ.1 61 0) ≤ x6 then
      some (x2, x4)
    else
      mb1 (mX5_above x1 x6 σ) fun r31 =>
      if (x1 < 0 ∨ 8 ≤ x1.toNatClampNeg) then none else
      if (x6 < 0 ∨ 8 ≤ x6.toNatClampNeg) then none else
      mX5_settles_L18 n x1 (x2 + ((r31.toInt64) * (((rI σ 41 x1) - (rI σ 41 x6)).toInt64))) (x4 + ((r31.toInt64) * (((rI σ 42 x1) - (rI σ 42 x6)).toInt64))) (x6 + 1) σ
set_option maxHeartbeats 4000000 in
set_option maxRecDepth 100000 in
theorem wX5_settles_L18 {p : Program} {l : Launch} {e : Env} {s : State} {m : MethodId} {args : Array Value} {below : List Frame} {meth : Method} {c : Code} {Q : State → Prop} {K : fm_K} (C : CallFix p m c cX5_settles 8 s args wsX5_settles RX5) (hst : fm_st K (fm_A K s.heap.size) s s.heap) :
    ∀ (n : Nat) (x1 : Int32) (x2 : Int64) (x4 : Int64) (x6 : Int32) (σ : fm_S) (o2 : Int64) (o4 : Int64), mX5_settles_L18 n x1 x2 x4 x6 σ = some (o2, o4) → (∀ (ls : Array Slot) (H : Heap) (locs : List Loc), lv_has ls 8 [(0, .ref (K.2.2.2 40)), (1, .int x1), (2, .long o2), (4, .long o4)] → fm_H K σ (fm_A K s.heap.size) s H locs → W p l e rmX5_settles s m args below meth c H locs 0 0 Q (F0 m 88 ls [])) → ∀ (ls : Array Slot) (H : Heap) (locs : List Loc), lv_has ls 8 [(0, .ref (K.2.2.2 40)), (1, .int x1), (2, .long x2), (4, .long x4), (6, .int x6)] → fm_H K σ (fm_A K s.heap.size) s H locs → W p l e rmX5_settles s m args below meth c H locs 0 0 Q (F0 m 18 ls []) := by
  obtain ⟨hx, hb, hml, hown, hts⟩ := id C
  have hA : ∀ q, fm_A K s.heap.size q → fm_A K s.heap.size q := fun _ h => h
  intro n
  induction n with
  | zero => intro x1 x2 x4 x6 σ o2 o4 h; simp [mX5_settles_L18] at h
  | succ n ih =>
    intro x1 x2 x4 x6 σ o2 o4 h kk ls H locs hl hH
    rw [mX5_settles_L18] at h
    refine lv_iload hx hb dX5_settles_18 (lv_at hl 4 rfl) ?_
    refine lv_aload_n hx hb dX5_settles_20 rfl (lv_at hl 0 rfl) ?_
    refine fm_getf (T := TX5) (N := 17) hx hb hts (fun _ h => List.mem_cons_of_mem _ (List.mem_append_right _ h)) hown hst.1 hH 40 (by decide) rfl (fm_ob_40 _ _) rfl 10 (by decide) (List.mem_of_getElem? (i := 1) rfl) rfl rfl dX5_settles_21 ?_
    refine lv_icmp_ge (tgt := 88) hx hb dX5_settles_24 (by decide) (fun hc => ?_) (fun hc => ?_)
    · replace h := mi_pos hc h
      cases h
      exact kk _ _ _ (lv_sub hl [0, 1, 2, 3] rfl) hH
    · replace h := mi_neg hc h
      refine lv_aload_n hx hb dX5_settles_27 rfl (lv_at hl 0 rfl) ?_
      refine lv_iload_n hx hb dX5_settles_28 rfl (lv_at hl 1 rfl) ?_
      refine lv_iload hx hb dX5_settles_29 (lv_at hl 4 rfl) ?_
      obtain ⟨r31, h31, h⟩ := mi_b1 h
      refine fm_ci (va_runV (As := [.int x1, .int x6]) (rest := []) C (kX5_above l K h31 _) (cwV 2 hts gX5_settles_X5_above rfl rfl rfl (by decide +kernel) ⟨(Nat.le_of_ble_eq_true rfl), (Nat.le_of_ble_eq_true rfl)⟩) ⟨fm_blind, fm_recv hst hH (q := 40) (by decide) rfl (fm_ob_40 _ _) rfl, fm_pre hst hA hH⟩ rfl rfl hl.1 rfl (lv_room (Nat.le_of_ble_eq_true rfl)) dX5_settles_31 ⟨(Nat.le_of_ble_eq_true rfl), (Nat.le_of_ble_eq_true rfl)⟩) hA hH (fun H locs hH => ?_)
      refine lv_istore (lv' := [(7, .int r31), (0, .ref (K.2.2.2 40)), (1, .int x1), (2, .long x2), (4, .long x4), (6, .int x6)]) hx hb dX5_settles_34 hl (by decide) rfl (fun ls hl => ?_)
      refine lv_lload_n hx hb dX5_settles_36 rfl (lv_at hl 3 rfl) ?_
      refine lv_iload hx hb dX5_settles_37 (lv_at hl 0 rfl) ?_
      refine lv_i2l (v := r31.toInt64) hx hb dX5_settles_39 rfl ?_
      refine lv_aload_n hx hb dX5_settles_40 rfl (lv_at hl 1 rfl) ?_
      refine fm_getf (T := TX5) (N := 17) hx hb hts (fun _ h => List.mem_cons_of_mem _ (List.mem_append_right _ h)) hown hst.1 hH 40 (by decide) rfl (fm_ob_40 _ _) rfl 0 (by decide) (List.mem_of_getElem? (i := 2) rfl) rfl rfl dX5_settles_41 ?_
      refine lv_iload_n hx hb dX5_settles_44 rfl (lv_at hl 2 rfl) ?_
      obtain ⟨hi1, h⟩ := mi_chk h
      refine fm_ild hx hb hst.1 hH 41 (by decide) rfl rfl hi1 dX5_settles_45 ?_
      refine lv_aload_n hx hb dX5_settles_46 rfl (lv_at hl 1 rfl) ?_
      refine fm_getf (T := TX5) (N := 17) hx hb hts (fun _ h => List.mem_cons_of_mem _ (List.mem_append_right _ h)) hown hst.1 hH 40 (by decide) rfl (fm_ob_40 _ _) rfl 0 (by decide) (List.mem_of_getElem? (i := 2) rfl) rfl rfl dX5_settles_47 ?_
      refine lv_iload hx hb dX5_settles_50 (lv_at hl 5 rfl) ?_
      obtain ⟨hi2, h⟩ := mi_chk h
      refine fm_ild hx hb hst.1 hH 41 (by decide) rfl rfl hi2 dX5_settles_52 ?_
      refine lv_isub hx hb dX5_settles_53 ?_
      refine lv_i2l (v := ((rI σ 41 x1) - (rI σ 41 x6)).toInt64) hx hb dX5_settles_54 rfl ?_
      refine lv_lmul hx hb dX5_settles_55 ?_
      refine lv_ladd hx hb dX5_settles_56 ?_
      refine lv_lstore_n (lv' := [(2, .long (x2 + ((r31.toInt64) * (((rI σ 41 x1) - (rI σ 41 x6)).toInt64)))), (7, .int r31), (0, .ref (K.2.2.2 40)), (1, .int x1), (4, .long x4), (6, .int x6)]) hx hb dX5_settles_57 rfl hl (by decide) rfl (fun ls hl => ?_)
      refine lv_lload hx hb dX5_settles_58 (lv_at hl 4 rfl) ?_
      refine lv_iload hx hb dX5_settles_60 (lv_at hl 1 rfl) ?_
      refine lv_i2l (v := r31.toInt64) hx hb dX5_settles_62 rfl ?_
      refine lv_aload_n hx hb dX5_settles_63 rfl (lv_at hl 2 rfl) ?_
      refine fm_getf (T := TX5) (N := 17) hx hb hts (fun _ h => List.mem_cons_of_mem _ (List.mem_append_right _ h)) hown hst.1 hH 40 (by decide) rfl (fm_ob_40 _ _) rfl 1 (by decide) (List.mem_of_getElem? (i := 3) rfl) rfl rfl dX5_settles_64 ?_
      refine lv_iload_n hx hb dX5_settles_67 rfl (lv_at hl 3 rfl) ?_
      refine fm_ild hx hb hst.1 hH 42 (by decide) rfl rfl hi1 dX5_settles_68 ?_
      refine lv_aload_n hx hb dX5_settles_69 rfl (lv_at hl 2 rfl) ?_
      refine fm_getf (T := TX5) (N := 17) hx hb hts (fun _ h => List.mem_cons_of_mem _ (List.mem_append_right _ h)) hown hst.1 hH 40 (by decide) rfl (fm_ob_40 _ _) rfl 1 (by decide) (List.mem_of_getElem? (i := 3) rfl) rfl rfl dX5_settles_70 ?_
      refine lv_iload hx hb dX5_settles_73 (lv_at hl 5 rfl) ?_
      refine fm_ild hx hb hst.1 hH 42 (by decide) rfl rfl hi2 dX5_settles_75 ?_
      refine lv_isub hx hb dX5_settles_76 ?_
      refine lv_i2l (v := ((rI σ 42 x1) - (rI σ 42 x6)).toInt64) hx hb dX5_settles_77 rfl ?_
      refine lv_lmul hx hb dX5_settles_78 ?_
      refine lv_ladd hx hb dX5_settles_79 ?_
      refine lv_lstore (lv' := [(4, .long (x4 + ((r31.toInt64) * (((rI σ 42 x1) - (rI σ 42 x6)).toInt64)))), (2, .long (x2 + ((r31.toInt64) * (((rI σ 41 x1) - (rI σ 41 x6)).toInt64)))), (7, .int r31), (0, .ref (K.2.2.2 40)), (1, .int x1), (6, .int x6)]) hx hb dX5_settles_80 hl (by decide) rfl (fun ls hl => ?_)
      refine lv_iinc (v := (x6 + 1)) (lv' := [(6, .int (x6 + 1)), (4, .long (x4 + ((r31.toInt64) * (((rI σ 42 x1) - (rI σ 42 x6)).toInt64)))), (2, .long (x2 + ((r31.toInt64) * (((rI σ 41 x1) - (rI σ 41 x6)).toInt64)))), (7, .int r31), (0, .ref (K.2.2.2 40)), (1, .int x1)]) hx hb dX5_settles_82 hl (k := 5) rfl rfl (by decide) rfl (fun ls hl => ?_)
      refine lv_goto (tgt := 18) hx hb dX5_settles_85 (by decide) ?_
      exact ih _ _ _ _ _ _ _ h kk _ _ _ (lv_sub hl [4, 5, 2, 1, 0] rfl) hH
def mX5_settles_L2 : Nat → Int32 → fm_S → Option (fm_S)
  | 0, _, _ => none
  | n + 1, x1, σ =>
    if (σ.1 61 0) ≤ x1 then
      some σ
    else
      mb2 (mX5_settles_L18 fF x1 (0 : Int64) (0 : Int64) (0 : Int32) σ) fun y18_2 y18_4 =>
      mb1 (mX5_step y18_2) fun r94 =>
      if (x1 < 0 ∨ 8 ≤ x1.toNatClampNeg) then none else
      mb1 (mX5_step y18_4) fun r105 =>
      mX5_settles_L2 n (x1 + 1) (sI (sI σ 51 x1 r94) 52 x1 r105)
set_option maxHeartbeats 4000000 in
set_option maxRecDepth 100000 in
theorem wX5_settles_L2 {p : Program} {l : Launch} {e : Env} {s : State} {m : MethodId} {args : Array Value} {below : List Frame} {meth : Method} {c : Code} {Q : State → Prop} {K : fm_K} (C : CallFix p m c cX5_settles 8 s args wsX5_settles RX5) (hst : fm_st K (fm_A K s.heap.size) s s.heap) :
    ∀ (n : Nat) (x1 : Int32) (σ : fm_S) (σo : fm_S), mX5_settles_L2 n x1 σ = some σo → (∀ (ls : Array Slot) (H : Heap) (locs : List Loc), lv_has ls 8 [(0, .ref (K.2.2.2 40))] → fm_H K σo (fm_A K s.heap.size) s H locs → W p l e rmX5_settles s m args below meth c H locs 0 0 Q (F0 m 115 ls [])) → ∀ (ls : Array Slot) (H : Heap) (locs : List Loc), lv_has ls 8 [(0, .ref (K.2.2.2 40)), (1, .int x1)] → fm_H K σ (fm_A K s.heap.size) s H locs → W p l e rmX5_settles s m args below meth c H locs 0 0 Q (F0 m 2 ls []) := by
  obtain ⟨hx, hb, hml, hown, hts⟩ := id C
  have hA : ∀ q, fm_A K s.heap.size q → fm_A K s.heap.size q := fun _ h => h
  intro n
  induction n with
  | zero => intro x1 σ σo h; simp [mX5_settles_L2] at h
  | succ n ih =>
    intro x1 σ σo h kk ls H locs hl hH
    rw [mX5_settles_L2] at h
    refine lv_iload_n hx hb dX5_settles_2 rfl (lv_at hl 1 rfl) ?_
    refine lv_aload_n hx hb dX5_settles_3 rfl (lv_at hl 0 rfl) ?_
    refine fm_getf (T := TX5) (N := 17) hx hb hts (fun _ h => List.mem_cons_of_mem _ (List.mem_append_right _ h)) hown hst.1 hH 40 (by decide) rfl (fm_ob_40 _ _) rfl 10 (by decide) (List.mem_of_getElem? (i := 1) rfl) rfl rfl dX5_settles_4 ?_
    refine lv_icmp_ge (tgt := 115) hx hb dX5_settles_7 (by decide) (fun hc => ?_) (fun hc => ?_)
    · replace h := mi_pos hc h
      cases h
      exact kk _ _ _ (lv_sub hl [0] rfl) hH
    · replace h := mi_neg hc h
      refine lv_lconst (v := 0) hx hb dX5_settles_10 (by decide) ?_
      refine lv_lstore_n (lv' := [(2, .long (0 : Int64)), (0, .ref (K.2.2.2 40)), (1, .int x1)]) hx hb dX5_settles_11 rfl hl (by decide) rfl (fun ls hl => ?_)
      refine lv_lconst (v := 0) hx hb dX5_settles_12 (by decide) ?_
      refine lv_lstore (lv' := [(4, .long (0 : Int64)), (2, .long (0 : Int64)), (0, .ref (K.2.2.2 40)), (1, .int x1)]) hx hb dX5_settles_13 hl (by decide) rfl (fun ls hl => ?_)
      refine lv_iconst (v := 0) hx hb dX5_settles_15 (by decide) ?_
      refine lv_istore (lv' := [(6, .int (0 : Int32)), (4, .long (0 : Int64)), (2, .long (0 : Int64)), (0, .ref (K.2.2.2 40)), (1, .int x1)]) hx hb dX5_settles_16 hl (by decide) rfl (fun ls hl => ?_)
      obtain ⟨y18_2, y18_4, h18, h⟩ := mi_b2 h
      refine wX5_settles_L18 C hst _ _ _ _ _ _ _ _ h18 (fun ls H locs hl hH => ?_) _ _ _ (lv_sub hl [3, 4, 2, 1, 0] rfl) hH
      refine lv_aload_n hx hb dX5_settles_88 rfl (lv_at hl 0 rfl) ?_
      refine fm_getf (T := TX5) (N := 17) hx hb hts (fun _ h => List.mem_cons_of_mem _ (List.mem_append_right _ h)) hown hst.1 hH 40 (by decide) rfl (fm_ob_40 _ _) rfl 12 (by decide) (List.mem_of_getElem? (i := 4) rfl) rfl rfl dX5_settles_89 ?_
      refine lv_iload_n hx hb dX5_settles_92 rfl (lv_at hl 1 rfl) ?_
      refine lv_lload_n hx hb dX5_settles_93 rfl (lv_at hl 2 rfl) ?_
      obtain ⟨r94, h94, h⟩ := mi_b1 h
      refine fm_ci (va_runS (As := [.long y18_2]) (rest := [.int x1, .ref (K.2.2.2 51)]) C (kX5_step l K h94 _) (va_cwS 1 hts gX5_settles_X5_step rfl rfl rfl (by decide +kernel) ⟨(Nat.le_of_ble_eq_true rfl), (Nat.le_of_ble_eq_true rfl)⟩) ⟨fm_blind, fm_pre hst hA hH⟩ rfl rfl hl.1 rfl (lv_room (Nat.le_of_ble_eq_true rfl)) dX5_settles_94 ⟨(Nat.le_of_ble_eq_true rfl), (Nat.le_of_ble_eq_true rfl)⟩) hA hH (fun H locs hH => ?_)
      obtain ⟨hi3, h⟩ := mi_chk h
      refine fm_ist hx hb hst.1 hH 51 (by decide) rfl rfl hi3 dX5_settles_97 (fun H locs hH => ?_)
      refine lv_aload_n hx hb dX5_settles_98 rfl (lv_at hl 0 rfl) ?_
      refine fm_getf (T := TX5) (N := 17) hx hb hts (fun _ h => List.mem_cons_of_mem _ (List.mem_append_right _ h)) hown hst.1 hH 40 (by decide) rfl (fm_ob_40 _ _) rfl 13 (by decide) (List.mem_of_getElem? (i := 5) rfl) rfl rfl dX5_settles_99 ?_
      refine lv_iload_n hx hb dX5_settles_102 rfl (lv_at hl 1 rfl) ?_
      refine lv_lload hx hb dX5_settles_103 (lv_at hl 3 rfl) ?_
      obtain ⟨r105, h105, h⟩ := mi_b1 h
      refine fm_ci (va_runS (As := [.long y18_4]) (rest := [.int x1, .ref (K.2.2.2 52)]) C (kX5_step l K h105 _) (va_cwS 1 hts gX5_settles_X5_step rfl rfl rfl (by decide +kernel) ⟨(Nat.le_of_ble_eq_true rfl), (Nat.le_of_ble_eq_true rfl)⟩) ⟨fm_blind, fm_pre hst hA hH⟩ rfl rfl hl.1 rfl (lv_room (Nat.le_of_ble_eq_true rfl)) dX5_settles_105 ⟨(Nat.le_of_ble_eq_true rfl), (Nat.le_of_ble_eq_true rfl)⟩) hA hH (fun H locs hH => ?_)
      refine fm_ist hx hb hst.1 hH 52 (by decide) rfl rfl hi3 dX5_settles_108 (fun H locs hH => ?_)
      refine lv_iinc (v := (x1 + 1)) (lv' := [(1, .int (x1 + 1)), (0, .ref (K.2.2.2 40)), (2, .long y18_2), (4, .long y18_4)]) hx hb dX5_settles_109 hl (k := 1) rfl rfl (by decide) rfl (fun ls hl => ?_)
      refine lv_goto (tgt := 2) hx hb dX5_settles_112 (by decide) ?_
      exact ih _ _ _ h kk _ _ _ (lv_sub hl [1, 0] rfl) hH
def mX5_settles_L117 : Nat → Int32 → fm_S → Option (fm_S)
  | 0, _, _ => none
  | n + 1, x1, σ =>
    if (σ.1 61 0) ≤ x1 then
      some σ
    else
      if (x1 < 0 ∨ 8 ≤ x1.toNatClampNeg) then none else
      mb1 (mX5_within ((rI σ 41 x1) - (rI σ 51 x1))) fun r143 =>
      mb1 (mX5_within ((rI (sI σ 41 x1 r143) 42 x1) - (rI (sI σ 41 x1 r143) 52 x1))) fun r165 =>
      mX5_settles_L117 n (x1 + 1) (sI (sI σ 41 x1 r143) 42 x1 r165)
set_option maxHeartbeats 4000000 in
set_option maxRecDepth 100000 in
theorem wX5_settles_L117 {p : Program} {l : Launch} {e : Env} {s : State} {m : MethodId} {args : Array Value} {below : List Frame} {meth : Method} {c : Code} {Q : State → Prop} {K : fm_K} (C : CallFix p m c cX5_settles 8 s args wsX5_settles RX5) (hst : fm_st K (fm_A K s.heap.size) s s.heap) :
    ∀ (n : Nat) (x1 : Int32) (σ : fm_S) (σo : fm_S), mX5_settles_L117 n x1 σ = some σo → (∀ (ls : Array Slot) (H : Heap) (locs : List Loc), lv_has ls 8 [] → fm_H K σo (fm_A K s.heap.size) s H locs → W p l e rmX5_settles s m args below meth c H locs 0 0 Q (F0 m 175 ls [])) → ∀ (ls : Array Slot) (H : Heap) (locs : List Loc), lv_has ls 8 [(0, .ref (K.2.2.2 40)), (1, .int x1)] → fm_H K σ (fm_A K s.heap.size) s H locs → W p l e rmX5_settles s m args below meth c H locs 0 0 Q (F0 m 117 ls []) := by
  obtain ⟨hx, hb, hml, hown, hts⟩ := id C
  have hA : ∀ q, fm_A K s.heap.size q → fm_A K s.heap.size q := fun _ h => h
  intro n
  induction n with
  | zero => intro x1 σ σo h; simp [mX5_settles_L117] at h
  | succ n ih =>
    intro x1 σ σo h kk ls H locs hl hH
    rw [mX5_settles_L117] at h
    refine lv_iload_n hx hb dX5_settles_117 rfl (lv_at hl 1 rfl) ?_
    refine lv_aload_n hx hb dX5_settles_118 rfl (lv_at hl 0 rfl) ?_
    refine fm_getf (T := TX5) (N := 17) hx hb hts (fun _ h => List.mem_cons_of_mem _ (List.mem_append_right _ h)) hown hst.1 hH 40 (by decide) rfl (fm_ob_40 _ _) rfl 10 (by decide) (List.mem_of_getElem? (i := 1) rfl) rfl rfl dX5_settles_119 ?_
    refine lv_icmp_ge (tgt := 175) hx hb dX5_settles_122 (by decide) (fun hc => ?_) (fun hc => ?_)
    · replace h := mi_pos hc h
      cases h
      exact kk _ _ _ (lv_sub hl [] rfl) hH
    · replace h := mi_neg hc h
      refine lv_aload_n hx hb dX5_settles_125 rfl (lv_at hl 0 rfl) ?_
      refine fm_getf (T := TX5) (N := 17) hx hb hts (fun _ h => List.mem_cons_of_mem _ (List.mem_append_right _ h)) hown hst.1 hH 40 (by decide) rfl (fm_ob_40 _ _) rfl 0 (by decide) (List.mem_of_getElem? (i := 2) rfl) rfl rfl dX5_settles_126 ?_
      refine lv_iload_n hx hb dX5_settles_129 rfl (lv_at hl 1 rfl) ?_
      refine lv_aload_n hx hb dX5_settles_130 rfl (lv_at hl 0 rfl) ?_
      refine fm_getf (T := TX5) (N := 17) hx hb hts (fun _ h => List.mem_cons_of_mem _ (List.mem_append_right _ h)) hown hst.1 hH 40 (by decide) rfl (fm_ob_40 _ _) rfl 0 (by decide) (List.mem_of_getElem? (i := 2) rfl) rfl rfl dX5_settles_131 ?_
      refine lv_iload_n hx hb dX5_settles_134 rfl (lv_at hl 1 rfl) ?_
      obtain ⟨hi4, h⟩ := mi_chk h
      refine fm_ild hx hb hst.1 hH 41 (by decide) rfl rfl hi4 dX5_settles_135 ?_
      refine lv_aload_n hx hb dX5_settles_136 rfl (lv_at hl 0 rfl) ?_
      refine fm_getf (T := TX5) (N := 17) hx hb hts (fun _ h => List.mem_cons_of_mem _ (List.mem_append_right _ h)) hown hst.1 hH 40 (by decide) rfl (fm_ob_40 _ _) rfl 12 (by decide) (List.mem_of_getElem? (i := 4) rfl) rfl rfl dX5_settles_137 ?_
      refine lv_iload_n hx hb dX5_settles_140 rfl (lv_at hl 1 rfl) ?_
      refine fm_ild hx hb hst.1 hH 51 (by decide) rfl rfl hi4 dX5_settles_141 ?_
      refine lv_isub hx hb dX5_settles_142 ?_
      obtain ⟨r143, h143, h⟩ := mi_b1 h
      refine fm_ci (va_runS (As := [.int ((rI σ 41 x1) - (rI σ 51 x1))]) (rest := [.int x1, .ref (K.2.2.2 41)]) C (kX5_within l K h143 _) (va_cwS 1 hts gX5_settles_X5_within rfl rfl rfl (by decide +kernel) ⟨(Nat.le_of_ble_eq_true rfl), (Nat.le_of_ble_eq_true rfl)⟩) ⟨fm_blind, fm_pre hst hA hH⟩ rfl rfl hl.1 rfl (lv_room (Nat.le_of_ble_eq_true rfl)) dX5_settles_143 ⟨(Nat.le_of_ble_eq_true rfl), (Nat.le_of_ble_eq_true rfl)⟩) hA hH (fun H locs hH => ?_)
      refine fm_ist hx hb hst.1 hH 41 (by decide) rfl rfl hi4 dX5_settles_146 (fun H locs hH => ?_)
      refine lv_aload_n hx hb dX5_settles_147 rfl (lv_at hl 0 rfl) ?_
      refine fm_getf (T := TX5) (N := 17) hx hb hts (fun _ h => List.mem_cons_of_mem _ (List.mem_append_right _ h)) hown hst.1 hH 40 (by decide) rfl (fm_ob_40 _ _) rfl 1 (by decide) (List.mem_of_getElem? (i := 3) rfl) rfl rfl dX5_settles_148 ?_
      refine lv_iload_n hx hb dX5_settles_151 rfl (lv_at hl 1 rfl) ?_
      refine lv_aload_n hx hb dX5_settles_152 rfl (lv_at hl 0 rfl) ?_
      refine fm_getf (T := TX5) (N := 17) hx hb hts (fun _ h => List.mem_cons_of_mem _ (List.mem_append_right _ h)) hown hst.1 hH 40 (by decide) rfl (fm_ob_40 _ _) rfl 1 (by decide) (List.mem_of_getElem? (i := 3) rfl) rfl rfl dX5_settles_153 ?_
      refine lv_iload_n hx hb dX5_settles_156 rfl (lv_at hl 1 rfl) ?_
      refine fm_ild hx hb hst.1 hH 42 (by decide) rfl rfl hi4 dX5_settles_157 ?_
      refine lv_aload_n hx hb dX5_settles_158 rfl (lv_at hl 0 rfl) ?_
      refine fm_getf (T := TX5) (N := 17) hx hb hts (fun _ h => List.mem_cons_of_mem _ (List.mem_append_right _ h)) hown hst.1 hH 40 (by decide) rfl (fm_ob_40 _ _) rfl 13 (by decide) (List.mem_of_getElem? (i := 5) rfl) rfl rfl dX5_settles_159 ?_
      refine lv_iload_n hx hb dX5_settles_162 rfl (lv_at hl 1 rfl) ?_
      refine fm_ild hx hb hst.1 hH 52 (by decide) rfl rfl hi4 dX5_settles_163 ?_
      refine lv_isub hx hb dX5_settles_164 ?_
      obtain ⟨r165, h165, h⟩ := mi_b1 h
      refine fm_ci (va_runS (As := [.int ((rI (sI σ 41 x1 r143) 42 x1) - (rI (sI σ 41 x1 r143) 52 x1))]) (rest := [.int x1, .ref (K.2.2.2 42)]) C (kX5_within l K h165 _) (va_cwS 1 hts gX5_settles_X5_within rfl rfl rfl (by decide +kernel) ⟨(Nat.le_of_ble_eq_true rfl), (Nat.le_of_ble_eq_true rfl)⟩) ⟨fm_blind, fm_pre hst hA hH⟩ rfl rfl hl.1 rfl (lv_room (Nat.le_of_ble_eq_true rfl)) dX5_settles_165 ⟨(Nat.le_of_ble_eq_true rfl), (Nat.le_of_ble_eq_true rfl)⟩) hA hH (fun H locs hH => ?_)
      refine fm_ist hx hb hst.1 hH 42 (by decide) rfl rfl hi4 dX5_settles_168 (fun H locs hH => ?_)
      refine lv_iinc (v := (x1 + 1)) (lv' := [(1, .int (x1 + 1)), (0, .ref (K.2.2.2 40))]) hx hb dX5_settles_169 hl (k := 1) rfl rfl (by decide) rfl (fun ls hl => ?_)
      refine lv_goto (tgt := 117) hx hb dX5_settles_172 (by decide) ?_
      exact ih _ _ _ h kk _ _ _ (lv_sub hl [1, 0] rfl) hH
def mX5_settles (σ : fm_S) : Option fm_S :=
  mb1 (mX5_settles_L2 fF (0 : Int32) σ) fun σ2 =>
  mb1 (mX5_settles_L117 fF (0 : Int32) σ2) fun σ117 =>
  some σ117
set_option maxHeartbeats 4000000 in
set_option maxRecDepth 100000 in
theorem kX5_settles (l : Launch) (K : fm_K) {σ : fm_S} {σ' : fm_S} (h : mX5_settles σ = some σ') : fm_CV l yX5_settles wsX5_settles rmX5_settles K [.ref (K.2.2.2 40)] σ σ' := by
  intro sz
  refine fm_start (Qc := fun sz => fm_QV K σ' sz) (cc := cX5_settles) (maxL := 8) (ret := none) (by decide) rfl (Nat.le_of_ble_eq_true rfl) ?_
  intro p e s m args below meth c C hr hlk hst hH ls hl
  have C : CallFix p m c cX5_settles 8 s args wsX5_settles RX5 := C
  obtain ⟨hx, hb, hml, hown, hts⟩ := id C
  have hA : ∀ q, fm_A K s.heap.size q → fm_A K s.heap.size q := fun _ h => h
  have hl : lv_has ls 8 [(0, .ref (K.2.2.2 40))] := hl
  generalize hQ : MQ below _ args s _ _ _ = Q
  rw [mX5_settles] at h
  refine lv_iconst (v := 0) hx hb dX5_settles_0 (by decide) ?_
  refine lv_istore_n (lv' := [(1, .int (0 : Int32)), (0, .ref (K.2.2.2 40))]) hx hb dX5_settles_1 rfl hl (by decide) rfl (fun ls hl => ?_)
  obtain ⟨σ2, h2, h⟩ := mi_b1 h
  refine wX5_settles_L2 C hst _ _ _ _ h2 (fun ls H locs hl hH => ?_) _ _ _ (lv_sub hl [1, 0] rfl) hH
  refine lv_iconst (v := 0) hx hb dX5_settles_115 (by decide) ?_
  refine lv_istore_n (lv' := [(1, .int (0 : Int32)), (0, .ref (K.2.2.2 40))]) hx hb dX5_settles_116 rfl hl (by decide) rfl (fun ls hl => ?_)
  obtain ⟨σ117, h117, h⟩ := mi_b1 h
  refine wX5_settles_L117 C hst _ _ _ _ h117 (fun ls H locs hl hH => ?_) _ _ _ (lv_sub hl [1, 0] rfl) hH
  cases h
  subst hQ
  exact fm_vret hx hb hr hlk hst hH dX5_settles_175
/-! RX5.settle(I)I -/
abbrev rmX5_settle : Room := { frames := 4, cells := 0, slots := 0, locals := 97 }
def mX5_settle_L15 : Nat → Int32 → Int32 → Int32 → fm_S → Option (fm_S)
  | 0, _, _, _, _ => none
  | n + 1, x1, x2, x3, σ =>
    if x1 ≤ x3 then
      some σ
    else
      if x2 = 0 then
        some σ
      else
        mb1 (mX5_settles σ) fun σ25 =>
        mX5_settle_L15 n x1 x2 (x3 + 1) σ25
set_option maxHeartbeats 4000000 in
set_option maxRecDepth 100000 in
theorem wX5_settle_L15 {p : Program} {l : Launch} {e : Env} {s : State} {m : MethodId} {args : Array Value} {below : List Frame} {meth : Method} {c : Code} {Q : State → Prop} {K : fm_K} (C : CallFix p m c cX5_settle 4 s args wsX5_settle RX5) (hst : fm_st K (fm_A K s.heap.size) s s.heap) :
    ∀ (n : Nat) (x1 : Int32) (x2 : Int32) (x3 : Int32) (σ : fm_S) (σo : fm_S), mX5_settle_L15 n x1 x2 x3 σ = some σo → (∀ (ls : Array Slot) (H : Heap) (locs : List Loc), lv_has ls 4 [(0, .ref (K.2.2.2 40)), (2, .int x2)] → fm_H K σo (fm_A K s.heap.size) s H locs → W p l e rmX5_settle s m args below meth c H locs 0 0 Q (F0 m 34 ls [])) → ∀ (ls : Array Slot) (H : Heap) (locs : List Loc), lv_has ls 4 [(0, .ref (K.2.2.2 40)), (1, .int x1), (2, .int x2), (3, .int x3)] → fm_H K σ (fm_A K s.heap.size) s H locs → W p l e rmX5_settle s m args below meth c H locs 0 0 Q (F0 m 15 ls []) := by
  obtain ⟨hx, hb, hml, hown, hts⟩ := id C
  have hA : ∀ q, fm_A K s.heap.size q → fm_A K s.heap.size q := fun _ h => h
  intro n
  induction n with
  | zero => intro x1 x2 x3 σ σo h; simp [mX5_settle_L15] at h
  | succ n ih =>
    intro x1 x2 x3 σ σo h kk ls H locs hl hH
    rw [mX5_settle_L15] at h
    refine lv_iload_n hx hb dX5_settle_15 rfl (lv_at hl 3 rfl) ?_
    refine lv_iload_n hx hb dX5_settle_16 rfl (lv_at hl 1 rfl) ?_
    refine lv_icmp_ge (tgt := 34) hx hb dX5_settle_17 (by decide) (fun hc => ?_) (fun hc => ?_)
    · replace h := mi_pos hc h
      cases h
      exact kk _ _ _ (lv_sub hl [0, 2] rfl) hH
    · replace h := mi_neg hc h
      refine lv_iload_n hx hb dX5_settle_20 rfl (lv_at hl 2 rfl) ?_
      refine lv_if_eq (tgt := 34) hx hb dX5_settle_21 (by decide) (fun hc => ?_) (fun hc => ?_)
      · replace h := mi_pos hc h
        cases h
        exact kk _ _ _ (lv_sub hl [0, 2] rfl) hH
      · replace h := mi_neg hc h
        refine lv_aload_n hx hb dX5_settle_24 rfl (lv_at hl 0 rfl) ?_
        obtain ⟨σ25, h25, h⟩ := mi_b1 h
        refine fm_cv (va_runV (As := []) (rest := []) C (kX5_settles l K h25 _) (cwV 0 hts gX5_settle_X5_settles rfl rfl rfl (by decide +kernel) ⟨(Nat.le_of_ble_eq_true rfl), (Nat.le_of_ble_eq_true rfl)⟩) ⟨fm_blind, fm_recv hst hH (q := 40) (by decide) rfl (fm_ob_40 _ _) rfl, fm_pre hst hA hH⟩ rfl rfl hl.1 rfl (lv_room (Nat.le_of_ble_eq_true rfl)) dX5_settle_25 ⟨(Nat.le_of_ble_eq_true rfl), (Nat.le_of_ble_eq_true rfl)⟩) hA hH (fun H locs hH => ?_)
        refine lv_iinc (v := (x3 + 1)) (lv' := [(3, .int (x3 + 1)), (0, .ref (K.2.2.2 40)), (1, .int x1), (2, .int x2)]) hx hb dX5_settle_28 hl (k := 3) rfl rfl (by decide) rfl (fun ls hl => ?_)
        refine lv_goto (tgt := 15) hx hb dX5_settle_31 (by decide) ?_
        exact ih _ _ _ _ _ h kk _ _ _ (lv_sub hl [1, 2, 3, 0] rfl) hH
def mX5_settle (x1 : Int32) (σ : fm_S) : Option (Int32 × fm_S) :=
  mb1 (mX5_in x1 (1 : Int32) (50 : Int32)) fun r5 =>
  mb2 (mX5_goes r5 (1 : Int32) σ) fun r9 σ9 =>
  mb1 (mX5_settle_L15 fF x1 r9 (0 : Int32) σ9) fun σ15 =>
  if r9 = 0 then
    some ((0 : Int32), σ15)
  else
    mb1 (mX5_errors σ15) fun r39 =>
    some (r39, σ15)
set_option maxHeartbeats 4000000 in
set_option maxRecDepth 100000 in
theorem kX5_settle (l : Launch) (K : fm_K) {x1 : Int32} {σ : fm_S} {r : Int32} {σ' : fm_S} (h : mX5_settle x1 σ = some (r, σ')) : fm_CI l yX5_settle wsX5_settle rmX5_settle K [.ref (K.2.2.2 40), .int x1] σ r σ' := by
  intro sz
  refine fm_start (Qc := fun sz => fm_QI K r σ' sz) (cc := cX5_settle) (maxL := 4) (ret := (some .int)) (by decide) rfl (Nat.le_of_ble_eq_true rfl) ?_
  intro p e s m args below meth c C hr hlk hst hH ls hl
  have C : CallFix p m c cX5_settle 4 s args wsX5_settle RX5 := C
  obtain ⟨hx, hb, hml, hown, hts⟩ := id C
  have hA : ∀ q, fm_A K s.heap.size q → fm_A K s.heap.size q := fun _ h => h
  have hl : lv_has ls 4 [(0, .ref (K.2.2.2 40)), (1, .int x1)] := hl
  generalize hQ : MQ below _ args s _ _ _ = Q
  rw [mX5_settle] at h
  refine lv_aload_n hx hb dX5_settle_0 rfl (lv_at hl 0 rfl) ?_
  refine lv_iload_n hx hb dX5_settle_1 rfl (lv_at hl 1 rfl) ?_
  refine lv_iconst (v := 1) hx hb dX5_settle_2 (by decide) ?_
  refine lv_bipush (v := 50) hx hb dX5_settle_3 (by decide) ?_
  obtain ⟨r5, h5, h⟩ := mi_b1 h
  refine fm_ci (va_runS (As := [.int x1, .int (1 : Int32), .int (50 : Int32)]) (rest := [.ref (K.2.2.2 40)]) C (kX5_in l K h5 _) (va_cwS 3 hts gX5_settle_X5_in rfl rfl rfl (by decide +kernel) ⟨(Nat.le_of_ble_eq_true rfl), (Nat.le_of_ble_eq_true rfl)⟩) ⟨fm_blind, fm_pre hst hA hH⟩ rfl rfl hl.1 rfl (lv_room (Nat.le_of_ble_eq_true rfl)) dX5_settle_5 ⟨(Nat.le_of_ble_eq_true rfl), (Nat.le_of_ble_eq_true rfl)⟩) hA hH (fun H locs hH => ?_)
  refine lv_iconst (v := 1) hx hb dX5_settle_8 (by decide) ?_
  obtain ⟨r9, σ9, h9, h⟩ := mi_b2 h
  refine fm_ci (va_runV (As := [.int r5, .int (1 : Int32)]) (rest := []) C (kX5_goes l K h9 _) (cwV 2 hts gX5_settle_X5_goes rfl rfl rfl (by decide +kernel) ⟨(Nat.le_of_ble_eq_true rfl), (Nat.le_of_ble_eq_true rfl)⟩) ⟨fm_blind, fm_recv hst hH (q := 40) (by decide) rfl (fm_ob_40 _ _) rfl, fm_pre hst hA hH⟩ rfl rfl hl.1 rfl (lv_room (Nat.le_of_ble_eq_true rfl)) dX5_settle_9 ⟨(Nat.le_of_ble_eq_true rfl), (Nat.le_of_ble_eq_true rfl)⟩) hA hH (fun H locs hH => ?_)
  refine lv_istore_n (lv' := [(2, .int r9), (0, .ref (K.2.2.2 40)), (1, .int x1)]) hx hb dX5_settle_12 rfl hl (by decide) rfl (fun ls hl => ?_)
  refine lv_iconst (v := 0) hx hb dX5_settle_13 (by decide) ?_
  refine lv_istore_n (lv' := [(3, .int (0 : Int32)), (2, .int r9), (0, .ref (K.2.2.2 40)), (1, .int x1)]) hx hb dX5_settle_14 rfl hl (by decide) rfl (fun ls hl => ?_)
  obtain ⟨σ15, h15, h⟩ := mi_b1 h
  refine wX5_settle_L15 C hst _ _ _ _ _ _ h15 (fun ls H locs hl hH => ?_) _ _ _ (lv_sub hl [2, 3, 1, 0] rfl) hH
  refine lv_iload_n hx hb dX5_settle_34 rfl (lv_at hl 1 rfl) ?_
  refine lv_if_eq (tgt := 45) hx hb dX5_settle_35 (by decide) (fun hc => ?_) (fun hc => ?_)
  · replace h := mi_pos hc h
    refine lv_iconst (v := 0) hx hb dX5_settle_45 (by decide) ?_
    cases h
    subst hQ
    exact fm_iret hx hb hr hlk hst hH dX5_settle_46
  · replace h := mi_neg hc h
    refine lv_aload_n hx hb dX5_settle_38 rfl (lv_at hl 0 rfl) ?_
    obtain ⟨r39, h39, h⟩ := mi_b1 h
    refine fm_ci (va_runV (As := []) (rest := []) C (kX5_errors l K h39 _) (cwV 0 hts gX5_settle_X5_errors rfl rfl rfl (by decide +kernel) ⟨(Nat.le_of_ble_eq_true rfl), (Nat.le_of_ble_eq_true rfl)⟩) ⟨fm_blind, fm_recv hst hH (q := 40) (by decide) rfl (fm_ob_40 _ _) rfl, fm_pre hst hA hH⟩ rfl rfl hl.1 rfl (lv_room (Nat.le_of_ble_eq_true rfl)) dX5_settle_39 ⟨(Nat.le_of_ble_eq_true rfl), (Nat.le_of_ble_eq_true rfl)⟩) hA hH (fun H locs hH => ?_)
    refine lv_goto (tgt := 46) hx hb dX5_settle_42 (by decide) ?_
    cases h
    subst hQ
    exact fm_iret hx hb hr hlk hst hH dX5_settle_46
/-! RX5.bits(I)I -/
abbrev rmX5_bits : Room := { frames := 0, cells := 0, slots := 0, locals := 0 }
def mX5_bits_L4 : Nat → Int32 → Int32 → Int32 → Option (Int32)
  | 0, _, _, _ => none
  | n + 1, x0, x1, x2 =>
    if (8 : Int32) ≤ x2 then
      some x1
    else
      mX5_bits_L4 n x0 (x1 + ((x0 >>> (x2 &&& 31)) &&& (1 : Int32))) (x2 + 1)
set_option maxHeartbeats 4000000 in
set_option maxRecDepth 100000 in
theorem wX5_bits_L4 {p : Program} {l : Launch} {e : Env} {s : State} {m : MethodId} {args : Array Value} {below : List Frame} {meth : Method} {c : Code} {Q : State → Prop} {K : fm_K} (C : CallFix p m c cX5_bits 3 s args wsX5_bits RX5) (hst : fm_st K (fm_A K s.heap.size) s s.heap) :
    ∀ (n : Nat) (x0 : Int32) (x1 : Int32) (x2 : Int32) (σ : fm_S) (o1 : Int32), mX5_bits_L4 n x0 x1 x2 = some o1 → (∀ (ls : Array Slot) (H : Heap) (locs : List Loc), lv_has ls 3 [(1, .int o1)] → fm_H K σ (fm_A K s.heap.size) s H locs → W p l e rmX5_bits s m args below meth c H locs 0 0 Q (F0 m 24 ls [])) → ∀ (ls : Array Slot) (H : Heap) (locs : List Loc), lv_has ls 3 [(0, .int x0), (1, .int x1), (2, .int x2)] → fm_H K σ (fm_A K s.heap.size) s H locs → W p l e rmX5_bits s m args below meth c H locs 0 0 Q (F0 m 4 ls []) := by
  obtain ⟨hx, hb, hml, hown, hts⟩ := id C
  have hA : ∀ q, fm_A K s.heap.size q → fm_A K s.heap.size q := fun _ h => h
  intro n
  induction n with
  | zero => intro x0 x1 x2 σ o1 h; simp [mX5_bits_L4] at h
  | succ n ih =>
    intro x0 x1 x2 σ o1 h kk ls H locs hl hH
    rw [mX5_bits_L4] at h
    refine lv_iload_n hx hb dX5_bits_4 rfl (lv_at hl 2 rfl) ?_
    refine lv_bipush (v := 8) hx hb dX5_bits_5 (by decide) ?_
    refine lv_icmp_ge (tgt := 24) hx hb dX5_bits_7 (by decide) (fun hc => ?_) (fun hc => ?_)
    · replace h := mi_pos hc h
      cases h
      exact kk _ _ _ (lv_sub hl [1] rfl) hH
    · replace h := mi_neg hc h
      refine lv_iload_n hx hb dX5_bits_10 rfl (lv_at hl 1 rfl) ?_
      refine lv_iload_n hx hb dX5_bits_11 rfl (lv_at hl 0 rfl) ?_
      refine lv_iload_n hx hb dX5_bits_12 rfl (lv_at hl 2 rfl) ?_
      refine lv_ishr hx hb dX5_bits_13 ?_
      refine lv_iconst (v := 1) hx hb dX5_bits_14 (by decide) ?_
      refine lv_iand hx hb dX5_bits_15 ?_
      refine lv_iadd hx hb dX5_bits_16 ?_
      refine lv_istore_n (lv' := [(1, .int (x1 + ((x0 >>> (x2 &&& 31)) &&& (1 : Int32)))), (0, .int x0), (2, .int x2)]) hx hb dX5_bits_17 rfl hl (by decide) rfl (fun ls hl => ?_)
      refine lv_iinc (v := (x2 + 1)) (lv' := [(2, .int (x2 + 1)), (1, .int (x1 + ((x0 >>> (x2 &&& 31)) &&& (1 : Int32)))), (0, .int x0)]) hx hb dX5_bits_18 hl (k := 2) rfl rfl (by decide) rfl (fun ls hl => ?_)
      refine lv_goto (tgt := 4) hx hb dX5_bits_21 (by decide) ?_
      exact ih _ _ _ _ _ h kk _ _ _ (lv_sub hl [2, 1, 0] rfl) hH
def mX5_bits (x0 : Int32) : Option Int32 :=
  mb1 (mX5_bits_L4 fF x0 (0 : Int32) (0 : Int32)) fun y4_1 =>
  some y4_1
set_option maxHeartbeats 4000000 in
set_option maxRecDepth 100000 in
theorem kX5_bits (l : Launch) (K : fm_K) {x0 : Int32} {σ : fm_S} {r : Int32} (h : mX5_bits x0 = some r) : fm_CI l yX5_bits wsX5_bits rmX5_bits K [.int x0] σ r σ := by
  intro sz
  refine fm_start (Qc := fun sz => fm_QI K r σ sz) (cc := cX5_bits) (maxL := 3) (ret := (some .int)) (by decide) rfl (Nat.le_of_ble_eq_true rfl) ?_
  intro p e s m args below meth c C hr hlk hst hH ls hl
  have C : CallFix p m c cX5_bits 3 s args wsX5_bits RX5 := C
  obtain ⟨hx, hb, hml, hown, hts⟩ := id C
  have hA : ∀ q, fm_A K s.heap.size q → fm_A K s.heap.size q := fun _ h => h
  have hl : lv_has ls 3 [(0, .int x0)] := hl
  generalize hQ : MQ below _ args s _ _ _ = Q
  rw [mX5_bits] at h
  refine lv_iconst (v := 0) hx hb dX5_bits_0 (by decide) ?_
  refine lv_istore_n (lv' := [(1, .int (0 : Int32)), (0, .int x0)]) hx hb dX5_bits_1 rfl hl (by decide) rfl (fun ls hl => ?_)
  refine lv_iconst (v := 0) hx hb dX5_bits_2 (by decide) ?_
  refine lv_istore_n (lv' := [(2, .int (0 : Int32)), (1, .int (0 : Int32)), (0, .int x0)]) hx hb dX5_bits_3 rfl hl (by decide) rfl (fun ls hl => ?_)
  obtain ⟨y4_1, h4, h⟩ := mi_b1 h
  refine wX5_bits_L4 C hst _ _ _ _ _ _ h4 (fun ls H locs hl hH => ?_) _ _ _ (lv_sub hl [2, 1, 0] rfl) hH
  refine lv_iload_n hx hb dX5_bits_24 rfl (lv_at hl 0 rfl) ?_
  cases h
  subst hQ
  exact fm_iret hx hb hr hlk hst hH dX5_bits_25
/-! RX5.isFree()Z -/
abbrev rmX5_isFree : Room := { frames := 1, cells := 0, slots := 0, locals := 22 }
def mX5_isFree_L13 : Nat → Int32 → Int32 → Int32 → fm_S → Option (Int32)
  | 0, _, _, _, _ => none
  | n + 1, x1, x2, x3, σ =>
    if (64 : Int32) ≤ x3 then
      some x2
    else
      if (x3 < 0 ∨ 64 ≤ x3.toNatClampNeg) then none else
      mb1 (show Option (Int32) from
        if (rI σ 53 x3) = 0 then
          some ((0 : Int32))
        else
          if ((x1 >>> ((x3 / (8 : Int32)) &&& 31)) &&& (1 : Int32)) = (1 : Int32) then
            if ((x1 >>> ((x3 - x3 / (8 : Int32) * (8 : Int32)) &&& 31)) &&& (1 : Int32)) = (1 : Int32) then
              some ((1 : Int32))
            else
              some ((0 : Int32))
          else
            some ((0 : Int32))) fun v2_0 =>
      mX5_isFree_L13 n x1 (x2 + v2_0) (x3 + 1) σ
set_option maxHeartbeats 4000000 in
set_option maxRecDepth 100000 in
theorem wX5_isFree_L13 {p : Program} {l : Launch} {e : Env} {s : State} {m : MethodId} {args : Array Value} {below : List Frame} {meth : Method} {c : Code} {Q : State → Prop} {K : fm_K} (C : CallFix p m c cX5_isFree 4 s args wsX5_isFree RX5) (hst : fm_st K (fm_A K s.heap.size) s s.heap) :
    ∀ (n : Nat) (x1 : Int32) (x2 : Int32) (x3 : Int32) (σ : fm_S) (o2 : Int32), mX5_isFree_L13 n x1 x2 x3 σ = some o2 → (∀ (ls : Array Slot) (H : Heap) (locs : List Loc), lv_has ls 4 [(0, .ref (K.2.2.2 40)), (1, .int x1), (2, .int o2)] → fm_H K σ (fm_A K s.heap.size) s H locs → W p l e rmX5_isFree s m args below meth c H locs 0 0 Q (F0 m 66 ls [])) → ∀ (ls : Array Slot) (H : Heap) (locs : List Loc), lv_has ls 4 [(0, .ref (K.2.2.2 40)), (1, .int x1), (2, .int x2), (3, .int x3)] → fm_H K σ (fm_A K s.heap.size) s H locs → W p l e rmX5_isFree s m args below meth c H locs 0 0 Q (F0 m 13 ls []) := by
  obtain ⟨hx, hb, hml, hown, hts⟩ := id C
  have hA : ∀ q, fm_A K s.heap.size q → fm_A K s.heap.size q := fun _ h => h
  intro n
  induction n with
  | zero => intro x1 x2 x3 σ o2 h; simp [mX5_isFree_L13] at h
  | succ n ih =>
    intro x1 x2 x3 σ o2 h kk ls H locs hl hH
    rw [mX5_isFree_L13] at h
    refine lv_iload_n hx hb dX5_isFree_13 rfl (lv_at hl 3 rfl) ?_
    refine lv_bipush (v := 64) hx hb dX5_isFree_14 (by decide) ?_
    refine lv_icmp_ge (tgt := 66) hx hb dX5_isFree_16 (by decide) (fun hc => ?_) (fun hc => ?_)
    · replace h := mi_pos hc h
      cases h
      exact kk _ _ _ (lv_sub hl [0, 1, 2] rfl) hH
    · replace h := mi_neg hc h
      refine lv_iload_n hx hb dX5_isFree_19 rfl (lv_at hl 2 rfl) ?_
      refine lv_aload_n hx hb dX5_isFree_20 rfl (lv_at hl 0 rfl) ?_
      refine fm_getf (T := TX5) (N := 17) hx hb hts (fun _ h => List.mem_cons_of_mem _ (List.mem_append_right _ h)) hown hst.1 hH 40 (by decide) rfl (fm_ob_40 _ _) rfl 14 (by decide) (List.mem_of_getElem? (i := 1) rfl) rfl rfl dX5_isFree_21 ?_
      refine lv_iload_n hx hb dX5_isFree_24 rfl (lv_at hl 3 rfl) ?_
      obtain ⟨hi1, h⟩ := mi_chk h
      refine fm_zld hx hb hst.1 hH 53 (by decide) rfl rfl hi1 dX5_isFree_25 ?_
      obtain ⟨v2_0, hd, h2⟩ := mi_b1 h
      have kj : ∀ (ls : Array Slot) (H : Heap) (locs : List Loc), lv_has ls 4 [(0, .ref (K.2.2.2 40)), (1, .int x1), (3, .int x3)] → fm_H K σ (fm_A K s.heap.size) s H locs → W p l e rmX5_isFree s m args below meth c H locs 0 0 Q (F0 m 58 ls [.int v2_0, .int x2]) := by
        clear h hd
        intro ls H locs hl hH
        have h := h2
        clear h2
        refine lv_iadd hx hb dX5_isFree_58 ?_
        refine lv_istore_n (lv' := [(2, .int (x2 + v2_0)), (0, .ref (K.2.2.2 40)), (1, .int x1), (3, .int x3)]) hx hb dX5_isFree_59 rfl hl (by decide) rfl (fun ls hl => ?_)
        refine lv_iinc (v := (x3 + 1)) (lv' := [(3, .int (x3 + 1)), (2, .int (x2 + v2_0)), (0, .ref (K.2.2.2 40)), (1, .int x1)]) hx hb dX5_isFree_60 hl (k := 3) rfl rfl (by decide) rfl (fun ls hl => ?_)
        refine lv_goto (tgt := 13) hx hb dX5_isFree_63 (by decide) ?_
        exact ih _ _ _ _ _ h kk _ _ _ (lv_sub hl [2, 3, 1, 0] rfl) hH
      replace h := hd
      clear h2 hd
      refine lv_if_eq (tgt := 57) hx hb dX5_isFree_26 (by decide) (fun hc => ?_) (fun hc => ?_)
      · replace h := mi_pos hc h
        refine lv_iconst (v := 0) hx hb dX5_isFree_57 (by decide) ?_
        cases h
        exact kj _ _ _ (lv_sub hl [0, 1, 3] rfl) hH
      · replace h := mi_neg hc h
        refine lv_iload_n hx hb dX5_isFree_29 rfl (lv_at hl 1 rfl) ?_
        refine lv_iload_n hx hb dX5_isFree_30 rfl (lv_at hl 3 rfl) ?_
        refine lv_bipush (v := 8) hx hb dX5_isFree_31 (by decide) ?_
        refine lv_idiv hx hb dX5_isFree_33 (by decide) ?_
        refine lv_ishr hx hb dX5_isFree_34 ?_
        refine lv_iconst (v := 1) hx hb dX5_isFree_35 (by decide) ?_
        refine lv_iand hx hb dX5_isFree_36 ?_
        refine lv_iconst (v := 1) hx hb dX5_isFree_37 (by decide) ?_
        refine lv_icmp_ne (tgt := 57) hx hb dX5_isFree_38 (by decide) (fun hc => ?_) (fun hc => ?_)
        · replace h := mi_neg hc h
          refine lv_iconst (v := 0) hx hb dX5_isFree_57 (by decide) ?_
          cases h
          exact kj _ _ _ (lv_sub hl [0, 1, 3] rfl) hH
        · replace h := mi_pos hc h
          refine lv_iload_n hx hb dX5_isFree_41 rfl (lv_at hl 1 rfl) ?_
          refine lv_iload_n hx hb dX5_isFree_42 rfl (lv_at hl 3 rfl) ?_
          refine lv_bipush (v := 8) hx hb dX5_isFree_43 (by decide) ?_
          refine lv_irem hx hb dX5_isFree_45 (by decide) ?_
          refine lv_ishr hx hb dX5_isFree_46 ?_
          refine lv_iconst (v := 1) hx hb dX5_isFree_47 (by decide) ?_
          refine lv_iand hx hb dX5_isFree_48 ?_
          refine lv_iconst (v := 1) hx hb dX5_isFree_49 (by decide) ?_
          refine lv_icmp_ne (tgt := 57) hx hb dX5_isFree_50 (by decide) (fun hc => ?_) (fun hc => ?_)
          · replace h := mi_neg hc h
            refine lv_iconst (v := 0) hx hb dX5_isFree_57 (by decide) ?_
            cases h
            exact kj _ _ _ (lv_sub hl [0, 1, 3] rfl) hH
          · replace h := mi_pos hc h
            refine lv_iconst (v := 1) hx hb dX5_isFree_53 (by decide) ?_
            refine lv_goto (tgt := 58) hx hb dX5_isFree_54 (by decide) ?_
            cases h
            exact kj _ _ _ (lv_sub hl [0, 1, 3] rfl) hH
def mX5_isFree_L2 : Nat → Int32 → fm_S → Option (Except Int32 (Unit))
  | 0, _, _ => none
  | n + 1, x1, σ =>
    if (256 : Int32) ≤ x1 then
      some (.ok ())
    else
      mb1 (mX5_isFree_L13 fF x1 (0 : Int32) (0 : Int32) σ) fun y13_2 =>
      mb1 (mX5_bits x1) fun r67 =>
      if r67 < (2 : Int32) then
        mX5_isFree_L2 n (x1 + 1) σ
      else
        mb1 (mX5_bits x1) fun r77 =>
        if y13_2 ≤ (((2 : Int32) * r77) - (3 : Int32)) then
          mX5_isFree_L2 n (x1 + 1) σ
        else
          some (.error (0 : Int32))
set_option maxHeartbeats 4000000 in
set_option maxRecDepth 100000 in
theorem wX5_isFree_L2 {p : Program} {l : Launch} {e : Env} {s : State} {m : MethodId} {args : Array Value} {below : List Frame} {meth : Method} {c : Code} {Q : State → Prop} {K : fm_K} (C : CallFix p m c cX5_isFree 4 s args wsX5_isFree RX5) (hst : fm_st K (fm_A K s.heap.size) s s.heap) :
    ∀ (n : Nat) (x1 : Int32) (σ : fm_S) (x : Except Int32 (Unit)), mX5_isFree_L2 n x1 σ = some x → (x = .ok () → ∀ (ls : Array Slot) (H : Heap) (locs : List Loc), lv_has ls 4 [] → fm_H K σ (fm_A K s.heap.size) s H locs → W p l e rmX5_isFree s m args below meth c H locs 0 0 Q (F0 m 94 ls [])) → (∀ (ve : Int32), x = .error ve → ∀ (pcR : Nat) (ls : Array Slot) (H : Heap) (locs : List Loc), decode cX5_isFree pcR = .ok (.ireturn, 1) → vp_nar .boolean ve = ve → fm_H K σ (fm_A K s.heap.size) s H locs → W p l e rmX5_isFree s m args below meth c H locs 0 0 Q (F0 m pcR ls [.int ve])) → ∀ (ls : Array Slot) (H : Heap) (locs : List Loc), lv_has ls 4 [(0, .ref (K.2.2.2 40)), (1, .int x1)] → fm_H K σ (fm_A K s.heap.size) s H locs → W p l e rmX5_isFree s m args below meth c H locs 0 0 Q (F0 m 2 ls []) := by
  obtain ⟨hx, hb, hml, hown, hts⟩ := id C
  have hA : ∀ q, fm_A K s.heap.size q → fm_A K s.heap.size q := fun _ h => h
  intro n
  induction n with
  | zero => intro x1 σ x h; simp [mX5_isFree_L2] at h
  | succ n ih =>
    intro x1 σ x h kk kr ls H locs hl hH
    rw [mX5_isFree_L2] at h
    refine lv_iload_n hx hb dX5_isFree_2 rfl (lv_at hl 1 rfl) ?_
    refine lv_sipush (v := 256) hx hb dX5_isFree_3 (by decide) ?_
    refine lv_icmp_ge (tgt := 94) hx hb dX5_isFree_6 (by decide) (fun hc => ?_) (fun hc => ?_)
    · replace h := mi_pos hc h
      cases h
      exact kk rfl _ _ _ (lv_sub hl [] rfl) hH
    · replace h := mi_neg hc h
      refine lv_iconst (v := 0) hx hb dX5_isFree_9 (by decide) ?_
      refine lv_istore_n (lv' := [(2, .int (0 : Int32)), (0, .ref (K.2.2.2 40)), (1, .int x1)]) hx hb dX5_isFree_10 rfl hl (by decide) rfl (fun ls hl => ?_)
      refine lv_iconst (v := 0) hx hb dX5_isFree_11 (by decide) ?_
      refine lv_istore_n (lv' := [(3, .int (0 : Int32)), (2, .int (0 : Int32)), (0, .ref (K.2.2.2 40)), (1, .int x1)]) hx hb dX5_isFree_12 rfl hl (by decide) rfl (fun ls hl => ?_)
      obtain ⟨y13_2, h13, h⟩ := mi_b1 h
      refine wX5_isFree_L13 C hst _ _ _ _ _ _ h13 (fun ls H locs hl hH => ?_) _ _ _ (lv_sub hl [2, 3, 1, 0] rfl) hH
      refine lv_iload_n hx hb dX5_isFree_66 rfl (lv_at hl 1 rfl) ?_
      obtain ⟨r67, h67, h⟩ := mi_b1 h
      refine fm_ci (va_runS (As := [.int x1]) (rest := []) C (kX5_bits l K h67 _) (va_cwS 1 hts gX5_isFree_X5_bits rfl rfl rfl (by decide +kernel) ⟨(Nat.le_of_ble_eq_true rfl), (Nat.le_of_ble_eq_true rfl)⟩) ⟨fm_blind, fm_pre hst hA hH⟩ rfl rfl hl.1 rfl (lv_room (Nat.le_of_ble_eq_true rfl)) dX5_isFree_67 ⟨(Nat.le_of_ble_eq_true rfl), (Nat.le_of_ble_eq_true rfl)⟩) hA hH (fun H locs hH => ?_)
      refine lv_iconst (v := 2) hx hb dX5_isFree_70 (by decide) ?_
      refine lv_icmp_lt (tgt := 88) hx hb dX5_isFree_71 (by decide) (fun hc => ?_) (fun hc => ?_)
      · replace h := mi_pos hc h
        refine lv_iinc (v := (x1 + 1)) (lv' := [(1, .int (x1 + 1)), (0, .ref (K.2.2.2 40)), (2, .int y13_2)]) hx hb dX5_isFree_88 hl (k := 1) rfl rfl (by decide) rfl (fun ls hl => ?_)
        refine lv_goto (tgt := 2) hx hb dX5_isFree_91 (by decide) ?_
        exact ih _ _ _ h kk kr _ _ _ (lv_sub hl [1, 0] rfl) hH
      · replace h := mi_neg hc h
        refine lv_iload_n hx hb dX5_isFree_74 rfl (lv_at hl 2 rfl) ?_
        refine lv_iconst (v := 2) hx hb dX5_isFree_75 (by decide) ?_
        refine lv_iload_n hx hb dX5_isFree_76 rfl (lv_at hl 1 rfl) ?_
        obtain ⟨r77, h77, h⟩ := mi_b1 h
        refine fm_ci (va_runS (As := [.int x1]) (rest := [.int (2 : Int32), .int y13_2]) C (kX5_bits l K h77 _) (va_cwS 1 hts gX5_isFree_X5_bits rfl rfl rfl (by decide +kernel) ⟨(Nat.le_of_ble_eq_true rfl), (Nat.le_of_ble_eq_true rfl)⟩) ⟨fm_blind, fm_pre hst hA hH⟩ rfl rfl hl.1 rfl (lv_room (Nat.le_of_ble_eq_true rfl)) dX5_isFree_77 ⟨(Nat.le_of_ble_eq_true rfl), (Nat.le_of_ble_eq_true rfl)⟩) hA hH (fun H locs hH => ?_)
        refine lv_imul hx hb dX5_isFree_80 ?_
        refine lv_iconst (v := 3) hx hb dX5_isFree_81 (by decide) ?_
        refine lv_isub hx hb dX5_isFree_82 ?_
        refine lv_icmp_le (tgt := 88) hx hb dX5_isFree_83 (by decide) (fun hc => ?_) (fun hc => ?_)
        · replace h := mi_pos hc h
          refine lv_iinc (v := (x1 + 1)) (lv' := [(1, .int (x1 + 1)), (0, .ref (K.2.2.2 40)), (2, .int y13_2)]) hx hb dX5_isFree_88 hl (k := 1) rfl rfl (by decide) rfl (fun ls hl => ?_)
          refine lv_goto (tgt := 2) hx hb dX5_isFree_91 (by decide) ?_
          exact ih _ _ _ h kk kr _ _ _ (lv_sub hl [1, 0] rfl) hH
        · replace h := mi_neg hc h
          refine lv_iconst (v := 0) hx hb dX5_isFree_86 (by decide) ?_
          cases h
          exact kr _ rfl _ _ _ _ dX5_isFree_87 rfl hH
def mX5_isFree (σ : fm_S) : Option Int32 :=
  ml1 (mX5_isFree_L2 fF (0 : Int32) σ) (fun _ =>
    some (1 : Int32)) (fun e => some e)
set_option maxHeartbeats 4000000 in
set_option maxRecDepth 100000 in
theorem kX5_isFree (l : Launch) (K : fm_K) {σ : fm_S} {r : Int32} (h : mX5_isFree σ = some r) : fm_CI l yX5_isFree wsX5_isFree rmX5_isFree K [.ref (K.2.2.2 40)] σ r σ := by
  intro sz
  refine fm_start (Qc := fun sz => fm_QI K r σ sz) (cc := cX5_isFree) (maxL := 4) (ret := (some .boolean)) (by decide) rfl (Nat.le_of_ble_eq_true rfl) ?_
  intro p e s m args below meth c C hr hlk hst hH ls hl
  have C : CallFix p m c cX5_isFree 4 s args wsX5_isFree RX5 := C
  obtain ⟨hx, hb, hml, hown, hts⟩ := id C
  have hA : ∀ q, fm_A K s.heap.size q → fm_A K s.heap.size q := fun _ h => h
  have hl : lv_has ls 4 [(0, .ref (K.2.2.2 40))] := hl
  generalize hQ : MQ below _ args s _ _ _ = Q
  rw [mX5_isFree] at h
  refine lv_iconst (v := 0) hx hb dX5_isFree_0 (by decide) ?_
  refine lv_istore_n (lv' := [(1, .int (0 : Int32)), (0, .ref (K.2.2.2 40))]) hx hb dX5_isFree_1 rfl hl (by decide) rfl (fun ls hl => ?_)
  obtain ⟨x2_, h2, hok, her⟩ := mi_l1 h
  refine wX5_isFree_L2 C hst _ _ _ _ h2 (fun hx1 ls H locs hl hH => ?_) (fun ve hx1 pcR ls H locs hdg hz hH => ?_) _ _ _ (lv_sub hl [1, 0] rfl) hH
  · replace h := hok _ hx1
    clear hok her
    refine lv_iconst (v := 1) hx hb dX5_isFree_94 (by decide) ?_
    cases h
    subst hQ
    exact fm_zret hx hb hr rfl hlk hst hH dX5_isFree_95
  · replace h := her _ hx1
    cases h
    subst hQ
    exact fm_zret hx hb hr hz hlk hst hH hdg
/-! RX5.ranks(II)I -/
abbrev rmX5_ranks : Room := { frames := 2, cells := 0, slots := 0, locals := 47 }
def mX5_ranks_L5 : Nat → Int32 → fm_S → Option (fm_S)
  | 0, _, _ => none
  | n + 1, x4, σ =>
    if (64 : Int32) ≤ x4 then
      some σ
    else
      if (x4 < 0 ∨ 64 ≤ x4.toNatClampNeg) then none else
      mX5_ranks_L5 n (x4 + 1) (sI σ 53 x4 (vp_nar .boolean (0 : Int32)))
set_option maxHeartbeats 4000000 in
set_option maxRecDepth 100000 in
theorem wX5_ranks_L5 {p : Program} {l : Launch} {e : Env} {s : State} {m : MethodId} {args : Array Value} {below : List Frame} {meth : Method} {c : Code} {Q : State → Prop} {K : fm_K} (C : CallFix p m c cX5_ranks 8 s args wsX5_ranks RX5) (hst : fm_st K (fm_A K s.heap.size) s s.heap) :
    ∀ (n : Nat) (x4 : Int32) (σ : fm_S) (σo : fm_S), mX5_ranks_L5 n x4 σ = some σo → ∀ (x1 : Int32)  (x2 : Int32)  (x3 : Int32), (∀ (ls : Array Slot) (H : Heap) (locs : List Loc), lv_has ls 8 [(0, .ref (K.2.2.2 40)), (1, .int x1), (2, .int x2), (3, .int x3)] → fm_H K σo (fm_A K s.heap.size) s H locs → W p l e rmX5_ranks s m args below meth c H locs 0 0 Q (F0 m 26 ls [])) → ∀ (ls : Array Slot) (H : Heap) (locs : List Loc), lv_has ls 8 [(0, .ref (K.2.2.2 40)), (1, .int x1), (2, .int x2), (3, .int x3), (4, .int x4)] → fm_H K σ (fm_A K s.heap.size) s H locs → W p l e rmX5_ranks s m args below meth c H locs 0 0 Q (F0 m 5 ls []) := by
  obtain ⟨hx, hb, hml, hown, hts⟩ := id C
  have hA : ∀ q, fm_A K s.heap.size q → fm_A K s.heap.size q := fun _ h => h
  intro n
  induction n with
  | zero => intro x4 σ σo h; simp [mX5_ranks_L5] at h
  | succ n ih =>
    intro x4 σ σo h x1 x2 x3 kk ls H locs hl hH
    rw [mX5_ranks_L5] at h
    refine lv_iload hx hb dX5_ranks_5 (lv_at hl 4 rfl) ?_
    refine lv_bipush (v := 64) hx hb dX5_ranks_7 (by decide) ?_
    refine lv_icmp_ge (tgt := 26) hx hb dX5_ranks_9 (by decide) (fun hc => ?_) (fun hc => ?_)
    · replace h := mi_pos hc h
      cases h
      exact kk _ _ _ (lv_sub hl [0, 1, 2, 3] rfl) hH
    · replace h := mi_neg hc h
      refine lv_aload_n hx hb dX5_ranks_12 rfl (lv_at hl 0 rfl) ?_
      refine fm_getf (T := TX5) (N := 17) hx hb hts (fun _ h => List.mem_cons_of_mem _ (List.mem_append_right _ h)) hown hst.1 hH 40 (by decide) rfl (fm_ob_40 _ _) rfl 14 (by decide) (List.mem_of_getElem? (i := 1) rfl) rfl rfl dX5_ranks_13 ?_
      refine lv_iload hx hb dX5_ranks_16 (lv_at hl 4 rfl) ?_
      refine lv_iconst (v := 0) hx hb dX5_ranks_18 (by decide) ?_
      obtain ⟨hi1, h⟩ := mi_chk h
      refine fm_zst hx hb hst.1 hH 53 (by decide) rfl rfl hi1 dX5_ranks_19 (fun H locs hH => ?_)
      refine lv_iinc (v := (x4 + 1)) (lv' := [(4, .int (x4 + 1)), (0, .ref (K.2.2.2 40)), (1, .int x1), (2, .int x2), (3, .int x3)]) hx hb dX5_ranks_20 hl (k := 4) rfl rfl (by decide) rfl (fun ls hl => ?_)
      refine lv_goto (tgt := 5) hx hb dX5_ranks_23 (by decide) ?_
      exact ih _ _ _ h _ _ _ kk _ _ _ (lv_sub hl [1, 2, 3, 4, 0] rfl) hH
def mX5_ranks_L29 : Nat → Int32 → Int32 → Int32 → Int32 → fm_S → Option (Int32 × fm_S)
  | 0, _, _, _, _, _ => none
  | n + 1, x1, x2, x3, x4, σ =>
    if (64 : Int32) ≤ x4 then
      some (x3, σ)
    else
      mb1 (show Option (Int32) from
        if (x4 / (8 : Int32)) = x1 then
          if (x4 - x4 / (8 : Int32) * (8 : Int32)) = x2 then
            some ((1 : Int32))
          else
            if (x4 / (8 : Int32)) = x2 then
              if (x4 - x4 / (8 : Int32) * (8 : Int32)) = x1 then
                some ((1 : Int32))
              else
                some ((0 : Int32))
            else
              some ((0 : Int32))
        else
          if (x4 / (8 : Int32)) = x2 then
            if (x4 - x4 / (8 : Int32) * (8 : Int32)) = x1 then
              some ((1 : Int32))
            else
              some ((0 : Int32))
          else
            some ((0 : Int32))) fun v2_0 =>
      if (x4 - x4 / (8 : Int32) * (8 : Int32)) ≤ (x4 / (8 : Int32)) then
        mX5_ranks_L29 n x1 x2 x3 (x4 + 1) σ
      else
        if (σ.1 61 0) ≤ (x4 - x4 / (8 : Int32) * (8 : Int32)) then
          mX5_ranks_L29 n x1 x2 x3 (x4 + 1) σ
        else
          if v2_0 = 0 then
            mb1 (mX5_linked (x4 / (8 : Int32)) (x4 - x4 / (8 : Int32) * (8 : Int32)) σ) fun r107 =>
            if r107 = 0 then
              mX5_ranks_L29 n x1 x2 x3 (x4 + 1) σ
            else
              if (x4 < 0 ∨ 64 ≤ x4.toNatClampNeg) then none else
              mb1 (mX5_isFree (sI σ 53 x4 (vp_nar .boolean (1 : Int32)))) fun r128 =>
              mb1 (show Option (Int32) from
                if (rI (sI (sI σ 53 x4 (vp_nar .boolean (1 : Int32))) 53 x4 (vp_nar .boolean r128)) 53 x4) = 0 then
                  some ((0 : Int32))
                else
                  some ((1 : Int32))) fun v4_0 =>
              mX5_ranks_L29 n x1 x2 (x3 + v4_0) (x4 + 1) (sI (sI σ 53 x4 (vp_nar .boolean (1 : Int32))) 53 x4 (vp_nar .boolean r128))
          else
            mX5_ranks_L29 n x1 x2 x3 (x4 + 1) σ
set_option maxHeartbeats 4000000 in
set_option maxRecDepth 100000 in
theorem wX5_ranks_L29 {p : Program} {l : Launch} {e : Env} {s : State} {m : MethodId} {args : Array Value} {below : List Frame} {meth : Method} {c : Code} {Q : State → Prop} {K : fm_K} (C : CallFix p m c cX5_ranks 8 s args wsX5_ranks RX5) (hst : fm_st K (fm_A K s.heap.size) s s.heap) :
    ∀ (n : Nat) (x1 : Int32) (x2 : Int32) (x3 : Int32) (x4 : Int32) (σ : fm_S) (o3 : Int32) (σo : fm_S), mX5_ranks_L29 n x1 x2 x3 x4 σ = some (o3, σo) → (∀ (ls : Array Slot) (H : Heap) (locs : List Loc), lv_has ls 8 [(3, .int o3)] → fm_H K σo (fm_A K s.heap.size) s H locs → W p l e rmX5_ranks s m args below meth c H locs 0 0 Q (F0 m 156 ls [])) → ∀ (ls : Array Slot) (H : Heap) (locs : List Loc), lv_has ls 8 [(0, .ref (K.2.2.2 40)), (1, .int x1), (2, .int x2), (3, .int x3), (4, .int x4)] → fm_H K σ (fm_A K s.heap.size) s H locs → W p l e rmX5_ranks s m args below meth c H locs 0 0 Q (F0 m 29 ls []) := by
  obtain ⟨hx, hb, hml, hown, hts⟩ := id C
  have hA : ∀ q, fm_A K s.heap.size q → fm_A K s.heap.size q := fun _ h => h
  intro n
  induction n with
  | zero => intro x1 x2 x3 x4 σ o3 σo h; simp [mX5_ranks_L29] at h
  | succ n ih =>
    intro x1 x2 x3 x4 σ o3 σo h kk ls H locs hl hH
    rw [mX5_ranks_L29] at h
    refine lv_iload hx hb dX5_ranks_29 (lv_at hl 4 rfl) ?_
    refine lv_bipush (v := 64) hx hb dX5_ranks_31 (by decide) ?_
    refine lv_icmp_ge (tgt := 156) hx hb dX5_ranks_33 (by decide) (fun hc => ?_) (fun hc => ?_)
    · replace h := mi_pos hc h
      cases h
      exact kk _ _ _ (lv_sub hl [3] rfl) hH
    · replace h := mi_neg hc h
      refine lv_iload hx hb dX5_ranks_36 (lv_at hl 4 rfl) ?_
      refine lv_bipush (v := 8) hx hb dX5_ranks_38 (by decide) ?_
      refine lv_idiv hx hb dX5_ranks_40 (by decide) ?_
      refine lv_istore (lv' := [(5, .int (x4 / (8 : Int32))), (0, .ref (K.2.2.2 40)), (1, .int x1), (2, .int x2), (3, .int x3), (4, .int x4)]) hx hb dX5_ranks_41 hl (by decide) rfl (fun ls hl => ?_)
      refine lv_iload hx hb dX5_ranks_43 (lv_at hl 5 rfl) ?_
      refine lv_bipush (v := 8) hx hb dX5_ranks_45 (by decide) ?_
      refine lv_irem hx hb dX5_ranks_47 (by decide) ?_
      refine lv_istore (lv' := [(6, .int (x4 - x4 / (8 : Int32) * (8 : Int32))), (5, .int (x4 / (8 : Int32))), (0, .ref (K.2.2.2 40)), (1, .int x1), (2, .int x2), (3, .int x3), (4, .int x4)]) hx hb dX5_ranks_48 hl (by decide) rfl (fun ls hl => ?_)
      refine lv_iload hx hb dX5_ranks_50 (lv_at hl 1 rfl) ?_
      refine lv_iload_n hx hb dX5_ranks_52 rfl (lv_at hl 3 rfl) ?_
      obtain ⟨v2_0, hd, h2⟩ := mi_b1 h
      have kj : ∀ (ls : Array Slot) (H : Heap) (locs : List Loc), lv_has ls 8 [(0, .ref (K.2.2.2 40)), (1, .int x1), (2, .int x2), (3, .int x3), (4, .int x4), (5, .int (x4 / (8 : Int32))), (6, .int (x4 - x4 / (8 : Int32) * (8 : Int32)))] → fm_H K σ (fm_A K s.heap.size) s H locs → W p l e rmX5_ranks s m args below meth c H locs 0 0 Q (F0 m 79 ls [.int v2_0]) := by
        clear h hd
        intro ls H locs hl hH
        have h := h2
        clear h2
        refine lv_istore (lv' := [(7, .int v2_0), (0, .ref (K.2.2.2 40)), (1, .int x1), (2, .int x2), (3, .int x3), (4, .int x4), (5, .int (x4 / (8 : Int32))), (6, .int (x4 - x4 / (8 : Int32) * (8 : Int32)))]) hx hb dX5_ranks_79 hl (by decide) rfl (fun ls hl => ?_)
        refine lv_iload hx hb dX5_ranks_81 (lv_at hl 6 rfl) ?_
        refine lv_iload hx hb dX5_ranks_83 (lv_at hl 7 rfl) ?_
        refine lv_icmp_ge (tgt := 150) hx hb dX5_ranks_85 (by decide) (fun hc => ?_) (fun hc => ?_)
        · replace h := mi_pos hc h
          refine lv_iinc (v := (x4 + 1)) (lv' := [(4, .int (x4 + 1)), (7, .int v2_0), (0, .ref (K.2.2.2 40)), (1, .int x1), (2, .int x2), (3, .int x3), (5, .int (x4 / (8 : Int32))), (6, .int (x4 - x4 / (8 : Int32) * (8 : Int32)))]) hx hb dX5_ranks_150 hl (k := 5) rfl rfl (by decide) rfl (fun ls hl => ?_)
          refine lv_goto (tgt := 29) hx hb dX5_ranks_153 (by decide) ?_
          exact ih _ _ _ _ _ _ _ h kk _ _ _ (lv_sub hl [2, 3, 4, 5, 0] rfl) hH
        · replace h := mi_neg hc h
          refine lv_iload hx hb dX5_ranks_88 (lv_at hl 7 rfl) ?_
          refine lv_aload_n hx hb dX5_ranks_90 rfl (lv_at hl 1 rfl) ?_
          refine fm_getf (T := TX5) (N := 17) hx hb hts (fun _ h => List.mem_cons_of_mem _ (List.mem_append_right _ h)) hown hst.1 hH 40 (by decide) rfl (fm_ob_40 _ _) rfl 10 (by decide) (List.mem_of_getElem? (i := 2) rfl) rfl rfl dX5_ranks_91 ?_
          refine lv_icmp_ge (tgt := 150) hx hb dX5_ranks_94 (by decide) (fun hc => ?_) (fun hc => ?_)
          · replace h := mi_pos hc h
            refine lv_iinc (v := (x4 + 1)) (lv' := [(4, .int (x4 + 1)), (7, .int v2_0), (0, .ref (K.2.2.2 40)), (1, .int x1), (2, .int x2), (3, .int x3), (5, .int (x4 / (8 : Int32))), (6, .int (x4 - x4 / (8 : Int32) * (8 : Int32)))]) hx hb dX5_ranks_150 hl (k := 5) rfl rfl (by decide) rfl (fun ls hl => ?_)
            refine lv_goto (tgt := 29) hx hb dX5_ranks_153 (by decide) ?_
            exact ih _ _ _ _ _ _ _ h kk _ _ _ (lv_sub hl [2, 3, 4, 5, 0] rfl) hH
          · replace h := mi_neg hc h
            refine lv_iload hx hb dX5_ranks_97 (lv_at hl 0 rfl) ?_
            refine lv_if_ne (tgt := 150) hx hb dX5_ranks_99 (by decide) (fun hc => ?_) (fun hc => ?_)
            · replace h := mi_neg hc h
              refine lv_iinc (v := (x4 + 1)) (lv' := [(4, .int (x4 + 1)), (7, .int v2_0), (0, .ref (K.2.2.2 40)), (1, .int x1), (2, .int x2), (3, .int x3), (5, .int (x4 / (8 : Int32))), (6, .int (x4 - x4 / (8 : Int32) * (8 : Int32)))]) hx hb dX5_ranks_150 hl (k := 5) rfl rfl (by decide) rfl (fun ls hl => ?_)
              refine lv_goto (tgt := 29) hx hb dX5_ranks_153 (by decide) ?_
              exact ih _ _ _ _ _ _ _ h kk _ _ _ (lv_sub hl [2, 3, 4, 5, 0] rfl) hH
            · replace h := mi_pos hc h
              refine lv_aload_n hx hb dX5_ranks_102 rfl (lv_at hl 1 rfl) ?_
              refine lv_iload hx hb dX5_ranks_103 (lv_at hl 6 rfl) ?_
              refine lv_iload hx hb dX5_ranks_105 (lv_at hl 7 rfl) ?_
              obtain ⟨r107, h107, h⟩ := mi_b1 h
              refine fm_ci (va_runV (As := [.int (x4 / (8 : Int32)), .int (x4 - x4 / (8 : Int32) * (8 : Int32))]) (rest := []) C (kX5_linked l K h107 _) (cwV 2 hts gX5_ranks_X5_linked rfl rfl rfl (by decide +kernel) ⟨(Nat.le_of_ble_eq_true rfl), (Nat.le_of_ble_eq_true rfl)⟩) ⟨fm_blind, fm_recv hst hH (q := 40) (by decide) rfl (fm_ob_40 _ _) rfl, fm_pre hst hA hH⟩ rfl rfl hl.1 rfl (lv_room (Nat.le_of_ble_eq_true rfl)) dX5_ranks_107 ⟨(Nat.le_of_ble_eq_true rfl), (Nat.le_of_ble_eq_true rfl)⟩) hA hH (fun H locs hH => ?_)
              refine lv_if_eq (tgt := 150) hx hb dX5_ranks_110 (by decide) (fun hc => ?_) (fun hc => ?_)
              · replace h := mi_pos hc h
                refine lv_iinc (v := (x4 + 1)) (lv' := [(4, .int (x4 + 1)), (7, .int v2_0), (0, .ref (K.2.2.2 40)), (1, .int x1), (2, .int x2), (3, .int x3), (5, .int (x4 / (8 : Int32))), (6, .int (x4 - x4 / (8 : Int32) * (8 : Int32)))]) hx hb dX5_ranks_150 hl (k := 5) rfl rfl (by decide) rfl (fun ls hl => ?_)
                refine lv_goto (tgt := 29) hx hb dX5_ranks_153 (by decide) ?_
                exact ih _ _ _ _ _ _ _ h kk _ _ _ (lv_sub hl [2, 3, 4, 5, 0] rfl) hH
              · replace h := mi_neg hc h
                refine lv_aload_n hx hb dX5_ranks_113 rfl (lv_at hl 1 rfl) ?_
                refine fm_getf (T := TX5) (N := 17) hx hb hts (fun _ h => List.mem_cons_of_mem _ (List.mem_append_right _ h)) hown hst.1 hH 40 (by decide) rfl (fm_ob_40 _ _) rfl 14 (by decide) (List.mem_of_getElem? (i := 1) rfl) rfl rfl dX5_ranks_114 ?_
                refine lv_iload hx hb dX5_ranks_117 (lv_at hl 5 rfl) ?_
                refine lv_iconst (v := 1) hx hb dX5_ranks_119 (by decide) ?_
                obtain ⟨hi3, h⟩ := mi_chk h
                refine fm_zst hx hb hst.1 hH 53 (by decide) rfl rfl hi3 dX5_ranks_120 (fun H locs hH => ?_)
                refine lv_aload_n hx hb dX5_ranks_121 rfl (lv_at hl 1 rfl) ?_
                refine fm_getf (T := TX5) (N := 17) hx hb hts (fun _ h => List.mem_cons_of_mem _ (List.mem_append_right _ h)) hown hst.1 hH 40 (by decide) rfl (fm_ob_40 _ _) rfl 14 (by decide) (List.mem_of_getElem? (i := 1) rfl) rfl rfl dX5_ranks_122 ?_
                refine lv_iload hx hb dX5_ranks_125 (lv_at hl 5 rfl) ?_
                refine lv_aload_n hx hb dX5_ranks_127 rfl (lv_at hl 1 rfl) ?_
                obtain ⟨r128, h128, h⟩ := mi_b1 h
                refine fm_ci (va_runV (As := []) (rest := [.int x4, .ref (K.2.2.2 53)]) C (kX5_isFree l K h128 _) (cwV 0 hts gX5_ranks_X5_isFree rfl rfl rfl (by decide +kernel) ⟨(Nat.le_of_ble_eq_true rfl), (Nat.le_of_ble_eq_true rfl)⟩) ⟨fm_blind, fm_recv hst hH (q := 40) (by decide) rfl (fm_ob_40 _ _) rfl, fm_pre hst hA hH⟩ rfl rfl hl.1 rfl (lv_room (Nat.le_of_ble_eq_true rfl)) dX5_ranks_128 ⟨(Nat.le_of_ble_eq_true rfl), (Nat.le_of_ble_eq_true rfl)⟩) hA hH (fun H locs hH => ?_)
                refine fm_zst hx hb hst.1 hH 53 (by decide) rfl rfl hi3 dX5_ranks_131 (fun H locs hH => ?_)
                refine lv_iload_n hx hb dX5_ranks_132 rfl (lv_at hl 4 rfl) ?_
                refine lv_aload_n hx hb dX5_ranks_133 rfl (lv_at hl 1 rfl) ?_
                refine fm_getf (T := TX5) (N := 17) hx hb hts (fun _ h => List.mem_cons_of_mem _ (List.mem_append_right _ h)) hown hst.1 hH 40 (by decide) rfl (fm_ob_40 _ _) rfl 14 (by decide) (List.mem_of_getElem? (i := 1) rfl) rfl rfl dX5_ranks_134 ?_
                refine lv_iload hx hb dX5_ranks_137 (lv_at hl 5 rfl) ?_
                refine fm_zld hx hb hst.1 hH 53 (by decide) rfl rfl hi3 dX5_ranks_139 ?_
                obtain ⟨v4_0, hd, h2⟩ := mi_b1 h
                have kj : ∀ (ls : Array Slot) (H : Heap) (locs : List Loc), lv_has ls 8 [(0, .ref (K.2.2.2 40)), (1, .int x1), (2, .int x2), (4, .int x4)] → fm_H K (sI (sI σ 53 x4 (vp_nar .boolean (1 : Int32))) 53 x4 (vp_nar .boolean r128)) (fm_A K s.heap.size) s H locs → W p l e rmX5_ranks s m args below meth c H locs 0 0 Q (F0 m 148 ls [.int v4_0, .int x3]) := by
                  clear h hd
                  intro ls H locs hl hH
                  have h := h2
                  clear h2
                  refine lv_iadd hx hb dX5_ranks_148 ?_
                  refine lv_istore_n (lv' := [(3, .int (x3 + v4_0)), (0, .ref (K.2.2.2 40)), (1, .int x1), (2, .int x2), (4, .int x4)]) hx hb dX5_ranks_149 rfl hl (by decide) rfl (fun ls hl => ?_)
                  refine lv_iinc (v := (x4 + 1)) (lv' := [(4, .int (x4 + 1)), (3, .int (x3 + v4_0)), (0, .ref (K.2.2.2 40)), (1, .int x1), (2, .int x2)]) hx hb dX5_ranks_150 hl (k := 4) rfl rfl (by decide) rfl (fun ls hl => ?_)
                  refine lv_goto (tgt := 29) hx hb dX5_ranks_153 (by decide) ?_
                  exact ih _ _ _ _ _ _ _ h kk _ _ _ (lv_sub hl [2, 3, 4, 1, 0] rfl) hH
                replace h := hd
                clear h2 hd
                refine lv_if_eq (tgt := 147) hx hb dX5_ranks_140 (by decide) (fun hc => ?_) (fun hc => ?_)
                · replace h := mi_pos hc h
                  refine lv_iconst (v := 0) hx hb dX5_ranks_147 (by decide) ?_
                  cases h
                  exact kj _ _ _ (lv_sub hl [1, 2, 3, 5] rfl) hH
                · replace h := mi_neg hc h
                  refine lv_iconst (v := 1) hx hb dX5_ranks_143 (by decide) ?_
                  refine lv_goto (tgt := 148) hx hb dX5_ranks_144 (by decide) ?_
                  cases h
                  exact kj _ _ _ (lv_sub hl [1, 2, 3, 5] rfl) hH
      replace h := hd
      clear h2 hd
      refine lv_icmp_ne (tgt := 62) hx hb dX5_ranks_53 (by decide) (fun hc => ?_) (fun hc => ?_)
      · replace h := mi_neg hc h
        refine lv_iload hx hb dX5_ranks_62 (lv_at hl 1 rfl) ?_
        refine lv_iload_n hx hb dX5_ranks_64 rfl (lv_at hl 4 rfl) ?_
        refine lv_icmp_ne (tgt := 78) hx hb dX5_ranks_65 (by decide) (fun hc => ?_) (fun hc => ?_)
        · replace h := mi_neg hc h
          refine lv_iconst (v := 0) hx hb dX5_ranks_78 (by decide) ?_
          cases h
          exact kj _ _ _ (lv_sub hl [2, 3, 4, 5, 6, 1, 0] rfl) hH
        · replace h := mi_pos hc h
          refine lv_iload hx hb dX5_ranks_68 (lv_at hl 0 rfl) ?_
          refine lv_iload_n hx hb dX5_ranks_70 rfl (lv_at hl 3 rfl) ?_
          refine lv_icmp_ne (tgt := 78) hx hb dX5_ranks_71 (by decide) (fun hc => ?_) (fun hc => ?_)
          · replace h := mi_neg hc h
            refine lv_iconst (v := 0) hx hb dX5_ranks_78 (by decide) ?_
            cases h
            exact kj _ _ _ (lv_sub hl [2, 3, 4, 5, 6, 1, 0] rfl) hH
          · replace h := mi_pos hc h
            refine lv_iconst (v := 1) hx hb dX5_ranks_74 (by decide) ?_
            refine lv_goto (tgt := 79) hx hb dX5_ranks_75 (by decide) ?_
            cases h
            exact kj _ _ _ (lv_sub hl [2, 3, 4, 5, 6, 1, 0] rfl) hH
      · replace h := mi_pos hc h
        refine lv_iload hx hb dX5_ranks_56 (lv_at hl 0 rfl) ?_
        refine lv_iload_n hx hb dX5_ranks_58 rfl (lv_at hl 4 rfl) ?_
        refine lv_icmp_eq (tgt := 74) hx hb dX5_ranks_59 (by decide) (fun hc => ?_) (fun hc => ?_)
        · replace h := mi_pos hc h
          refine lv_iconst (v := 1) hx hb dX5_ranks_74 (by decide) ?_
          refine lv_goto (tgt := 79) hx hb dX5_ranks_75 (by decide) ?_
          cases h
          exact kj _ _ _ (lv_sub hl [2, 3, 4, 5, 6, 1, 0] rfl) hH
        · replace h := mi_neg hc h
          refine lv_iload hx hb dX5_ranks_62 (lv_at hl 1 rfl) ?_
          refine lv_iload_n hx hb dX5_ranks_64 rfl (lv_at hl 4 rfl) ?_
          refine lv_icmp_ne (tgt := 78) hx hb dX5_ranks_65 (by decide) (fun hc => ?_) (fun hc => ?_)
          · replace h := mi_neg hc h
            refine lv_iconst (v := 0) hx hb dX5_ranks_78 (by decide) ?_
            cases h
            exact kj _ _ _ (lv_sub hl [2, 3, 4, 5, 6, 1, 0] rfl) hH
          · replace h := mi_pos hc h
            refine lv_iload hx hb dX5_ranks_68 (lv_at hl 0 rfl) ?_
            refine lv_iload_n hx hb dX5_ranks_70 rfl (lv_at hl 3 rfl) ?_
            refine lv_icmp_ne (tgt := 78) hx hb dX5_ranks_71 (by decide) (fun hc => ?_) (fun hc => ?_)
            · replace h := mi_neg hc h
              refine lv_iconst (v := 0) hx hb dX5_ranks_78 (by decide) ?_
              cases h
              exact kj _ _ _ (lv_sub hl [2, 3, 4, 5, 6, 1, 0] rfl) hH
            · replace h := mi_pos hc h
              refine lv_iconst (v := 1) hx hb dX5_ranks_74 (by decide) ?_
              refine lv_goto (tgt := 79) hx hb dX5_ranks_75 (by decide) ?_
              cases h
              exact kj _ _ _ (lv_sub hl [2, 3, 4, 5, 6, 1, 0] rfl) hH
def mX5_ranks (x1 : Int32) (x2 : Int32) (σ : fm_S) : Option (Int32 × fm_S) :=
  mb1 (mX5_ranks_L5 fF (0 : Int32) σ) fun σ5 =>
  mb2 (mX5_ranks_L29 fF x1 x2 (0 : Int32) (0 : Int32) σ5) fun y29_3 σ29 =>
  some (y29_3, σ29)
set_option maxHeartbeats 4000000 in
set_option maxRecDepth 100000 in
theorem kX5_ranks (l : Launch) (K : fm_K) {x1 : Int32} {x2 : Int32} {σ : fm_S} {r : Int32} {σ' : fm_S} (h : mX5_ranks x1 x2 σ = some (r, σ')) : fm_CI l yX5_ranks wsX5_ranks rmX5_ranks K [.ref (K.2.2.2 40), .int x1, .int x2] σ r σ' := by
  intro sz
  refine fm_start (Qc := fun sz => fm_QI K r σ' sz) (cc := cX5_ranks) (maxL := 8) (ret := (some .int)) (by decide) rfl (Nat.le_of_ble_eq_true rfl) ?_
  intro p e s m args below meth c C hr hlk hst hH ls hl
  have C : CallFix p m c cX5_ranks 8 s args wsX5_ranks RX5 := C
  obtain ⟨hx, hb, hml, hown, hts⟩ := id C
  have hA : ∀ q, fm_A K s.heap.size q → fm_A K s.heap.size q := fun _ h => h
  have hl : lv_has ls 8 [(0, .ref (K.2.2.2 40)), (1, .int x1), (2, .int x2)] := hl
  generalize hQ : MQ below _ args s _ _ _ = Q
  rw [mX5_ranks] at h
  refine lv_iconst (v := 0) hx hb dX5_ranks_0 (by decide) ?_
  refine lv_istore_n (lv' := [(3, .int (0 : Int32)), (0, .ref (K.2.2.2 40)), (1, .int x1), (2, .int x2)]) hx hb dX5_ranks_1 rfl hl (by decide) rfl (fun ls hl => ?_)
  refine lv_iconst (v := 0) hx hb dX5_ranks_2 (by decide) ?_
  refine lv_istore (lv' := [(4, .int (0 : Int32)), (3, .int (0 : Int32)), (0, .ref (K.2.2.2 40)), (1, .int x1), (2, .int x2)]) hx hb dX5_ranks_3 hl (by decide) rfl (fun ls hl => ?_)
  obtain ⟨σ5, h5, h⟩ := mi_b1 h
  refine wX5_ranks_L5 C hst _ _ _ _ h5 _ _ _ (fun ls H locs hl hH => ?_) _ _ _ (lv_sub hl [2, 3, 4, 1, 0] rfl) hH
  refine lv_iconst (v := 0) hx hb dX5_ranks_26 (by decide) ?_
  refine lv_istore (lv' := [(4, .int (0 : Int32)), (0, .ref (K.2.2.2 40)), (1, .int x1), (2, .int x2), (3, .int (0 : Int32))]) hx hb dX5_ranks_27 hl (by decide) rfl (fun ls hl => ?_)
  obtain ⟨y29_3, σ29, h29, h⟩ := mi_b2 h
  refine wX5_ranks_L29 C hst _ _ _ _ _ _ _ _ h29 (fun ls H locs hl hH => ?_) _ _ _ (lv_sub hl [1, 2, 3, 4, 0] rfl) hH
  refine lv_iload_n hx hb dX5_ranks_156 rfl (lv_at hl 0 rfl) ?_
  cases h
  subst hQ
  exact fm_iret hx hb hr hlk hst hH dX5_ranks_157
/-! RX5.rank()I -/
abbrev rmX5_rank : Room := { frames := 3, cells := 0, slots := 0, locals := 74 }
def mX5_rank (σ : fm_S) : Option (Int32 × fm_S) :=
  mb2 (mX5_ranks (-1 : Int32) (-1 : Int32) (fm_wr σ 61 2 (0 : Int32))) fun r8 σ8 =>
  some (r8, σ8)
set_option maxHeartbeats 4000000 in
set_option maxRecDepth 100000 in
theorem kX5_rank (l : Launch) (K : fm_K) {σ : fm_S} {r : Int32} {σ' : fm_S} (h : mX5_rank σ = some (r, σ')) : fm_CI l yX5_rank wsX5_rank rmX5_rank K [.ref (K.2.2.2 40)] σ r σ' := by
  intro sz
  refine fm_start (Qc := fun sz => fm_QI K r σ' sz) (cc := cX5_rank) (maxL := 1) (ret := (some .int)) (by decide) rfl (Nat.le_of_ble_eq_true rfl) ?_
  intro p e s m args below meth c C hr hlk hst hH ls hl
  have C : CallFix p m c cX5_rank 1 s args wsX5_rank RX5 := C
  obtain ⟨hx, hb, hml, hown, hts⟩ := id C
  have hA : ∀ q, fm_A K s.heap.size q → fm_A K s.heap.size q := fun _ h => h
  have hl : lv_has ls 1 [(0, .ref (K.2.2.2 40))] := hl
  generalize hQ : MQ below _ args s _ _ _ = Q
  rw [mX5_rank] at h
  refine lv_aload_n hx hb dX5_rank_0 rfl (lv_at hl 0 rfl) ?_
  refine lv_iconst (v := 0) hx hb dX5_rank_1 (by decide) ?_
  refine fm_putf (T := TX5) (N := 17) hx hb hts (fun _ h => List.mem_cons_of_mem _ (List.mem_append_right _ h)) tyX5 tyX5_ok nmX5 hown hst.1 hH 40 61 2 (by decide) rfl (by decide) (fm_ob_40 _ _) rfl 16 (by decide) (List.mem_of_getElem? (i := 1) rfl) rfl rfl rfl rfl (Nat.le_of_ble_eq_true rfl) dX5_rank_2 (fun H locs hH => ?_)
  refine lv_aload_n hx hb dX5_rank_5 rfl (lv_at hl 0 rfl) ?_
  refine lv_iconst (v := -1) hx hb dX5_rank_6 (by decide) ?_
  refine lv_iconst (v := -1) hx hb dX5_rank_7 (by decide) ?_
  obtain ⟨r8, σ8, h8, h⟩ := mi_b2 h
  refine fm_ci (va_runV (As := [.int (-1 : Int32), .int (-1 : Int32)]) (rest := []) C (kX5_ranks l K h8 _) (cwV 2 hts gX5_rank_X5_ranks rfl rfl rfl (by decide +kernel) ⟨(Nat.le_of_ble_eq_true rfl), (Nat.le_of_ble_eq_true rfl)⟩) ⟨fm_blind, fm_recv hst hH (q := 40) (by decide) rfl (fm_ob_40 _ _) rfl, fm_pre hst hA hH⟩ rfl rfl hl.1 rfl (lv_room (Nat.le_of_ble_eq_true rfl)) dX5_rank_8 ⟨(Nat.le_of_ble_eq_true rfl), (Nat.le_of_ble_eq_true rfl)⟩) hA hH (fun H locs hH => ?_)
  cases h
  subst hQ
  exact fm_iret hx hb hr hlk hst hH dX5_rank_11
/-! RX5.rankByCounting()I -/
abbrev rmX5_rankByCounting : Room := { frames := 3, cells := 0, slots := 0, locals := 74 }
def mX5_rankByCounting (σ : fm_S) : Option (Int32 × fm_S) :=
  mb2 (mX5_ranks (-1 : Int32) (-1 : Int32) (fm_wr σ 61 2 (0 : Int32))) fun r8 σ8 =>
  some (r8, σ8)
set_option maxHeartbeats 4000000 in
set_option maxRecDepth 100000 in
theorem kX5_rankByCounting (l : Launch) (K : fm_K) {σ : fm_S} {r : Int32} {σ' : fm_S} (h : mX5_rankByCounting σ = some (r, σ')) : fm_CI l yX5_rankByCounting wsX5_rankByCounting rmX5_rankByCounting K [.ref (K.2.2.2 40)] σ r σ' := by
  intro sz
  refine fm_start (Qc := fun sz => fm_QI K r σ' sz) (cc := cX5_rankByCounting) (maxL := 1) (ret := (some .int)) (by decide) rfl (Nat.le_of_ble_eq_true rfl) ?_
  intro p e s m args below meth c C hr hlk hst hH ls hl
  have C : CallFix p m c cX5_rankByCounting 1 s args wsX5_rankByCounting RX5 := C
  obtain ⟨hx, hb, hml, hown, hts⟩ := id C
  have hA : ∀ q, fm_A K s.heap.size q → fm_A K s.heap.size q := fun _ h => h
  have hl : lv_has ls 1 [(0, .ref (K.2.2.2 40))] := hl
  generalize hQ : MQ below _ args s _ _ _ = Q
  rw [mX5_rankByCounting] at h
  refine lv_aload_n hx hb dX5_rankByCounting_0 rfl (lv_at hl 0 rfl) ?_
  refine lv_iconst (v := 0) hx hb dX5_rankByCounting_1 (by decide) ?_
  refine fm_putf (T := TX5) (N := 17) hx hb hts (fun _ h => List.mem_cons_of_mem _ (List.mem_append_right _ h)) tyX5 tyX5_ok nmX5 hown hst.1 hH 40 61 2 (by decide) rfl (by decide) (fm_ob_40 _ _) rfl 16 (by decide) (List.mem_of_getElem? (i := 1) rfl) rfl rfl rfl rfl (Nat.le_of_ble_eq_true rfl) dX5_rankByCounting_2 (fun H locs hH => ?_)
  refine lv_aload_n hx hb dX5_rankByCounting_5 rfl (lv_at hl 0 rfl) ?_
  refine lv_iconst (v := -1) hx hb dX5_rankByCounting_6 (by decide) ?_
  refine lv_iconst (v := -1) hx hb dX5_rankByCounting_7 (by decide) ?_
  obtain ⟨r8, σ8, h8, h⟩ := mi_b2 h
  refine fm_ci (va_runV (As := [.int (-1 : Int32), .int (-1 : Int32)]) (rest := []) C (kX5_ranks l K h8 _) (cwV 2 hts gX5_rankByCounting_X5_ranks rfl rfl rfl (by decide +kernel) ⟨(Nat.le_of_ble_eq_true rfl), (Nat.le_of_ble_eq_true rfl)⟩) ⟨fm_blind, fm_recv hst hH (q := 40) (by decide) rfl (fm_ob_40 _ _) rfl, fm_pre hst hA hH⟩ rfl rfl hl.1 rfl (lv_room (Nat.le_of_ble_eq_true rfl)) dX5_rankByCounting_8 ⟨(Nat.le_of_ble_eq_true rfl), (Nat.le_of_ble_eq_true rfl)⟩) hA hH (fun H locs hH => ?_)
  cases h
  subst hQ
  exact fm_iret hx hb hr hlk hst hH dX5_rankByCounting_11
/-! RX5.isRigid()Z -/
abbrev rmX5_isRigid : Room := { frames := 4, cells := 0, slots := 0, locals := 94 }
def mX5_isRigid (σ : fm_S) : Option (Int32 × fm_S) :=
  mb1 (mX5_countGroups (fm_wr σ 61 2 (0 : Int32))) fun r6 =>
  if r6 = (1 : Int32) then
    mb1 (mX5_countUp (fm_wr σ 61 2 (0 : Int32))) fun r14 =>
    if r14 < (2 : Int32) then
      some ((0 : Int32), (fm_wr σ 61 2 (0 : Int32)))
    else
      mb2 (mX5_ranks (-1 : Int32) (-1 : Int32) (fm_wr σ 61 2 (0 : Int32))) fun r24 σ24 =>
      mb1 (mX5_countUp σ24) fun r29 =>
      if r24 = (((2 : Int32) * r29) - (3 : Int32)) then
        some ((1 : Int32), σ24)
      else
        some ((0 : Int32), σ24)
  else
    some ((0 : Int32), (fm_wr σ 61 2 (0 : Int32)))
set_option maxHeartbeats 4000000 in
set_option maxRecDepth 100000 in
theorem kX5_isRigid (l : Launch) (K : fm_K) {σ : fm_S} {r : Int32} {σ' : fm_S} (h : mX5_isRigid σ = some (r, σ')) : fm_CI l yX5_isRigid wsX5_isRigid rmX5_isRigid K [.ref (K.2.2.2 40)] σ r σ' := by
  intro sz
  refine fm_start (Qc := fun sz => fm_QI K r σ' sz) (cc := cX5_isRigid) (maxL := 1) (ret := (some .boolean)) (by decide) rfl (Nat.le_of_ble_eq_true rfl) ?_
  intro p e s m args below meth c C hr hlk hst hH ls hl
  have C : CallFix p m c cX5_isRigid 1 s args wsX5_isRigid RX5 := C
  obtain ⟨hx, hb, hml, hown, hts⟩ := id C
  have hA : ∀ q, fm_A K s.heap.size q → fm_A K s.heap.size q := fun _ h => h
  have hl : lv_has ls 1 [(0, .ref (K.2.2.2 40))] := hl
  generalize hQ : MQ below _ args s _ _ _ = Q
  rw [mX5_isRigid] at h
  refine lv_aload_n hx hb dX5_isRigid_0 rfl (lv_at hl 0 rfl) ?_
  refine lv_iconst (v := 0) hx hb dX5_isRigid_1 (by decide) ?_
  refine fm_putf (T := TX5) (N := 17) hx hb hts (fun _ h => List.mem_cons_of_mem _ (List.mem_append_right _ h)) tyX5 tyX5_ok nmX5 hown hst.1 hH 40 61 2 (by decide) rfl (by decide) (fm_ob_40 _ _) rfl 16 (by decide) (List.mem_of_getElem? (i := 1) rfl) rfl rfl rfl rfl (Nat.le_of_ble_eq_true rfl) dX5_isRigid_2 (fun H locs hH => ?_)
  refine lv_aload_n hx hb dX5_isRigid_5 rfl (lv_at hl 0 rfl) ?_
  obtain ⟨r6, h6, h⟩ := mi_b1 h
  refine fm_ci (va_runV (As := []) (rest := []) C (kX5_countGroups l K h6 _) (cwV 0 hts gX5_isRigid_X5_countGroups rfl rfl rfl (by decide +kernel) ⟨(Nat.le_of_ble_eq_true rfl), (Nat.le_of_ble_eq_true rfl)⟩) ⟨fm_blind, fm_recv hst hH (q := 40) (by decide) rfl (fm_ob_40 _ _) rfl, fm_pre hst hA hH⟩ rfl rfl hl.1 rfl (lv_room (Nat.le_of_ble_eq_true rfl)) dX5_isRigid_6 ⟨(Nat.le_of_ble_eq_true rfl), (Nat.le_of_ble_eq_true rfl)⟩) hA hH (fun H locs hH => ?_)
  refine lv_iconst (v := 1) hx hb dX5_isRigid_9 (by decide) ?_
  refine lv_icmp_ne (tgt := 42) hx hb dX5_isRigid_10 (by decide) (fun hc => ?_) (fun hc => ?_)
  · replace h := mi_neg hc h
    refine lv_iconst (v := 0) hx hb dX5_isRigid_42 (by decide) ?_
    cases h
    subst hQ
    exact fm_zret hx hb hr rfl hlk hst hH dX5_isRigid_43
  · replace h := mi_pos hc h
    refine lv_aload_n hx hb dX5_isRigid_13 rfl (lv_at hl 0 rfl) ?_
    obtain ⟨r14, h14, h⟩ := mi_b1 h
    refine fm_ci (va_runV (As := []) (rest := []) C (kX5_countUp l K h14 _) (cwV 0 hts gX5_isRigid_X5_countUp rfl rfl rfl (by decide +kernel) ⟨(Nat.le_of_ble_eq_true rfl), (Nat.le_of_ble_eq_true rfl)⟩) ⟨fm_blind, fm_recv hst hH (q := 40) (by decide) rfl (fm_ob_40 _ _) rfl, fm_pre hst hA hH⟩ rfl rfl hl.1 rfl (lv_room (Nat.le_of_ble_eq_true rfl)) dX5_isRigid_14 ⟨(Nat.le_of_ble_eq_true rfl), (Nat.le_of_ble_eq_true rfl)⟩) hA hH (fun H locs hH => ?_)
    refine lv_iconst (v := 2) hx hb dX5_isRigid_17 (by decide) ?_
    refine lv_icmp_lt (tgt := 42) hx hb dX5_isRigid_18 (by decide) (fun hc => ?_) (fun hc => ?_)
    · replace h := mi_pos hc h
      refine lv_iconst (v := 0) hx hb dX5_isRigid_42 (by decide) ?_
      cases h
      subst hQ
      exact fm_zret hx hb hr rfl hlk hst hH dX5_isRigid_43
    · replace h := mi_neg hc h
      refine lv_aload_n hx hb dX5_isRigid_21 rfl (lv_at hl 0 rfl) ?_
      refine lv_iconst (v := -1) hx hb dX5_isRigid_22 (by decide) ?_
      refine lv_iconst (v := -1) hx hb dX5_isRigid_23 (by decide) ?_
      obtain ⟨r24, σ24, h24, h⟩ := mi_b2 h
      refine fm_ci (va_runV (As := [.int (-1 : Int32), .int (-1 : Int32)]) (rest := []) C (kX5_ranks l K h24 _) (cwV 2 hts gX5_isRigid_X5_ranks rfl rfl rfl (by decide +kernel) ⟨(Nat.le_of_ble_eq_true rfl), (Nat.le_of_ble_eq_true rfl)⟩) ⟨fm_blind, fm_recv hst hH (q := 40) (by decide) rfl (fm_ob_40 _ _) rfl, fm_pre hst hA hH⟩ rfl rfl hl.1 rfl (lv_room (Nat.le_of_ble_eq_true rfl)) dX5_isRigid_24 ⟨(Nat.le_of_ble_eq_true rfl), (Nat.le_of_ble_eq_true rfl)⟩) hA hH (fun H locs hH => ?_)
      refine lv_iconst (v := 2) hx hb dX5_isRigid_27 (by decide) ?_
      refine lv_aload_n hx hb dX5_isRigid_28 rfl (lv_at hl 0 rfl) ?_
      obtain ⟨r29, h29, h⟩ := mi_b1 h
      refine fm_ci (va_runV (As := []) (rest := [.int (2 : Int32), .int r24]) C (kX5_countUp l K h29 _) (cwV 0 hts gX5_isRigid_X5_countUp rfl rfl rfl (by decide +kernel) ⟨(Nat.le_of_ble_eq_true rfl), (Nat.le_of_ble_eq_true rfl)⟩) ⟨fm_blind, fm_recv hst hH (q := 40) (by decide) rfl (fm_ob_40 _ _) rfl, fm_pre hst hA hH⟩ rfl rfl hl.1 rfl (lv_room (Nat.le_of_ble_eq_true rfl)) dX5_isRigid_29 ⟨(Nat.le_of_ble_eq_true rfl), (Nat.le_of_ble_eq_true rfl)⟩) hA hH (fun H locs hH => ?_)
      refine lv_imul hx hb dX5_isRigid_32 ?_
      refine lv_iconst (v := 3) hx hb dX5_isRigid_33 (by decide) ?_
      refine lv_isub hx hb dX5_isRigid_34 ?_
      refine lv_icmp_ne (tgt := 42) hx hb dX5_isRigid_35 (by decide) (fun hc => ?_) (fun hc => ?_)
      · replace h := mi_neg hc h
        refine lv_iconst (v := 0) hx hb dX5_isRigid_42 (by decide) ?_
        cases h
        subst hQ
        exact fm_zret hx hb hr rfl hlk hst hH dX5_isRigid_43
      · replace h := mi_pos hc h
        refine lv_iconst (v := 1) hx hb dX5_isRigid_38 (by decide) ?_
        refine lv_goto (tgt := 43) hx hb dX5_isRigid_39 (by decide) ?_
        cases h
        subst hQ
        exact fm_zret hx hb hr rfl hlk hst hH dX5_isRigid_43
/-! RX5.isSpare(II)Z -/
abbrev rmX5_isSpare : Room := { frames := 3, cells := 0, slots := 0, locals := 74 }
def mX5_isSpare (x1 : Int32) (x2 : Int32) (σ : fm_S) : Option (Int32 × fm_S) :=
  mb1 (mX5_is x1 σ) fun r2 =>
  mb1 (show Option (Int32) from
    if r2 = 0 then
      some ((0 : Int32))
    else
      mb1 (mX5_is x2 σ) fun r10 =>
      if r10 = 0 then
        some ((0 : Int32))
      else
        some ((1 : Int32))) fun v1_0 =>
  mb1 (show Option (Int32) from
    if v1_0 = 0 then
      some ((0 : Int32))
    else
      mb1 (mX5_linked x1 x2 σ) fun r31 =>
      if r31 = 0 then
        some ((0 : Int32))
      else
        some ((1 : Int32))) fun v2_0 =>
  mb2 (mX5_goes v1_0 v2_0 σ) fun r42 σ42 =>
  if r42 = 0 then
    some ((0 : Int32), σ42)
  else
    mb2 (mX5_ranks x1 x2 σ42) fun r51 σ51 =>
    mb2 (mX5_ranks (-1 : Int32) (-1 : Int32) σ51) fun r57 σ57 =>
    if r51 = r57 then
      some ((1 : Int32), σ57)
    else
      some ((0 : Int32), σ57)
set_option maxHeartbeats 4000000 in
set_option maxRecDepth 100000 in
theorem kX5_isSpare (l : Launch) (K : fm_K) {x1 : Int32} {x2 : Int32} {σ : fm_S} {r : Int32} {σ' : fm_S} (h : mX5_isSpare x1 x2 σ = some (r, σ')) : fm_CI l yX5_isSpare wsX5_isSpare rmX5_isSpare K [.ref (K.2.2.2 40), .int x1, .int x2] σ r σ' := by
  intro sz
  refine fm_start (Qc := fun sz => fm_QI K r σ' sz) (cc := cX5_isSpare) (maxL := 4) (ret := (some .boolean)) (by decide) rfl (Nat.le_of_ble_eq_true rfl) ?_
  intro p e s m args below meth c C hr hlk hst hH ls hl
  have C : CallFix p m c cX5_isSpare 4 s args wsX5_isSpare RX5 := C
  obtain ⟨hx, hb, hml, hown, hts⟩ := id C
  have hA : ∀ q, fm_A K s.heap.size q → fm_A K s.heap.size q := fun _ h => h
  have hl : lv_has ls 4 [(0, .ref (K.2.2.2 40)), (1, .int x1), (2, .int x2)] := hl
  generalize hQ : MQ below _ args s _ _ _ = Q
  rw [mX5_isSpare] at h
  refine lv_aload_n hx hb dX5_isSpare_0 rfl (lv_at hl 0 rfl) ?_
  refine lv_iload_n hx hb dX5_isSpare_1 rfl (lv_at hl 1 rfl) ?_
  obtain ⟨r2, h2, h⟩ := mi_b1 h
  refine fm_ci (va_runV (As := [.int x1]) (rest := []) C (kX5_is l K h2 _) (cwV 1 hts gX5_isSpare_X5_is rfl rfl rfl (by decide +kernel) ⟨(Nat.le_of_ble_eq_true rfl), (Nat.le_of_ble_eq_true rfl)⟩) ⟨fm_blind, fm_recv hst hH (q := 40) (by decide) rfl (fm_ob_40 _ _) rfl, fm_pre hst hA hH⟩ rfl rfl hl.1 rfl (lv_room (Nat.le_of_ble_eq_true rfl)) dX5_isSpare_2 ⟨(Nat.le_of_ble_eq_true rfl), (Nat.le_of_ble_eq_true rfl)⟩) hA hH (fun H locs hH => ?_)
  obtain ⟨v1_0, hd, h2⟩ := mi_b1 h
  have kj : ∀ (ls : Array Slot) (H : Heap) (locs : List Loc), lv_has ls 4 [(0, .ref (K.2.2.2 40)), (1, .int x1), (2, .int x2)] → fm_H K σ (fm_A K s.heap.size) s H locs → W p l e rmX5_isSpare s m args below meth c H locs 0 0 Q (F0 m 21 ls [.int v1_0]) := by
    clear h hd
    intro ls H locs hl hH
    have h := h2
    clear h2
    refine lv_istore_n (lv' := [(3, .int v1_0), (0, .ref (K.2.2.2 40)), (1, .int x1), (2, .int x2)]) hx hb dX5_isSpare_21 rfl hl (by decide) rfl (fun ls hl => ?_)
    refine lv_aload_n hx hb dX5_isSpare_22 rfl (lv_at hl 1 rfl) ?_
    refine lv_iload_n hx hb dX5_isSpare_23 rfl (lv_at hl 0 rfl) ?_
    refine lv_iload_n hx hb dX5_isSpare_24 rfl (lv_at hl 0 rfl) ?_
    obtain ⟨v2_0, hd, h2⟩ := mi_b1 h
    have kj : ∀ (ls : Array Slot) (H : Heap) (locs : List Loc), lv_has ls 4 [(0, .ref (K.2.2.2 40)), (1, .int x1), (2, .int x2)] → fm_H K σ (fm_A K s.heap.size) s H locs → W p l e rmX5_isSpare s m args below meth c H locs 0 0 Q (F0 m 42 ls [.int v2_0, .int v1_0, .ref (K.2.2.2 40)]) := by
      clear h hd
      intro ls H locs hl hH
      have h := h2
      clear h2
      obtain ⟨r42, σ42, h42, h⟩ := mi_b2 h
      refine fm_ci (va_runV (As := [.int v1_0, .int v2_0]) (rest := []) C (kX5_goes l K h42 _) (cwV 2 hts gX5_isSpare_X5_goes rfl rfl rfl (by decide +kernel) ⟨(Nat.le_of_ble_eq_true rfl), (Nat.le_of_ble_eq_true rfl)⟩) ⟨fm_blind, fm_recv hst hH (q := 40) (by decide) rfl (fm_ob_40 _ _) rfl, fm_pre hst hA hH⟩ rfl rfl hl.1 rfl (lv_room (Nat.le_of_ble_eq_true rfl)) dX5_isSpare_42 ⟨(Nat.le_of_ble_eq_true rfl), (Nat.le_of_ble_eq_true rfl)⟩) hA hH (fun H locs hH => ?_)
      refine lv_if_eq (tgt := 67) hx hb dX5_isSpare_45 (by decide) (fun hc => ?_) (fun hc => ?_)
      · replace h := mi_pos hc h
        refine lv_iconst (v := 0) hx hb dX5_isSpare_67 (by decide) ?_
        cases h
        subst hQ
        exact fm_zret hx hb hr rfl hlk hst hH dX5_isSpare_68
      · replace h := mi_neg hc h
        refine lv_aload_n hx hb dX5_isSpare_48 rfl (lv_at hl 0 rfl) ?_
        refine lv_iload_n hx hb dX5_isSpare_49 rfl (lv_at hl 1 rfl) ?_
        refine lv_iload_n hx hb dX5_isSpare_50 rfl (lv_at hl 2 rfl) ?_
        obtain ⟨r51, σ51, h51, h⟩ := mi_b2 h
        refine fm_ci (va_runV (As := [.int x1, .int x2]) (rest := []) C (kX5_ranks l K h51 _) (cwV 2 hts gX5_isSpare_X5_ranks rfl rfl rfl (by decide +kernel) ⟨(Nat.le_of_ble_eq_true rfl), (Nat.le_of_ble_eq_true rfl)⟩) ⟨fm_blind, fm_recv hst hH (q := 40) (by decide) rfl (fm_ob_40 _ _) rfl, fm_pre hst hA hH⟩ rfl rfl hl.1 rfl (lv_room (Nat.le_of_ble_eq_true rfl)) dX5_isSpare_51 ⟨(Nat.le_of_ble_eq_true rfl), (Nat.le_of_ble_eq_true rfl)⟩) hA hH (fun H locs hH => ?_)
        refine lv_aload_n hx hb dX5_isSpare_54 rfl (lv_at hl 0 rfl) ?_
        refine lv_iconst (v := -1) hx hb dX5_isSpare_55 (by decide) ?_
        refine lv_iconst (v := -1) hx hb dX5_isSpare_56 (by decide) ?_
        obtain ⟨r57, σ57, h57, h⟩ := mi_b2 h
        refine fm_ci (va_runV (As := [.int (-1 : Int32), .int (-1 : Int32)]) (rest := [.int r51]) C (kX5_ranks l K h57 _) (cwV 2 hts gX5_isSpare_X5_ranks rfl rfl rfl (by decide +kernel) ⟨(Nat.le_of_ble_eq_true rfl), (Nat.le_of_ble_eq_true rfl)⟩) ⟨fm_blind, fm_recv hst hH (q := 40) (by decide) rfl (fm_ob_40 _ _) rfl, fm_pre hst hA hH⟩ rfl rfl hl.1 rfl (lv_room (Nat.le_of_ble_eq_true rfl)) dX5_isSpare_57 ⟨(Nat.le_of_ble_eq_true rfl), (Nat.le_of_ble_eq_true rfl)⟩) hA hH (fun H locs hH => ?_)
        refine lv_icmp_ne (tgt := 67) hx hb dX5_isSpare_60 (by decide) (fun hc => ?_) (fun hc => ?_)
        · replace h := mi_neg hc h
          refine lv_iconst (v := 0) hx hb dX5_isSpare_67 (by decide) ?_
          cases h
          subst hQ
          exact fm_zret hx hb hr rfl hlk hst hH dX5_isSpare_68
        · replace h := mi_pos hc h
          refine lv_iconst (v := 1) hx hb dX5_isSpare_63 (by decide) ?_
          refine lv_goto (tgt := 68) hx hb dX5_isSpare_64 (by decide) ?_
          cases h
          subst hQ
          exact fm_zret hx hb hr rfl hlk hst hH dX5_isSpare_68
    replace h := hd
    clear h2 hd
    refine lv_if_eq (tgt := 41) hx hb dX5_isSpare_25 (by decide) (fun hc => ?_) (fun hc => ?_)
    · replace h := mi_pos hc h
      refine lv_iconst (v := 0) hx hb dX5_isSpare_41 (by decide) ?_
      cases h
      exact kj _ _ _ (lv_sub hl [1, 2, 3] rfl) hH
    · replace h := mi_neg hc h
      refine lv_aload_n hx hb dX5_isSpare_28 rfl (lv_at hl 1 rfl) ?_
      refine lv_iload_n hx hb dX5_isSpare_29 rfl (lv_at hl 2 rfl) ?_
      refine lv_iload_n hx hb dX5_isSpare_30 rfl (lv_at hl 3 rfl) ?_
      obtain ⟨r31, h31, h⟩ := mi_b1 h
      refine fm_ci (va_runV (As := [.int x1, .int x2]) (rest := [.int v1_0, .ref (K.2.2.2 40)]) C (kX5_linked l K h31 _) (cwV 2 hts gX5_isSpare_X5_linked rfl rfl rfl (by decide +kernel) ⟨(Nat.le_of_ble_eq_true rfl), (Nat.le_of_ble_eq_true rfl)⟩) ⟨fm_blind, fm_recv hst hH (q := 40) (by decide) rfl (fm_ob_40 _ _) rfl, fm_pre hst hA hH⟩ rfl rfl hl.1 rfl (lv_room (Nat.le_of_ble_eq_true rfl)) dX5_isSpare_31 ⟨(Nat.le_of_ble_eq_true rfl), (Nat.le_of_ble_eq_true rfl)⟩) hA hH (fun H locs hH => ?_)
      refine lv_if_eq (tgt := 41) hx hb dX5_isSpare_34 (by decide) (fun hc => ?_) (fun hc => ?_)
      · replace h := mi_pos hc h
        refine lv_iconst (v := 0) hx hb dX5_isSpare_41 (by decide) ?_
        cases h
        exact kj _ _ _ (lv_sub hl [1, 2, 3] rfl) hH
      · replace h := mi_neg hc h
        refine lv_iconst (v := 1) hx hb dX5_isSpare_37 (by decide) ?_
        refine lv_goto (tgt := 42) hx hb dX5_isSpare_38 (by decide) ?_
        cases h
        exact kj _ _ _ (lv_sub hl [1, 2, 3] rfl) hH
  replace h := hd
  clear h2 hd
  refine lv_if_eq (tgt := 20) hx hb dX5_isSpare_5 (by decide) (fun hc => ?_) (fun hc => ?_)
  · replace h := mi_pos hc h
    refine lv_iconst (v := 0) hx hb dX5_isSpare_20 (by decide) ?_
    cases h
    exact kj _ _ _ (lv_sub hl [0, 1, 2] rfl) hH
  · replace h := mi_neg hc h
    refine lv_aload_n hx hb dX5_isSpare_8 rfl (lv_at hl 0 rfl) ?_
    refine lv_iload_n hx hb dX5_isSpare_9 rfl (lv_at hl 2 rfl) ?_
    obtain ⟨r10, h10, h⟩ := mi_b1 h
    refine fm_ci (va_runV (As := [.int x2]) (rest := []) C (kX5_is l K h10 _) (cwV 1 hts gX5_isSpare_X5_is rfl rfl rfl (by decide +kernel) ⟨(Nat.le_of_ble_eq_true rfl), (Nat.le_of_ble_eq_true rfl)⟩) ⟨fm_blind, fm_recv hst hH (q := 40) (by decide) rfl (fm_ob_40 _ _) rfl, fm_pre hst hA hH⟩ rfl rfl hl.1 rfl (lv_room (Nat.le_of_ble_eq_true rfl)) dX5_isSpare_10 ⟨(Nat.le_of_ble_eq_true rfl), (Nat.le_of_ble_eq_true rfl)⟩) hA hH (fun H locs hH => ?_)
    refine lv_if_eq (tgt := 20) hx hb dX5_isSpare_13 (by decide) (fun hc => ?_) (fun hc => ?_)
    · replace h := mi_pos hc h
      refine lv_iconst (v := 0) hx hb dX5_isSpare_20 (by decide) ?_
      cases h
      exact kj _ _ _ (lv_sub hl [0, 1, 2] rfl) hH
    · replace h := mi_neg hc h
      refine lv_iconst (v := 1) hx hb dX5_isSpare_16 (by decide) ?_
      refine lv_goto (tgt := 21) hx hb dX5_isSpare_17 (by decide) ?_
      cases h
      exact kj _ _ _ (lv_sub hl [0, 1, 2] rfl) hH
