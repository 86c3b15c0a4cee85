/-! RX4.requireWithin(III)V -/
abbrev rmX4_requireWithin : Room := { frames := 0, cells := 0, slots := 0, locals := 0 }
def mX4_requireWithin (x0 : Int32) (x1 : Int32) (x2 : Int32) (σ : fm_S) : Option fm_S :=
  if x0 < x1 then
    none
  else
    if x0 ≤ x2 then
      some σ
    else
      none
set_option maxHeartbeats 4000000 in
set_option maxRecDepth 100000 in
theorem kX4_requireWithin (l : Launch) (K : fm_K) {x0 : Int32} {x1 : Int32} {x2 : Int32} {σ : fm_S} {σ' : fm_S} (h : mX4_requireWithin x0 x1 x2 σ = some σ') : fm_CV l yX4_requireWithin wsX4_requireWithin rmX4_requireWithin K [.int x0, .int x1, .int x2] σ σ' := by
  intro sz
  refine fm_start (Qc := fun sz => fm_QV K σ' sz) (cc := cX4_requireWithin) (maxL := 3) (ret := none) (by decide) rfl (Nat.le_of_ble_eq_true rfl) ?_
  intro p e s m args below meth c C hr hlk hst hH ls hl
  have C : CallFix p m c cX4_requireWithin 3 s args wsX4_requireWithin RX4 := C
  obtain ⟨hx, hb, hml, hown, hts⟩ := id C
  have hA : ∀ q, fm_A K s.heap.size q → fm_A K s.heap.size q := fun _ h => h
  have hl : lv_has ls 3 [(0, .int x0), (1, .int x1), (2, .int x2)] := hl
  generalize hQ : MQ below _ args s _ _ _ = Q
  rw [mX4_requireWithin] at h
  refine lv_iload_n hx hb dX4_requireWithin_0 rfl (lv_at hl 0 rfl) ?_
  refine lv_iload_n hx hb dX4_requireWithin_1 rfl (lv_at hl 1 rfl) ?_
  refine lv_icmp_lt (tgt := 10) hx hb dX4_requireWithin_2 (by decide) (fun hc => ?_) (fun hc => ?_)
  · replace h := mi_pos hc h
    cases h
  · replace h := mi_neg hc h
    refine lv_iload_n hx hb dX4_requireWithin_5 rfl (lv_at hl 0 rfl) ?_
    refine lv_iload_n hx hb dX4_requireWithin_6 rfl (lv_at hl 2 rfl) ?_
    refine lv_icmp_le (tgt := 20) hx hb dX4_requireWithin_7 (by decide) (fun hc => ?_) (fun hc => ?_)
    · replace h := mi_pos hc h
      cases h
      subst hQ
      exact fm_vret hx hb hr hlk hst hH dX4_requireWithin_20
    · replace h := mi_neg hc h
      cases h
/-! RX4.requirePlace(II)V -/
abbrev rmX4_requirePlace : Room := { frames := 1, cells := 0, slots := 0, locals := 22 }
def mX4_requirePlace (x0 : Int32) (x1 : Int32) (σ : fm_S) : Option fm_S :=
  mb1 (mX4_requireWithin x0 (-1000 : Int32) (1000 : Int32) σ) fun σ7 =>
  mb1 (mX4_requireWithin x1 (-1000 : Int32) (1000 : Int32) σ7) fun σ17 =>
  some σ17
set_option maxHeartbeats 4000000 in
set_option maxRecDepth 100000 in
theorem kX4_requirePlace (l : Launch) (K : fm_K) {x0 : Int32} {x1 : Int32} {σ : fm_S} {σ' : fm_S} (h : mX4_requirePlace x0 x1 σ = some σ') : fm_CV l yX4_requirePlace wsX4_requirePlace rmX4_requirePlace K [.int x0, .int x1] σ σ' := by
  intro sz
  refine fm_start (Qc := fun sz => fm_QV K σ' sz) (cc := cX4_requirePlace) (maxL := 2) (ret := none) (by decide) rfl (Nat.le_of_ble_eq_true rfl) ?_
  intro p e s m args below meth c C hr hlk hst hH ls hl
  have C : CallFix p m c cX4_requirePlace 2 s args wsX4_requirePlace RX4 := C
  obtain ⟨hx, hb, hml, hown, hts⟩ := id C
  have hA : ∀ q, fm_A K s.heap.size q → fm_A K s.heap.size q := fun _ h => h
  have hl : lv_has ls 2 [(0, .int x0), (1, .int x1)] := hl
  generalize hQ : MQ below _ args s _ _ _ = Q
  rw [mX4_requirePlace] at h
  refine lv_iload_n hx hb dX4_requirePlace_0 rfl (lv_at hl 0 rfl) ?_
  refine lv_sipush (v := -1000) hx hb dX4_requirePlace_1 (by decide) ?_
  refine lv_sipush (v := 1000) hx hb dX4_requirePlace_4 (by decide) ?_
  obtain ⟨σ7, h7, h⟩ := mi_b1 h
  refine fm_cv (va_runS (As := [.int x0, .int (-1000 : Int32), .int (1000 : Int32)]) (rest := []) C (kX4_requireWithin l K h7 _) (va_cwS 3 hts gX4_requirePlace_X4_requireWithin rfl rfl rfl (by decide +kernel) ⟨(Nat.le_of_ble_eq_true rfl), (Nat.le_of_ble_eq_true rfl)⟩) ⟨fm_blind, fm_pre hst hA hH⟩ rfl rfl hl.1 rfl (lv_room (Nat.le_of_ble_eq_true rfl)) dX4_requirePlace_7 ⟨(Nat.le_of_ble_eq_true rfl), (Nat.le_of_ble_eq_true rfl)⟩) hA hH (fun H locs hH => ?_)
  refine lv_iload_n hx hb dX4_requirePlace_10 rfl (lv_at hl 1 rfl) ?_
  refine lv_sipush (v := -1000) hx hb dX4_requirePlace_11 (by decide) ?_
  refine lv_sipush (v := 1000) hx hb dX4_requirePlace_14 (by decide) ?_
  obtain ⟨σ17, h17, h⟩ := mi_b1 h
  refine fm_cv (va_runS (As := [.int x1, .int (-1000 : Int32), .int (1000 : Int32)]) (rest := []) C (kX4_requireWithin l K h17 _) (va_cwS 3 hts gX4_requirePlace_X4_requireWithin rfl rfl rfl (by decide +kernel) ⟨(Nat.le_of_ble_eq_true rfl), (Nat.le_of_ble_eq_true rfl)⟩) ⟨fm_blind, fm_pre hst hA hH⟩ rfl rfl hl.1 rfl (lv_room (Nat.le_of_ble_eq_true rfl)) dX4_requirePlace_17 ⟨(Nat.le_of_ble_eq_true rfl), (Nat.le_of_ble_eq_true rfl)⟩) hA hH (fun H locs hH => ?_)
  cases h
  subst hQ
  exact fm_vret hx hb hr hlk hst hH dX4_requirePlace_20
/-! RX4.addMember(II)I -/
abbrev rmX4_addMember : Room := { frames := 2, cells := 0, slots := 0, locals := 43 }
def mX4_addMember (x1 : Int32) (x2 : Int32) (σ : fm_S) : Option (Int32 × fm_S) :=
  mb1 (mX4_requirePlace x1 x2 σ) fun σ2 =>
  if (σ2.1 60 0) < (8 : Int32) then
    if ((σ2.1 60 0) < 0 ∨ 8 ≤ (σ2.1 60 0).toNatClampNeg) then none else
    some ((σ2.1 60 0), (fm_wr (sI (sI (sI (sI (sI σ2 1 (σ2.1 60 0) x1) 2 (σ2.1 60 0) x2) 3 (σ2.1 60 0) (vp_nar .boolean (1 : Int32))) 7 (σ2.1 60 0) (1024 : Int32)) 8 (σ2.1 60 0) (-1 : Int32)) 60 0 (((sI (sI (sI (sI (sI σ2 1 (σ2.1 60 0) x1) 2 (σ2.1 60 0) x2) 3 (σ2.1 60 0) (vp_nar .boolean (1 : Int32))) 7 (σ2.1 60 0) (1024 : Int32)) 8 (σ2.1 60 0) (-1 : Int32)).1 60 0) + (1 : Int32))))
  else
    none
set_option maxHeartbeats 4000000 in
set_option maxRecDepth 100000 in
theorem kX4_addMember (l : Launch) (K : fm_K) {x1 : Int32} {x2 : Int32} {σ : fm_S} {r : Int32} {σ' : fm_S} (h : mX4_addMember x1 x2 σ = some (r, σ')) : fm_CI l yX4_addMember wsX4_addMember rmX4_addMember K [.ref (K.2.2.2 0), .int x1, .int x2] σ r σ' := by
  intro sz
  refine fm_start (Qc := fun sz => fm_QI K r σ' sz) (cc := cX4_addMember) (maxL := 4) (ret := (some .int)) (by decide) rfl (Nat.le_of_ble_eq_true rfl) ?_
  intro p e s m args below meth c C hr hlk hst hH ls hl
  have C : CallFix p m c cX4_addMember 4 s args wsX4_addMember RX4 := C
  obtain ⟨hx, hb, hml, hown, hts⟩ := id C
  have hA : ∀ q, fm_A K s.heap.size q → fm_A K s.heap.size q := fun _ h => h
  have hl : lv_has ls 4 [(0, .ref (K.2.2.2 0)), (1, .int x1), (2, .int x2)] := hl
  generalize hQ : MQ below _ args s _ _ _ = Q
  rw [mX4_addMember] at h
  refine lv_iload_n hx hb dX4_addMember_0 rfl (lv_at hl 1 rfl) ?_
  refine lv_iload_n hx hb dX4_addMember_1 rfl (lv_at hl 2 rfl) ?_
  obtain ⟨σ2, h2, h⟩ := mi_b1 h
  refine fm_cv (va_runS (As := [.int x1, .int x2]) (rest := []) C (kX4_requirePlace l K h2 _) (va_cwS 2 hts gX4_addMember_X4_requirePlace rfl rfl rfl (by decide +kernel) ⟨(Nat.le_of_ble_eq_true rfl), (Nat.le_of_ble_eq_true rfl)⟩) ⟨fm_blind, fm_pre hst hA hH⟩ rfl rfl hl.1 rfl (lv_room (Nat.le_of_ble_eq_true rfl)) dX4_addMember_2 ⟨(Nat.le_of_ble_eq_true rfl), (Nat.le_of_ble_eq_true rfl)⟩) hA hH (fun H locs hH => ?_)
  refine lv_aload_n hx hb dX4_addMember_5 rfl (lv_at hl 0 rfl) ?_
  refine fm_getf (T := TX4) (N := 18) hx hb hts (fun _ h => List.mem_cons_of_mem _ (List.mem_append_left _ (List.mem_append_left _ (List.mem_append_right _ h)))) hown hst.1 hH 0 (fm_inb (by decide)) rfl (fm_ob_0 _ _) rfl 10 (by decide) (List.mem_of_getElem? (i := 3) rfl) rfl rfl dX4_addMember_6 ?_
  refine lv_bipush (v := 8) hx hb dX4_addMember_9 (by decide) ?_
  refine lv_icmp_lt (tgt := 24) hx hb dX4_addMember_11 (by decide) (fun hc => ?_) (fun hc => ?_)
  · replace h := mi_pos hc h
    refine lv_aload_n hx hb dX4_addMember_24 rfl (lv_at hl 0 rfl) ?_
    refine fm_getf (T := TX4) (N := 18) hx hb hts (fun _ h => List.mem_cons_of_mem _ (List.mem_append_left _ (List.mem_append_left _ (List.mem_append_right _ h)))) hown hst.1 hH 0 (fm_inb (by decide)) rfl (fm_ob_0 _ _) rfl 10 (by decide) (List.mem_of_getElem? (i := 3) rfl) rfl rfl dX4_addMember_25 ?_
    refine lv_istore_n (lv' := [(3, .int (σ2.1 60 0)), (0, .ref (K.2.2.2 0)), (1, .int x1), (2, .int x2)]) hx hb dX4_addMember_28 rfl hl (by decide) rfl (fun ls hl => ?_)
    refine lv_aload_n hx hb dX4_addMember_29 rfl (lv_at hl 1 rfl) ?_
    refine fm_getf (T := TX4) (N := 18) hx hb hts (fun _ h => List.mem_cons_of_mem _ (List.mem_append_left _ (List.mem_append_left _ (List.mem_append_right _ h)))) hown hst.1 hH 0 (fm_inb (by decide)) rfl (fm_ob_0 _ _) rfl 0 (by decide) (List.mem_of_getElem? (i := 4) rfl) rfl rfl dX4_addMember_30 ?_
    refine lv_iload_n hx hb dX4_addMember_33 rfl (lv_at hl 0 rfl) ?_
    refine lv_iload_n hx hb dX4_addMember_34 rfl (lv_at hl 2 rfl) ?_
    obtain ⟨hi1, h⟩ := mi_chk h
    refine fm_ist hx hb hst.1 hH 1 (fm_inb (by decide)) rfl rfl hi1 dX4_addMember_35 (fun H locs hH => ?_)
    refine lv_aload_n hx hb dX4_addMember_36 rfl (lv_at hl 1 rfl) ?_
    refine fm_getf (T := TX4) (N := 18) hx hb hts (fun _ h => List.mem_cons_of_mem _ (List.mem_append_left _ (List.mem_append_left _ (List.mem_append_right _ h)))) hown hst.1 hH 0 (fm_inb (by decide)) rfl (fm_ob_0 _ _) rfl 1 (by decide) (List.mem_of_getElem? (i := 5) rfl) rfl rfl dX4_addMember_37 ?_
    refine lv_iload_n hx hb dX4_addMember_40 rfl (lv_at hl 0 rfl) ?_
    refine lv_iload_n hx hb dX4_addMember_41 rfl (lv_at hl 3 rfl) ?_
    refine fm_ist hx hb hst.1 hH 2 (fm_inb (by decide)) rfl rfl hi1 dX4_addMember_42 (fun H locs hH => ?_)
    refine lv_aload_n hx hb dX4_addMember_43 rfl (lv_at hl 1 rfl) ?_
    refine fm_getf (T := TX4) (N := 18) hx hb hts (fun _ h => List.mem_cons_of_mem _ (List.mem_append_left _ (List.mem_append_left _ (List.mem_append_right _ h)))) hown hst.1 hH 0 (fm_inb (by decide)) rfl (fm_ob_0 _ _) rfl 2 (by decide) (List.mem_of_getElem? (i := 6) rfl) rfl rfl dX4_addMember_44 ?_
    refine lv_iload_n hx hb dX4_addMember_47 rfl (lv_at hl 0 rfl) ?_
    refine lv_iconst (v := 1) hx hb dX4_addMember_48 (by decide) ?_
    refine fm_zst hx hb hst.1 hH 3 (fm_inb (by decide)) rfl rfl hi1 dX4_addMember_49 (fun H locs hH => ?_)
    refine lv_aload_n hx hb dX4_addMember_50 rfl (lv_at hl 1 rfl) ?_
    refine fm_getf (T := TX4) (N := 18) hx hb hts (fun _ h => List.mem_cons_of_mem _ (List.mem_append_left _ (List.mem_append_left _ (List.mem_append_right _ h)))) hown hst.1 hH 0 (fm_inb (by decide)) rfl (fm_ob_0 _ _) rfl 6 (by decide) (List.mem_of_getElem? (i := 7) rfl) rfl rfl dX4_addMember_51 ?_
    refine lv_iload_n hx hb dX4_addMember_54 rfl (lv_at hl 0 rfl) ?_
    refine lv_sipush (v := 1024) hx hb dX4_addMember_55 (by decide) ?_
    refine fm_ist hx hb hst.1 hH 7 (fm_inb (by decide)) rfl rfl hi1 dX4_addMember_58 (fun H locs hH => ?_)
    refine lv_aload_n hx hb dX4_addMember_59 rfl (lv_at hl 1 rfl) ?_
    refine fm_getf (T := TX4) (N := 18) hx hb hts (fun _ h => List.mem_cons_of_mem _ (List.mem_append_left _ (List.mem_append_left _ (List.mem_append_right _ h)))) hown hst.1 hH 0 (fm_inb (by decide)) rfl (fm_ob_0 _ _) rfl 7 (by decide) (List.mem_of_getElem? (i := 8) rfl) rfl rfl dX4_addMember_60 ?_
    refine lv_iload_n hx hb dX4_addMember_63 rfl (lv_at hl 0 rfl) ?_
    refine lv_iconst (v := -1) hx hb dX4_addMember_64 (by decide) ?_
    refine fm_ist hx hb hst.1 hH 8 (fm_inb (by decide)) rfl rfl hi1 dX4_addMember_65 (fun H locs hH => ?_)
    refine lv_aload_n hx hb dX4_addMember_66 rfl (lv_at hl 1 rfl) ?_
    refine lv_dup hx hb dX4_addMember_67 rfl ?_
    refine fm_getf (T := TX4) (N := 18) hx hb hts (fun _ h => List.mem_cons_of_mem _ (List.mem_append_left _ (List.mem_append_left _ (List.mem_append_right _ h)))) hown hst.1 hH 0 (fm_inb (by decide)) rfl (fm_ob_0 _ _) rfl 10 (by decide) (List.mem_of_getElem? (i := 3) rfl) rfl rfl dX4_addMember_68 ?_
    refine lv_iconst (v := 1) hx hb dX4_addMember_71 (by decide) ?_
    refine lv_iadd hx hb dX4_addMember_72 ?_
    refine fm_putf (T := TX4) (N := 18) hx hb hts (fun _ h => List.mem_cons_of_mem _ (List.mem_append_left _ (List.mem_append_left _ (List.mem_append_right _ h)))) tyX4 tyX4_ok nmX4 hown hst.1 hH 0 60 0 (fm_inb (by decide)) rfl (by decide) (fm_ob_0 _ _) rfl 10 (by decide) (List.mem_of_getElem? (i := 3) rfl) rfl rfl rfl rfl (Nat.le_of_ble_eq_true rfl) dX4_addMember_73 (fun H locs hH => ?_)
    refine lv_iload_n hx hb dX4_addMember_76 rfl (lv_at hl 0 rfl) ?_
    cases h
    subst hQ
    exact fm_iret hx hb hr hlk hst hH dX4_addMember_77
  · replace h := mi_neg hc h
    cases h
/-! RX4.requireMember(I)V -/
abbrev rmX4_requireMember : Room := { frames := 0, cells := 0, slots := 0, locals := 0 }
def mX4_requireMember (x1 : Int32) (σ : fm_S) : Option fm_S :=
  if x1 < 0 then
    none
  else
    if x1 < (σ.1 60 0) then
      some σ
    else
      none
set_option maxHeartbeats 4000000 in
set_option maxRecDepth 100000 in
theorem kX4_requireMember (l : Launch) (K : fm_K) {x1 : Int32} {σ : fm_S} {σ' : fm_S} (h : mX4_requireMember x1 σ = some σ') : fm_CV l yX4_requireMember wsX4_requireMember rmX4_requireMember K [.ref (K.2.2.2 0), .int x1] σ σ' := by
  intro sz
  refine fm_start (Qc := fun sz => fm_QV K σ' sz) (cc := cX4_requireMember) (maxL := 2) (ret := none) (by decide) rfl (Nat.le_of_ble_eq_true rfl) ?_
  intro p e s m args below meth c C hr hlk hst hH ls hl
  have C : CallFix p m c cX4_requireMember 2 s args wsX4_requireMember RX4 := C
  obtain ⟨hx, hb, hml, hown, hts⟩ := id C
  have hA : ∀ q, fm_A K s.heap.size q → fm_A K s.heap.size q := fun _ h => h
  have hl : lv_has ls 2 [(0, .ref (K.2.2.2 0)), (1, .int x1)] := hl
  generalize hQ : MQ below _ args s _ _ _ = Q
  rw [mX4_requireMember] at h
  refine lv_iload_n hx hb dX4_requireMember_0 rfl (lv_at hl 1 rfl) ?_
  refine lv_if_lt (tgt := 12) hx hb dX4_requireMember_1 (by decide) (fun hc => ?_) (fun hc => ?_)
  · replace h := mi_pos hc h
    cases h
  · replace h := mi_neg hc h
    refine lv_iload_n hx hb dX4_requireMember_4 rfl (lv_at hl 1 rfl) ?_
    refine lv_aload_n hx hb dX4_requireMember_5 rfl (lv_at hl 0 rfl) ?_
    refine fm_getf (T := TX4) (N := 18) hx hb hts (fun _ h => List.mem_cons_of_mem _ (List.mem_append_left _ (List.mem_append_right _ h))) hown hst.1 hH 0 (fm_inb (by decide)) rfl (fm_ob_0 _ _) rfl 10 (by decide) (List.mem_of_getElem? (i := 3) rfl) rfl rfl dX4_requireMember_6 ?_
    refine lv_icmp_lt (tgt := 22) hx hb dX4_requireMember_9 (by decide) (fun hc => ?_) (fun hc => ?_)
    · replace h := mi_pos hc h
      cases h
      subst hQ
      exact fm_vret hx hb hr hlk hst hH dX4_requireMember_22
    · replace h := mi_neg hc h
      cases h
/-! RX4.move(III)V -/
abbrev rmX4_move : Room := { frames := 2, cells := 0, slots := 0, locals := 43 }
def mX4_move (x1 : Int32) (x2 : Int32) (x3 : Int32) (σ : fm_S) : Option fm_S :=
  mb1 (mX4_requireMember x1 σ) fun σ2 =>
  mb1 (mX4_requirePlace x2 x3 σ2) fun σ7 =>
  if (x1 < 0 ∨ 8 ≤ x1.toNatClampNeg) then none else
  some (sI (sI σ7 1 x1 x2) 2 x1 x3)
set_option maxHeartbeats 4000000 in
set_option maxRecDepth 100000 in
theorem kX4_move (l : Launch) (K : fm_K) {x1 : Int32} {x2 : Int32} {x3 : Int32} {σ : fm_S} {σ' : fm_S} (h : mX4_move x1 x2 x3 σ = some σ') : fm_CV l yX4_move wsX4_move rmX4_move K [.ref (K.2.2.2 0), .int x1, .int x2, .int x3] σ σ' := by
  intro sz
  refine fm_start (Qc := fun sz => fm_QV K σ' sz) (cc := cX4_move) (maxL := 4) (ret := none) (by decide) rfl (Nat.le_of_ble_eq_true rfl) ?_
  intro p e s m args below meth c C hr hlk hst hH ls hl
  have C : CallFix p m c cX4_move 4 s args wsX4_move RX4 := C
  obtain ⟨hx, hb, hml, hown, hts⟩ := id C
  have hA : ∀ q, fm_A K s.heap.size q → fm_A K s.heap.size q := fun _ h => h
  have hl : lv_has ls 4 [(0, .ref (K.2.2.2 0)), (1, .int x1), (2, .int x2), (3, .int x3)] := hl
  generalize hQ : MQ below _ args s _ _ _ = Q
  rw [mX4_move] at h
  refine lv_aload_n hx hb dX4_move_0 rfl (lv_at hl 0 rfl) ?_
  refine lv_iload_n hx hb dX4_move_1 rfl (lv_at hl 1 rfl) ?_
  obtain ⟨σ2, h2, h⟩ := mi_b1 h
  refine fm_cv (va_runV (As := [.int x1]) (rest := []) C (kX4_requireMember l K h2 _) (cwV 1 hts gX4_move_X4_requireMember rfl rfl rfl (by decide +kernel) ⟨(Nat.le_of_ble_eq_true rfl), (Nat.le_of_ble_eq_true rfl)⟩) ⟨fm_blind, fm_recv hst hH (q := 0) (fm_inb (by decide)) rfl (fm_ob_0 _ _) rfl, fm_pre hst hA hH⟩ rfl rfl hl.1 rfl (lv_room (Nat.le_of_ble_eq_true rfl)) dX4_move_2 ⟨(Nat.le_of_ble_eq_true rfl), (Nat.le_of_ble_eq_true rfl)⟩) hA hH (fun H locs hH => ?_)
  refine lv_iload_n hx hb dX4_move_5 rfl (lv_at hl 2 rfl) ?_
  refine lv_iload_n hx hb dX4_move_6 rfl (lv_at hl 3 rfl) ?_
  obtain ⟨σ7, h7, h⟩ := mi_b1 h
  refine fm_cv (va_runS (As := [.int x2, .int x3]) (rest := []) C (kX4_requirePlace l K h7 _) (va_cwS 2 hts gX4_move_X4_requirePlace rfl rfl rfl (by decide +kernel) ⟨(Nat.le_of_ble_eq_true rfl), (Nat.le_of_ble_eq_true rfl)⟩) ⟨fm_blind, fm_pre hst hA hH⟩ rfl rfl hl.1 rfl (lv_room (Nat.le_of_ble_eq_true rfl)) dX4_move_7 ⟨(Nat.le_of_ble_eq_true rfl), (Nat.le_of_ble_eq_true rfl)⟩) hA hH (fun H locs hH => ?_)
  refine lv_aload_n hx hb dX4_move_10 rfl (lv_at hl 0 rfl) ?_
  refine fm_getf (T := TX4) (N := 18) hx hb hts (fun _ h => List.mem_cons_of_mem _ (List.mem_append_left _ (List.mem_append_left _ (List.mem_append_right _ h)))) hown hst.1 hH 0 (fm_inb (by decide)) rfl (fm_ob_0 _ _) rfl 0 (by decide) (List.mem_of_getElem? (i := 1) rfl) rfl rfl dX4_move_11 ?_
  refine lv_iload_n hx hb dX4_move_14 rfl (lv_at hl 1 rfl) ?_
  refine lv_iload_n hx hb dX4_move_15 rfl (lv_at hl 2 rfl) ?_
  obtain ⟨hi1, h⟩ := mi_chk h
  refine fm_ist hx hb hst.1 hH 1 (fm_inb (by decide)) rfl rfl hi1 dX4_move_16 (fun H locs hH => ?_)
  refine lv_aload_n hx hb dX4_move_17 rfl (lv_at hl 0 rfl) ?_
  refine fm_getf (T := TX4) (N := 18) hx hb hts (fun _ h => List.mem_cons_of_mem _ (List.mem_append_left _ (List.mem_append_left _ (List.mem_append_right _ h)))) hown hst.1 hH 0 (fm_inb (by decide)) rfl (fm_ob_0 _ _) rfl 1 (by decide) (List.mem_of_getElem? (i := 2) rfl) rfl rfl dX4_move_18 ?_
  refine lv_iload_n hx hb dX4_move_21 rfl (lv_at hl 1 rfl) ?_
  refine lv_iload_n hx hb dX4_move_22 rfl (lv_at hl 3 rfl) ?_
  refine fm_ist hx hb hst.1 hH 2 (fm_inb (by decide)) rfl rfl hi1 dX4_move_23 (fun H locs hH => ?_)
  cases h
  subst hQ
  exact fm_vret hx hb hr hlk hst hH dX4_move_24
/-! RX4.toggle(I)Z -/
abbrev rmX4_toggle : Room := { frames := 1, cells := 0, slots := 0, locals := 21 }
def mX4_toggle (x1 : Int32) (σ : fm_S) : Option (Int32 × fm_S) :=
  mb1 (mX4_requireMember x1 σ) fun σ2 =>
  if (x1 < 0 ∨ 8 ≤ x1.toNatClampNeg) then none else
  mb1 (show Option (Int32) from
    if (rI σ2 3 x1) = 0 then
      some ((1 : Int32))
    else
      some ((0 : Int32))) fun v2_0 =>
  if ¬ vp_nar .boolean (rI (sI σ2 3 x1 (vp_nar .boolean v2_0)) 3 x1) = (rI (sI σ2 3 x1 (vp_nar .boolean v2_0)) 3 x1) then none else
  some ((rI (sI σ2 3 x1 (vp_nar .boolean v2_0)) 3 x1), (sI σ2 3 x1 (vp_nar .boolean v2_0)))
set_option maxHeartbeats 4000000 in
set_option maxRecDepth 100000 in
theorem kX4_toggle (l : Launch) (K : fm_K) {x1 : Int32} {σ : fm_S} {r : Int32} {σ' : fm_S} (h : mX4_toggle x1 σ = some (r, σ')) : fm_CI l yX4_toggle wsX4_toggle rmX4_toggle K [.ref (K.2.2.2 0), .int x1] σ r σ' := by
  intro sz
  refine fm_start (Qc := fun sz => fm_QI K r σ' sz) (cc := cX4_toggle) (maxL := 2) (ret := (some .boolean)) (by decide) rfl (Nat.le_of_ble_eq_true rfl) ?_
  intro p e s m args below meth c C hr hlk hst hH ls hl
  have C : CallFix p m c cX4_toggle 2 s args wsX4_toggle RX4 := C
  obtain ⟨hx, hb, hml, hown, hts⟩ := id C
  have hA : ∀ q, fm_A K s.heap.size q → fm_A K s.heap.size q := fun _ h => h
  have hl : lv_has ls 2 [(0, .ref (K.2.2.2 0)), (1, .int x1)] := hl
  generalize hQ : MQ below _ args s _ _ _ = Q
  rw [mX4_toggle] at h
  refine lv_aload_n hx hb dX4_toggle_0 rfl (lv_at hl 0 rfl) ?_
  refine lv_iload_n hx hb dX4_toggle_1 rfl (lv_at hl 1 rfl) ?_
  obtain ⟨σ2, h2, h⟩ := mi_b1 h
  refine fm_cv (va_runV (As := [.int x1]) (rest := []) C (kX4_requireMember l K h2 _) (cwV 1 hts gX4_toggle_X4_requireMember rfl rfl rfl (by decide +kernel) ⟨(Nat.le_of_ble_eq_true rfl), (Nat.le_of_ble_eq_true rfl)⟩) ⟨fm_blind, fm_recv hst hH (q := 0) (fm_inb (by decide)) rfl (fm_ob_0 _ _) rfl, fm_pre hst hA hH⟩ rfl rfl hl.1 rfl (lv_room (Nat.le_of_ble_eq_true rfl)) dX4_toggle_2 ⟨(Nat.le_of_ble_eq_true rfl), (Nat.le_of_ble_eq_true rfl)⟩) hA hH (fun H locs hH => ?_)
  refine lv_aload_n hx hb dX4_toggle_5 rfl (lv_at hl 0 rfl) ?_
  refine fm_getf (T := TX4) (N := 18) hx hb hts (fun _ h => List.mem_cons_of_mem _ (List.mem_append_left _ (List.mem_append_right _ h))) hown hst.1 hH 0 (fm_inb (by decide)) rfl (fm_ob_0 _ _) rfl 2 (by decide) (List.mem_of_getElem? (i := 1) rfl) rfl rfl dX4_toggle_6 ?_
  refine lv_iload_n hx hb dX4_toggle_9 rfl (lv_at hl 1 rfl) ?_
  refine lv_aload_n hx hb dX4_toggle_10 rfl (lv_at hl 0 rfl) ?_
  refine fm_getf (T := TX4) (N := 18) hx hb hts (fun _ h => List.mem_cons_of_mem _ (List.mem_append_left _ (List.mem_append_right _ h))) hown hst.1 hH 0 (fm_inb (by decide)) rfl (fm_ob_0 _ _) rfl 2 (by decide) (List.mem_of_getElem? (i := 1) rfl) rfl rfl dX4_toggle_11 ?_
  refine lv_iload_n hx hb dX4_toggle_14 rfl (lv_at hl 1 rfl) ?_
  obtain ⟨hi1, h⟩ := mi_chk h
  refine fm_zld hx hb hst.1 hH 3 (fm_inb (by decide)) rfl rfl hi1 dX4_toggle_15 ?_
  obtain ⟨v2_0, hd, h2⟩ := mi_b1 h
  have kj : ∀ (ls : Array Slot) (H : Heap) (locs : List Loc), lv_has ls 2 [(0, .ref (K.2.2.2 0)), (1, .int x1)] → fm_H K σ2 (fm_A K s.heap.size) s H locs → W p l e rmX4_toggle s m args below meth c H locs 0 0 Q (F0 m 24 ls [.int v2_0, .int x1, .ref (K.2.2.2 3)]) := by
    clear h hd
    intro ls H locs hl hH
    have h := h2
    clear h2
    refine fm_zst hx hb hst.1 hH 3 (fm_inb (by decide)) rfl rfl hi1 dX4_toggle_24 (fun H locs hH => ?_)
    refine lv_aload_n hx hb dX4_toggle_25 rfl (lv_at hl 0 rfl) ?_
    refine fm_getf (T := TX4) (N := 18) hx hb hts (fun _ h => List.mem_cons_of_mem _ (List.mem_append_left _ (List.mem_append_right _ h))) hown hst.1 hH 0 (fm_inb (by decide)) rfl (fm_ob_0 _ _) rfl 2 (by decide) (List.mem_of_getElem? (i := 1) rfl) rfl rfl dX4_toggle_26 ?_
    refine lv_iload_n hx hb dX4_toggle_29 rfl (lv_at hl 1 rfl) ?_
    refine fm_zld hx hb hst.1 hH 3 (fm_inb (by decide)) rfl rfl hi1 dX4_toggle_30 ?_
    obtain ⟨hn3, h⟩ := mi_chk h
    cases h
    subst hQ
    exact fm_zret hx hb hr (Decidable.not_not.mp hn3) hlk hst hH dX4_toggle_31
  replace h := hd
  clear h2 hd
  refine lv_if_ne (tgt := 23) hx hb dX4_toggle_16 (by decide) (fun hc => ?_) (fun hc => ?_)
  · replace h := mi_neg hc h
    refine lv_iconst (v := 0) hx hb dX4_toggle_23 (by decide) ?_
    cases h
    exact kj _ _ _ (lv_sub hl [0, 1] rfl) hH
  · replace h := mi_pos hc h
    refine lv_iconst (v := 1) hx hb dX4_toggle_19 (by decide) ?_
    refine lv_goto (tgt := 24) hx hb dX4_toggle_20 (by decide) ?_
    cases h
    exact kj _ _ _ (lv_sub hl [0, 1] rfl) hH
/-! RX4.setPriority(II)I -/
abbrev rmX4_setPriority : Room := { frames := 1, cells := 0, slots := 0, locals := 22 }
def mX4_setPriority (x1 : Int32) (x2 : Int32) (σ : fm_S) : Option (Int32 × fm_S) :=
  mb1 (mX4_requireMember x1 σ) fun σ2 =>
  mb1 (mX4_requireWithin x2 (0 : Int32) (99 : Int32) σ2) fun σ9 =>
  if (x1 < 0 ∨ 8 ≤ x1.toNatClampNeg) then none else
  some ((rI σ9 4 x1), (sI σ9 4 x1 x2))
set_option maxHeartbeats 4000000 in
set_option maxRecDepth 100000 in
theorem kX4_setPriority (l : Launch) (K : fm_K) {x1 : Int32} {x2 : Int32} {σ : fm_S} {r : Int32} {σ' : fm_S} (h : mX4_setPriority x1 x2 σ = some (r, σ')) : fm_CI l yX4_setPriority wsX4_setPriority rmX4_setPriority K [.ref (K.2.2.2 0), .int x1, .int x2] σ r σ' := by
  intro sz
  refine fm_start (Qc := fun sz => fm_QI K r σ' sz) (cc := cX4_setPriority) (maxL := 4) (ret := (some .int)) (by decide) rfl (Nat.le_of_ble_eq_true rfl) ?_
  intro p e s m args below meth c C hr hlk hst hH ls hl
  have C : CallFix p m c cX4_setPriority 4 s args wsX4_setPriority RX4 := C
  obtain ⟨hx, hb, hml, hown, hts⟩ := id C
  have hA : ∀ q, fm_A K s.heap.size q → fm_A K s.heap.size q := fun _ h => h
  have hl : lv_has ls 4 [(0, .ref (K.2.2.2 0)), (1, .int x1), (2, .int x2)] := hl
  generalize hQ : MQ below _ args s _ _ _ = Q
  rw [mX4_setPriority] at h
  refine lv_aload_n hx hb dX4_setPriority_0 rfl (lv_at hl 0 rfl) ?_
  refine lv_iload_n hx hb dX4_setPriority_1 rfl (lv_at hl 1 rfl) ?_
  obtain ⟨σ2, h2, h⟩ := mi_b1 h
  refine fm_cv (va_runV (As := [.int x1]) (rest := []) C (kX4_requireMember l K h2 _) (cwV 1 hts gX4_setPriority_X4_requireMember rfl rfl rfl (by decide +kernel) ⟨(Nat.le_of_ble_eq_true rfl), (Nat.le_of_ble_eq_true rfl)⟩) ⟨fm_blind, fm_recv hst hH (q := 0) (fm_inb (by decide)) rfl (fm_ob_0 _ _) rfl, fm_pre hst hA hH⟩ rfl rfl hl.1 rfl (lv_room (Nat.le_of_ble_eq_true rfl)) dX4_setPriority_2 ⟨(Nat.le_of_ble_eq_true rfl), (Nat.le_of_ble_eq_true rfl)⟩) hA hH (fun H locs hH => ?_)
  refine lv_iload_n hx hb dX4_setPriority_5 rfl (lv_at hl 2 rfl) ?_
  refine lv_iconst (v := 0) hx hb dX4_setPriority_6 (by decide) ?_
  refine lv_bipush (v := 99) hx hb dX4_setPriority_7 (by decide) ?_
  obtain ⟨σ9, h9, h⟩ := mi_b1 h
  refine fm_cv (va_runS (As := [.int x2, .int (0 : Int32), .int (99 : Int32)]) (rest := []) C (kX4_requireWithin l K h9 _) (va_cwS 3 hts gX4_setPriority_X4_requireWithin rfl rfl rfl (by decide +kernel) ⟨(Nat.le_of_ble_eq_true rfl), (Nat.le_of_ble_eq_true rfl)⟩) ⟨fm_blind, fm_pre hst hA hH⟩ rfl rfl hl.1 rfl (lv_room (Nat.le_of_ble_eq_true rfl)) dX4_setPriority_9 ⟨(Nat.le_of_ble_eq_true rfl), (Nat.le_of_ble_eq_true rfl)⟩) hA hH (fun H locs hH => ?_)
  refine lv_aload_n hx hb dX4_setPriority_12 rfl (lv_at hl 0 rfl) ?_
  refine fm_getf (T := TX4) (N := 18) hx hb hts (fun _ h => List.mem_cons_of_mem _ (List.mem_append_left _ (List.mem_append_left _ (List.mem_append_right _ h)))) hown hst.1 hH 0 (fm_inb (by decide)) rfl (fm_ob_0 _ _) rfl 3 (by decide) (List.mem_of_getElem? (i := 1) rfl) rfl rfl dX4_setPriority_13 ?_
  refine lv_iload_n hx hb dX4_setPriority_16 rfl (lv_at hl 1 rfl) ?_
  obtain ⟨hi1, h⟩ := mi_chk h
  refine fm_ild hx hb hst.1 hH 4 (fm_inb (by decide)) rfl rfl hi1 dX4_setPriority_17 ?_
  refine lv_istore_n (lv' := [(3, .int (rI σ9 4 x1)), (0, .ref (K.2.2.2 0)), (1, .int x1), (2, .int x2)]) hx hb dX4_setPriority_18 rfl hl (by decide) rfl (fun ls hl => ?_)
  refine lv_aload_n hx hb dX4_setPriority_19 rfl (lv_at hl 1 rfl) ?_
  refine fm_getf (T := TX4) (N := 18) hx hb hts (fun _ h => List.mem_cons_of_mem _ (List.mem_append_left _ (List.mem_append_left _ (List.mem_append_right _ h)))) hown hst.1 hH 0 (fm_inb (by decide)) rfl (fm_ob_0 _ _) rfl 3 (by decide) (List.mem_of_getElem? (i := 1) rfl) rfl rfl dX4_setPriority_20 ?_
  refine lv_iload_n hx hb dX4_setPriority_23 rfl (lv_at hl 2 rfl) ?_
  refine lv_iload_n hx hb dX4_setPriority_24 rfl (lv_at hl 3 rfl) ?_
  refine fm_ist hx hb hst.1 hH 4 (fm_inb (by decide)) rfl rfl hi1 dX4_setPriority_25 (fun H locs hH => ?_)
  refine lv_iload_n hx hb dX4_setPriority_26 rfl (lv_at hl 0 rfl) ?_
  cases h
  subst hQ
  exact fm_iret hx hb hr hlk hst hH dX4_setPriority_27
/-! RX4.setRange(I)I -/
abbrev rmX4_setRange : Room := { frames := 1, cells := 0, slots := 0, locals := 22 }
def mX4_setRange (x1 : Int32) (σ : fm_S) : Option (Int32 × fm_S) :=
  mb1 (mX4_requireWithin x1 (0 : Int32) (3000 : Int32) σ) fun σ5 =>
  some ((σ5.1 60 1), (fm_wr σ5 60 1 x1))
set_option maxHeartbeats 4000000 in
set_option maxRecDepth 100000 in
theorem kX4_setRange (l : Launch) (K : fm_K) {x1 : Int32} {σ : fm_S} {r : Int32} {σ' : fm_S} (h : mX4_setRange x1 σ = some (r, σ')) : fm_CI l yX4_setRange wsX4_setRange rmX4_setRange K [.ref (K.2.2.2 0), .int x1] σ r σ' := by
  intro sz
  refine fm_start (Qc := fun sz => fm_QI K r σ' sz) (cc := cX4_setRange) (maxL := 3) (ret := (some .int)) (by decide) rfl (Nat.le_of_ble_eq_true rfl) ?_
  intro p e s m args below meth c C hr hlk hst hH ls hl
  have C : CallFix p m c cX4_setRange 3 s args wsX4_setRange RX4 := C
  obtain ⟨hx, hb, hml, hown, hts⟩ := id C
  have hA : ∀ q, fm_A K s.heap.size q → fm_A K s.heap.size q := fun _ h => h
  have hl : lv_has ls 3 [(0, .ref (K.2.2.2 0)), (1, .int x1)] := hl
  generalize hQ : MQ below _ args s _ _ _ = Q
  rw [mX4_setRange] at h
  refine lv_iload_n hx hb dX4_setRange_0 rfl (lv_at hl 1 rfl) ?_
  refine lv_iconst (v := 0) hx hb dX4_setRange_1 (by decide) ?_
  refine lv_sipush (v := 3000) hx hb dX4_setRange_2 (by decide) ?_
  obtain ⟨σ5, h5, h⟩ := mi_b1 h
  refine fm_cv (va_runS (As := [.int x1, .int (0 : Int32), .int (3000 : Int32)]) (rest := []) C (kX4_requireWithin l K h5 _) (va_cwS 3 hts gX4_setRange_X4_requireWithin rfl rfl rfl (by decide +kernel) ⟨(Nat.le_of_ble_eq_true rfl), (Nat.le_of_ble_eq_true rfl)⟩) ⟨fm_blind, fm_pre hst hA hH⟩ rfl rfl hl.1 rfl (lv_room (Nat.le_of_ble_eq_true rfl)) dX4_setRange_5 ⟨(Nat.le_of_ble_eq_true rfl), (Nat.le_of_ble_eq_true rfl)⟩) hA hH (fun H locs hH => ?_)
  refine lv_aload_n hx hb dX4_setRange_8 rfl (lv_at hl 0 rfl) ?_
  refine fm_getf (T := TX4) (N := 18) hx hb hts (fun _ h => List.mem_cons_of_mem _ (List.mem_append_left _ (List.mem_append_right _ h))) hown hst.1 hH 0 (fm_inb (by decide)) rfl (fm_ob_0 _ _) rfl 11 (by decide) (List.mem_of_getElem? (i := 1) rfl) rfl rfl dX4_setRange_9 ?_
  refine lv_istore_n (lv' := [(2, .int (σ5.1 60 1)), (0, .ref (K.2.2.2 0)), (1, .int x1)]) hx hb dX4_setRange_12 rfl hl (by decide) rfl (fun ls hl => ?_)
  refine lv_aload_n hx hb dX4_setRange_13 rfl (lv_at hl 1 rfl) ?_
  refine lv_iload_n hx hb dX4_setRange_14 rfl (lv_at hl 2 rfl) ?_
  refine fm_putf (T := TX4) (N := 18) hx hb hts (fun _ h => List.mem_cons_of_mem _ (List.mem_append_left _ (List.mem_append_right _ h))) tyX4 tyX4_ok nmX4 hown hst.1 hH 0 60 1 (fm_inb (by decide)) rfl (by decide) (fm_ob_0 _ _) rfl 11 (by decide) (List.mem_of_getElem? (i := 1) rfl) rfl rfl rfl rfl (Nat.le_of_ble_eq_true rfl) dX4_setRange_15 (fun H locs hH => ?_)
  refine lv_iload_n hx hb dX4_setRange_18 rfl (lv_at hl 0 rfl) ?_
  cases h
  subst hQ
  exact fm_iret hx hb hr hlk hst hH dX4_setRange_19
/-! RX4.requireUnlike(II)V -/
abbrev rmX4_requireUnlike : Room := { frames := 1, cells := 0, slots := 0, locals := 21 }
def mX4_requireUnlike (x1 : Int32) (x2 : Int32) (σ : fm_S) : Option fm_S :=
  mb1 (mX4_requireMember x1 σ) fun σ2 =>
  mb1 (mX4_requireMember x2 σ2) fun σ7 =>
  if x1 = x2 then
    none
  else
    some σ7
set_option maxHeartbeats 4000000 in
set_option maxRecDepth 100000 in
theorem kX4_requireUnlike (l : Launch) (K : fm_K) {x1 : Int32} {x2 : Int32} {σ : fm_S} {σ' : fm_S} (h : mX4_requireUnlike x1 x2 σ = some σ') : fm_CV l yX4_requireUnlike wsX4_requireUnlike rmX4_requireUnlike K [.ref (K.2.2.2 0), .int x1, .int x2] σ σ' := by
  intro sz
  refine fm_start (Qc := fun sz => fm_QV K σ' sz) (cc := cX4_requireUnlike) (maxL := 3) (ret := none) (by decide) rfl (Nat.le_of_ble_eq_true rfl) ?_
  intro p e s m args below meth c C hr hlk hst hH ls hl
  have C : CallFix p m c cX4_requireUnlike 3 s args wsX4_requireUnlike RX4 := C
  obtain ⟨hx, hb, hml, hown, hts⟩ := id C
  have hA : ∀ q, fm_A K s.heap.size q → fm_A K s.heap.size q := fun _ h => h
  have hl : lv_has ls 3 [(0, .ref (K.2.2.2 0)), (1, .int x1), (2, .int x2)] := hl
  generalize hQ : MQ below _ args s _ _ _ = Q
  rw [mX4_requireUnlike] at h
  refine lv_aload_n hx hb dX4_requireUnlike_0 rfl (lv_at hl 0 rfl) ?_
  refine lv_iload_n hx hb dX4_requireUnlike_1 rfl (lv_at hl 1 rfl) ?_
  obtain ⟨σ2, h2, h⟩ := mi_b1 h
  refine fm_cv (va_runV (As := [.int x1]) (rest := []) C (kX4_requireMember l K h2 _) (cwV 1 hts gX4_requireUnlike_X4_requireMember rfl rfl rfl (by decide +kernel) ⟨(Nat.le_of_ble_eq_true rfl), (Nat.le_of_ble_eq_true rfl)⟩) ⟨fm_blind, fm_recv hst hH (q := 0) (fm_inb (by decide)) rfl (fm_ob_0 _ _) rfl, fm_pre hst hA hH⟩ rfl rfl hl.1 rfl (lv_room (Nat.le_of_ble_eq_true rfl)) dX4_requireUnlike_2 ⟨(Nat.le_of_ble_eq_true rfl), (Nat.le_of_ble_eq_true rfl)⟩) hA hH (fun H locs hH => ?_)
  refine lv_aload_n hx hb dX4_requireUnlike_5 rfl (lv_at hl 0 rfl) ?_
  refine lv_iload_n hx hb dX4_requireUnlike_6 rfl (lv_at hl 2 rfl) ?_
  obtain ⟨σ7, h7, h⟩ := mi_b1 h
  refine fm_cv (va_runV (As := [.int x2]) (rest := []) C (kX4_requireMember l K h7 _) (cwV 1 hts gX4_requireUnlike_X4_requireMember rfl rfl rfl (by decide +kernel) ⟨(Nat.le_of_ble_eq_true rfl), (Nat.le_of_ble_eq_true rfl)⟩) ⟨fm_blind, fm_recv hst hH (q := 0) (fm_inb (by decide)) rfl (fm_ob_0 _ _) rfl, fm_pre hst hA hH⟩ rfl rfl hl.1 rfl (lv_room (Nat.le_of_ble_eq_true rfl)) dX4_requireUnlike_7 ⟨(Nat.le_of_ble_eq_true rfl), (Nat.le_of_ble_eq_true rfl)⟩) hA hH (fun H locs hH => ?_)
  refine lv_iload_n hx hb dX4_requireUnlike_10 rfl (lv_at hl 1 rfl) ?_
  refine lv_iload_n hx hb dX4_requireUnlike_11 rfl (lv_at hl 2 rfl) ?_
  refine lv_icmp_ne (tgt := 25) hx hb dX4_requireUnlike_12 (by decide) (fun hc => ?_) (fun hc => ?_)
  · replace h := mi_neg hc h
    cases h
    subst hQ
    exact fm_vret hx hb hr hlk hst hH dX4_requireUnlike_25
  · replace h := mi_pos hc h
    cases h
/-! RX4.block(II)Z -/
abbrev rmX4_block : Room := { frames := 2, cells := 0, slots := 0, locals := 43 }
def mX4_block (x1 : Int32) (x2 : Int32) (σ : fm_S) : Option (Int32 × fm_S) :=
  mb1 (mX4_requireUnlike x1 x2 σ) fun σ3 =>
  mb1 (mX1_joins18 x1 x2 σ3) fun r12 =>
  if r12 = 0 then
    mb1 (mX1_join18 x1 x2 σ3) fun σ35 =>
    some ((1 : Int32), σ35)
  else
    mb1 (mX1_cut18 x1 x2 σ3) fun σ24 =>
    some ((0 : Int32), σ24)
set_option maxHeartbeats 4000000 in
set_option maxRecDepth 100000 in
theorem kX4_block (l : Launch) (K : fm_K) {x1 : Int32} {x2 : Int32} {σ : fm_S} {r : Int32} {σ' : fm_S} (h : mX4_block x1 x2 σ = some (r, σ')) : fm_CI l yX4_block wsX4_block rmX4_block K [.ref (K.2.2.2 0), .int x1, .int x2] σ r σ' := by
  intro sz
  refine fm_start (Qc := fun sz => fm_QI K r σ' sz) (cc := cX4_block) (maxL := 3) (ret := (some .boolean)) (by decide) rfl (Nat.le_of_ble_eq_true rfl) ?_
  intro p e s m args below meth c C hr hlk hst hH ls hl
  have C : CallFix p m c cX4_block 3 s args wsX4_block RX4 := C
  obtain ⟨hx, hb, hml, hown, hts⟩ := id C
  have hA : ∀ q, fm_A K s.heap.size q → fm_A K s.heap.size q := fun _ h => h
  have hl : lv_has ls 3 [(0, .ref (K.2.2.2 0)), (1, .int x1), (2, .int x2)] := hl
  generalize hQ : MQ below _ args s _ _ _ = Q
  rw [mX4_block] at h
  refine lv_aload_n hx hb dX4_block_0 rfl (lv_at hl 0 rfl) ?_
  refine lv_iload_n hx hb dX4_block_1 rfl (lv_at hl 1 rfl) ?_
  refine lv_iload_n hx hb dX4_block_2 rfl (lv_at hl 2 rfl) ?_
  obtain ⟨σ3, h3, h⟩ := mi_b1 h
  refine fm_cv (va_runV (As := [.int x1, .int x2]) (rest := []) C (kX4_requireUnlike l K h3 _) (cwV 2 hts gX4_block_X4_requireUnlike rfl rfl rfl (by decide +kernel) ⟨(Nat.le_of_ble_eq_true rfl), (Nat.le_of_ble_eq_true rfl)⟩) ⟨fm_blind, fm_recv hst hH (q := 0) (fm_inb (by decide)) rfl (fm_ob_0 _ _) rfl, fm_pre hst hA hH⟩ rfl rfl hl.1 rfl (lv_room (Nat.le_of_ble_eq_true rfl)) dX4_block_3 ⟨(Nat.le_of_ble_eq_true rfl), (Nat.le_of_ble_eq_true rfl)⟩) hA hH (fun H locs hH => ?_)
  refine lv_aload_n hx hb dX4_block_6 rfl (lv_at hl 0 rfl) ?_
  refine fm_getf (T := TX4) (N := 18) hx hb hts (fun _ h => List.mem_cons_of_mem _ (List.mem_append_left _ (List.mem_append_left _ (List.mem_append_left _ (List.mem_append_right _ h))))) hown hst.1 hH 0 (fm_inb (by decide)) rfl (fm_ob_0 _ _) rfl 9 (by decide) (List.mem_of_getElem? (i := 1) rfl) rfl rfl dX4_block_7 ?_
  refine lv_iload_n hx hb dX4_block_10 rfl (lv_at hl 1 rfl) ?_
  refine lv_iload_n hx hb dX4_block_11 rfl (lv_at hl 2 rfl) ?_
  obtain ⟨r12, h12, h⟩ := mi_b1 h
  refine fm_ci (va_runVN (As := [.int x1, .int x2]) (rest := []) C (kX1_joins18 l K h12 _) ⟨va_cnB 2 hts gX4_block_X1_joins_n112 rfl rfl rfl (hst.2.1 (RX4, 112, yX1_joins) (List.mem_of_getElem? (i := 1) rfl)) (hts (.initialized RX1) (List.mem_of_getElem? (i := 17) rfl)) (by decide +kernel) ⟨(Nat.le_of_ble_eq_true rfl), (Nat.le_of_ble_eq_true rfl)⟩, (hts (.instanceMethod yX1_joins) (List.mem_of_getElem? (i := 16) rfl)), (hts (.selects RX1 yX1_joins yX1_joins) (List.mem_of_getElem? (i := 18) rfl))⟩ ⟨fm_blind, fm_recv hst hH (q := 18) (fm_inb (by decide)) rfl (fm_ob_18 _ _) rfl, fm_pre hst hA hH⟩ rfl rfl hl.1 rfl (lv_room (Nat.le_of_ble_eq_true rfl)) dX4_block_12 ⟨(Nat.le_of_ble_eq_true rfl), (Nat.le_of_ble_eq_true rfl)⟩) hA hH (fun H locs hH => ?_)
  refine lv_if_eq (tgt := 29) hx hb dX4_block_15 (by decide) (fun hc => ?_) (fun hc => ?_)
  · replace h := mi_pos hc h
    refine lv_aload_n hx hb dX4_block_29 rfl (lv_at hl 0 rfl) ?_
    refine fm_getf (T := TX4) (N := 18) hx hb hts (fun _ h => List.mem_cons_of_mem _ (List.mem_append_left _ (List.mem_append_left _ (List.mem_append_left _ (List.mem_append_right _ h))))) hown hst.1 hH 0 (fm_inb (by decide)) rfl (fm_ob_0 _ _) rfl 9 (by decide) (List.mem_of_getElem? (i := 1) rfl) rfl rfl dX4_block_30 ?_
    refine lv_iload_n hx hb dX4_block_33 rfl (lv_at hl 1 rfl) ?_
    refine lv_iload_n hx hb dX4_block_34 rfl (lv_at hl 2 rfl) ?_
    obtain ⟨σ35, h35, h⟩ := mi_b1 h
    refine fm_cv (va_runVN (As := [.int x1, .int x2]) (rest := []) C (kX1_join18 l K h35 _) ⟨va_cnB 2 hts gX4_block_X1_join_n119 rfl rfl rfl (hst.2.1 (RX4, 119, yX1_join) (List.mem_of_getElem? (i := 2) rfl)) (hts (.initialized RX1) (List.mem_of_getElem? (i := 17) rfl)) (by decide +kernel) ⟨(Nat.le_of_ble_eq_true rfl), (Nat.le_of_ble_eq_true rfl)⟩, (hts (.instanceMethod yX1_join) (List.mem_of_getElem? (i := 30) rfl)), (hts (.selects RX1 yX1_join yX1_join) (List.mem_of_getElem? (i := 31) rfl))⟩ ⟨fm_blind, fm_recv hst hH (q := 18) (fm_inb (by decide)) rfl (fm_ob_18 _ _) rfl, fm_pre hst hA hH⟩ rfl rfl hl.1 rfl (lv_room (Nat.le_of_ble_eq_true rfl)) dX4_block_35 ⟨(Nat.le_of_ble_eq_true rfl), (Nat.le_of_ble_eq_true rfl)⟩) hA hH (fun H locs hH => ?_)
    refine lv_iconst (v := 1) hx hb dX4_block_38 (by decide) ?_
    cases h
    subst hQ
    exact fm_zret hx hb hr rfl hlk hst hH dX4_block_39
  · replace h := mi_neg hc h
    refine lv_aload_n hx hb dX4_block_18 rfl (lv_at hl 0 rfl) ?_
    refine fm_getf (T := TX4) (N := 18) hx hb hts (fun _ h => List.mem_cons_of_mem _ (List.mem_append_left _ (List.mem_append_left _ (List.mem_append_left _ (List.mem_append_right _ h))))) hown hst.1 hH 0 (fm_inb (by decide)) rfl (fm_ob_0 _ _) rfl 9 (by decide) (List.mem_of_getElem? (i := 1) rfl) rfl rfl dX4_block_19 ?_
    refine lv_iload_n hx hb dX4_block_22 rfl (lv_at hl 1 rfl) ?_
    refine lv_iload_n hx hb dX4_block_23 rfl (lv_at hl 2 rfl) ?_
    obtain ⟨σ24, h24, h⟩ := mi_b1 h
    refine fm_cv (va_runVN (As := [.int x1, .int x2]) (rest := []) C (kX1_cut18 l K h24 _) ⟨va_cnB 2 hts gX4_block_X1_cut_n116 rfl rfl rfl (hst.2.1 (RX4, 116, yX1_cut) (List.mem_of_getElem? (i := 20) rfl)) (hts (.initialized RX1) (List.mem_of_getElem? (i := 17) rfl)) (by decide +kernel) ⟨(Nat.le_of_ble_eq_true rfl), (Nat.le_of_ble_eq_true rfl)⟩, (hts (.instanceMethod yX1_cut) (List.mem_of_getElem? (i := 24) rfl)), (hts (.selects RX1 yX1_cut yX1_cut) (List.mem_of_getElem? (i := 25) rfl))⟩ ⟨fm_blind, fm_recv hst hH (q := 18) (fm_inb (by decide)) rfl (fm_ob_18 _ _) rfl, fm_pre hst hA hH⟩ rfl rfl hl.1 rfl (lv_room (Nat.le_of_ble_eq_true rfl)) dX4_block_24 ⟨(Nat.le_of_ble_eq_true rfl), (Nat.le_of_ble_eq_true rfl)⟩) hA hH (fun H locs hH => ?_)
    refine lv_iconst (v := 0) hx hb dX4_block_27 (by decide) ?_
    cases h
    subst hQ
    exact fm_zret hx hb hr rfl hlk hst hH dX4_block_28
/-! RX4.members()I -/
abbrev rmX4_members : Room := { frames := 0, cells := 0, slots := 0, locals := 0 }
def mX4_members (σ : fm_S) : Option Int32 :=
  some (σ.1 60 0)
set_option maxHeartbeats 4000000 in
set_option maxRecDepth 100000 in
theorem kX4_members (l : Launch) (K : fm_K) {σ : fm_S} {r : Int32} (h : mX4_members σ = some r) : fm_CI l yX4_members wsX4_members rmX4_members K [.ref (K.2.2.2 0)] σ r σ := by
  intro sz
  refine fm_start (Qc := fun sz => fm_QI K r σ sz) (cc := cX4_members) (maxL := 1) (ret := (some .int)) (by decide) rfl (Nat.le_of_ble_eq_true rfl) ?_
  intro p e s m args below meth c C hr hlk hst hH ls hl
  have C : CallFix p m c cX4_members 1 s args wsX4_members RX4 := C
  obtain ⟨hx, hb, hml, hown, hts⟩ := id C
  have hA : ∀ q, fm_A K s.heap.size q → fm_A K s.heap.size q := fun _ h => h
  have hl : lv_has ls 1 [(0, .ref (K.2.2.2 0))] := hl
  generalize hQ : MQ below _ args s _ _ _ = Q
  rw [mX4_members] at h
  refine lv_aload_n hx hb dX4_members_0 rfl (lv_at hl 0 rfl) ?_
  refine fm_getf (T := TX4) (N := 18) hx hb hts (fun _ h => List.mem_cons_of_mem _ (List.mem_append_right _ h)) hown hst.1 hH 0 (fm_inb (by decide)) rfl (fm_ob_0 _ _) rfl 10 (by decide) (List.mem_of_getElem? (i := 1) rfl) rfl rfl dX4_members_1 ?_
  cases h
  subst hQ
  exact fm_iret hx hb hr hlk hst hH dX4_members_4
/-! RX4.xOf(I)I -/
abbrev rmX4_xOf : Room := { frames := 1, cells := 0, slots := 0, locals := 21 }
def mX4_xOf (x1 : Int32) (σ : fm_S) : Option (Int32 × fm_S) :=
  mb1 (mX4_requireMember x1 σ) fun σ2 =>
  if (x1 < 0 ∨ 8 ≤ x1.toNatClampNeg) then none else
  some ((rI σ2 1 x1), σ2)
set_option maxHeartbeats 4000000 in
set_option maxRecDepth 100000 in
theorem kX4_xOf (l : Launch) (K : fm_K) {x1 : Int32} {σ : fm_S} {r : Int32} {σ' : fm_S} (h : mX4_xOf x1 σ = some (r, σ')) : fm_CI l yX4_xOf wsX4_xOf rmX4_xOf K [.ref (K.2.2.2 0), .int x1] σ r σ' := by
  intro sz
  refine fm_start (Qc := fun sz => fm_QI K r σ' sz) (cc := cX4_xOf) (maxL := 2) (ret := (some .int)) (by decide) rfl (Nat.le_of_ble_eq_true rfl) ?_
  intro p e s m args below meth c C hr hlk hst hH ls hl
  have C : CallFix p m c cX4_xOf 2 s args wsX4_xOf RX4 := C
  obtain ⟨hx, hb, hml, hown, hts⟩ := id C
  have hA : ∀ q, fm_A K s.heap.size q → fm_A K s.heap.size q := fun _ h => h
  have hl : lv_has ls 2 [(0, .ref (K.2.2.2 0)), (1, .int x1)] := hl
  generalize hQ : MQ below _ args s _ _ _ = Q
  rw [mX4_xOf] at h
  refine lv_aload_n hx hb dX4_xOf_0 rfl (lv_at hl 0 rfl) ?_
  refine lv_iload_n hx hb dX4_xOf_1 rfl (lv_at hl 1 rfl) ?_
  obtain ⟨σ2, h2, h⟩ := mi_b1 h
  refine fm_cv (va_runV (As := [.int x1]) (rest := []) C (kX4_requireMember l K h2 _) (cwV 1 hts gX4_xOf_X4_requireMember rfl rfl rfl (by decide +kernel) ⟨(Nat.le_of_ble_eq_true rfl), (Nat.le_of_ble_eq_true rfl)⟩) ⟨fm_blind, fm_recv hst hH (q := 0) (fm_inb (by decide)) rfl (fm_ob_0 _ _) rfl, fm_pre hst hA hH⟩ rfl rfl hl.1 rfl (lv_room (Nat.le_of_ble_eq_true rfl)) dX4_xOf_2 ⟨(Nat.le_of_ble_eq_true rfl), (Nat.le_of_ble_eq_true rfl)⟩) hA hH (fun H locs hH => ?_)
  refine lv_aload_n hx hb dX4_xOf_5 rfl (lv_at hl 0 rfl) ?_
  refine fm_getf (T := TX4) (N := 18) hx hb hts (fun _ h => List.mem_cons_of_mem _ (List.mem_append_left _ (List.mem_append_right _ h))) hown hst.1 hH 0 (fm_inb (by decide)) rfl (fm_ob_0 _ _) rfl 0 (by decide) (List.mem_of_getElem? (i := 1) rfl) rfl rfl dX4_xOf_6 ?_
  refine lv_iload_n hx hb dX4_xOf_9 rfl (lv_at hl 1 rfl) ?_
  obtain ⟨hi1, h⟩ := mi_chk h
  refine fm_ild hx hb hst.1 hH 1 (fm_inb (by decide)) rfl rfl hi1 dX4_xOf_10 ?_
  cases h
  subst hQ
  exact fm_iret hx hb hr hlk hst hH dX4_xOf_11
/-! RX4.yOf(I)I -/
abbrev rmX4_yOf : Room := { frames := 1, cells := 0, slots := 0, locals := 21 }
def mX4_yOf (x1 : Int32) (σ : fm_S) : Option (Int32 × fm_S) :=
  mb1 (mX4_requireMember x1 σ) fun σ2 =>
  if (x1 < 0 ∨ 8 ≤ x1.toNatClampNeg) then none else
  some ((rI σ2 2 x1), σ2)
set_option maxHeartbeats 4000000 in
set_option maxRecDepth 100000 in
theorem kX4_yOf (l : Launch) (K : fm_K) {x1 : Int32} {σ : fm_S} {r : Int32} {σ' : fm_S} (h : mX4_yOf x1 σ = some (r, σ')) : fm_CI l yX4_yOf wsX4_yOf rmX4_yOf K [.ref (K.2.2.2 0), .int x1] σ r σ' := by
  intro sz
  refine fm_start (Qc := fun sz => fm_QI K r σ' sz) (cc := cX4_yOf) (maxL := 2) (ret := (some .int)) (by decide) rfl (Nat.le_of_ble_eq_true rfl) ?_
  intro p e s m args below meth c C hr hlk hst hH ls hl
  have C : CallFix p m c cX4_yOf 2 s args wsX4_yOf RX4 := C
  obtain ⟨hx, hb, hml, hown, hts⟩ := id C
  have hA : ∀ q, fm_A K s.heap.size q → fm_A K s.heap.size q := fun _ h => h
  have hl : lv_has ls 2 [(0, .ref (K.2.2.2 0)), (1, .int x1)] := hl
  generalize hQ : MQ below _ args s _ _ _ = Q
  rw [mX4_yOf] at h
  refine lv_aload_n hx hb dX4_yOf_0 rfl (lv_at hl 0 rfl) ?_
  refine lv_iload_n hx hb dX4_yOf_1 rfl (lv_at hl 1 rfl) ?_
  obtain ⟨σ2, h2, h⟩ := mi_b1 h
  refine fm_cv (va_runV (As := [.int x1]) (rest := []) C (kX4_requireMember l K h2 _) (cwV 1 hts gX4_yOf_X4_requireMember rfl rfl rfl (by decide +kernel) ⟨(Nat.le_of_ble_eq_true rfl), (Nat.le_of_ble_eq_true rfl)⟩) ⟨fm_blind, fm_recv hst hH (q := 0) (fm_inb (by decide)) rfl (fm_ob_0 _ _) rfl, fm_pre hst hA hH⟩ rfl rfl hl.1 rfl (lv_room (Nat.le_of_ble_eq_true rfl)) dX4_yOf_2 ⟨(Nat.le_of_ble_eq_true rfl), (Nat.le_of_ble_eq_true rfl)⟩) hA hH (fun H locs hH => ?_)
  refine lv_aload_n hx hb dX4_yOf_5 rfl (lv_at hl 0 rfl) ?_
  refine fm_getf (T := TX4) (N := 18) hx hb hts (fun _ h => List.mem_cons_of_mem _ (List.mem_append_left _ (List.mem_append_right _ h))) hown hst.1 hH 0 (fm_inb (by decide)) rfl (fm_ob_0 _ _) rfl 1 (by decide) (List.mem_of_getElem? (i := 1) rfl) rfl rfl dX4_yOf_6 ?_
  refine lv_iload_n hx hb dX4_yOf_9 rfl (lv_at hl 1 rfl) ?_
  obtain ⟨hi1, h⟩ := mi_chk h
  refine fm_ild hx hb hst.1 hH 2 (fm_inb (by decide)) rfl rfl hi1 dX4_yOf_10 ?_
  cases h
  subst hQ
  exact fm_iret hx hb hr hlk hst hH dX4_yOf_11
/-! RX4.squareBetween(II)I -/
abbrev rmX4_squareBetween : Room := { frames := 0, cells := 0, slots := 0, locals := 0 }
def mX4_squareBetween (x1 : Int32) (x2 : Int32) (σ : fm_S) : Option Int32 :=
  if (x1 < 0 ∨ 8 ≤ x1.toNatClampNeg) then none else
  if (x2 < 0 ∨ 8 ≤ x2.toNatClampNeg) then none else
  some ((((rI σ 1 x1) - (rI σ 1 x2)) * ((rI σ 1 x1) - (rI σ 1 x2))) + (((rI σ 2 x1) - (rI σ 2 x2)) * ((rI σ 2 x1) - (rI σ 2 x2))))
set_option maxHeartbeats 4000000 in
set_option maxRecDepth 100000 in
theorem kX4_squareBetween (l : Launch) (K : fm_K) {x1 : Int32} {x2 : Int32} {σ : fm_S} {r : Int32} (h : mX4_squareBetween x1 x2 σ = some r) : fm_CI l yX4_squareBetween wsX4_squareBetween rmX4_squareBetween K [.ref (K.2.2.2 0), .int x1, .int x2] σ r σ := by
  intro sz
  refine fm_start (Qc := fun sz => fm_QI K r σ sz) (cc := cX4_squareBetween) (maxL := 5) (ret := (some .int)) (by decide) rfl (Nat.le_of_ble_eq_true rfl) ?_
  intro p e s m args below meth c C hr hlk hst hH ls hl
  have C : CallFix p m c cX4_squareBetween 5 s args wsX4_squareBetween RX4 := C
  obtain ⟨hx, hb, hml, hown, hts⟩ := id C
  have hA : ∀ q, fm_A K s.heap.size q → fm_A K s.heap.size q := fun _ h => h
  have hl : lv_has ls 5 [(0, .ref (K.2.2.2 0)), (1, .int x1), (2, .int x2)] := hl
  generalize hQ : MQ below _ args s _ _ _ = Q
  rw [mX4_squareBetween] at h
  refine lv_aload_n hx hb dX4_squareBetween_0 rfl (lv_at hl 0 rfl) ?_
  refine fm_getf (T := TX4) (N := 18) hx hb hts (fun _ h => List.mem_cons_of_mem _ (List.mem_append_right _ h)) hown hst.1 hH 0 (fm_inb (by decide)) rfl (fm_ob_0 _ _) rfl 0 (by decide) (List.mem_of_getElem? (i := 1) rfl) rfl rfl dX4_squareBetween_1 ?_
  refine lv_iload_n hx hb dX4_squareBetween_4 rfl (lv_at hl 1 rfl) ?_
  obtain ⟨hi1, h⟩ := mi_chk h
  refine fm_ild hx hb hst.1 hH 1 (fm_inb (by decide)) rfl rfl hi1 dX4_squareBetween_5 ?_
  refine lv_aload_n hx hb dX4_squareBetween_6 rfl (lv_at hl 0 rfl) ?_
  refine fm_getf (T := TX4) (N := 18) hx hb hts (fun _ h => List.mem_cons_of_mem _ (List.mem_append_right _ h)) hown hst.1 hH 0 (fm_inb (by decide)) rfl (fm_ob_0 _ _) rfl 0 (by decide) (List.mem_of_getElem? (i := 1) rfl) rfl rfl dX4_squareBetween_7 ?_
  refine lv_iload_n hx hb dX4_squareBetween_10 rfl (lv_at hl 2 rfl) ?_
  obtain ⟨hi2, h⟩ := mi_chk h
  refine fm_ild hx hb hst.1 hH 1 (fm_inb (by decide)) rfl rfl hi2 dX4_squareBetween_11 ?_
  refine lv_isub hx hb dX4_squareBetween_12 ?_
  refine lv_istore_n (lv' := [(3, .int ((rI σ 1 x1) - (rI σ 1 x2))), (0, .ref (K.2.2.2 0)), (1, .int x1), (2, .int x2)]) hx hb dX4_squareBetween_13 rfl hl (by decide) rfl (fun ls hl => ?_)
  refine lv_aload_n hx hb dX4_squareBetween_14 rfl (lv_at hl 1 rfl) ?_
  refine fm_getf (T := TX4) (N := 18) hx hb hts (fun _ h => List.mem_cons_of_mem _ (List.mem_append_right _ h)) hown hst.1 hH 0 (fm_inb (by decide)) rfl (fm_ob_0 _ _) rfl 1 (by decide) (List.mem_of_getElem? (i := 2) rfl) rfl rfl dX4_squareBetween_15 ?_
  refine lv_iload_n hx hb dX4_squareBetween_18 rfl (lv_at hl 2 rfl) ?_
  refine fm_ild hx hb hst.1 hH 2 (fm_inb (by decide)) rfl rfl hi1 dX4_squareBetween_19 ?_
  refine lv_aload_n hx hb dX4_squareBetween_20 rfl (lv_at hl 1 rfl) ?_
  refine fm_getf (T := TX4) (N := 18) hx hb hts (fun _ h => List.mem_cons_of_mem _ (List.mem_append_right _ h)) hown hst.1 hH 0 (fm_inb (by decide)) rfl (fm_ob_0 _ _) rfl 1 (by decide) (List.mem_of_getElem? (i := 2) rfl) rfl rfl dX4_squareBetween_21 ?_
  refine lv_iload_n hx hb dX4_squareBetween_24 rfl (lv_at hl 3 rfl) ?_
  refine fm_ild hx hb hst.1 hH 2 (fm_inb (by decide)) rfl rfl hi2 dX4_squareBetween_25 ?_
  refine lv_isub hx hb dX4_squareBetween_26 ?_
  refine lv_istore (lv' := [(4, .int ((rI σ 2 x1) - (rI σ 2 x2))), (3, .int ((rI σ 1 x1) - (rI σ 1 x2))), (0, .ref (K.2.2.2 0)), (1, .int x1), (2, .int x2)]) hx hb dX4_squareBetween_27 hl (by decide) rfl (fun ls hl => ?_)
  refine lv_iload_n hx hb dX4_squareBetween_29 rfl (lv_at hl 1 rfl) ?_
  refine lv_iload_n hx hb dX4_squareBetween_30 rfl (lv_at hl 1 rfl) ?_
  refine lv_imul hx hb dX4_squareBetween_31 ?_
  refine lv_iload hx hb dX4_squareBetween_32 (lv_at hl 0 rfl) ?_
  refine lv_iload hx hb dX4_squareBetween_34 (lv_at hl 0 rfl) ?_
  refine lv_imul hx hb dX4_squareBetween_36 ?_
  refine lv_iadd hx hb dX4_squareBetween_37 ?_
  cases h
  subst hQ
  exact fm_iret hx hb hr hlk hst hH dX4_squareBetween_38
/-! RX4.hears(II)Z -/
abbrev rmX4_hears : Room := { frames := 2, cells := 0, slots := 0, locals := 43 }
def mX4_hears (x1 : Int32) (x2 : Int32) (σ : fm_S) : Option Int32 :=
  if x1 = x2 then
    some (0 : Int32)
  else
    if (x1 < 0 ∨ 8 ≤ x1.toNatClampNeg) then none else
    if (rI σ 3 x1) = 0 then
      some (0 : Int32)
    else
      if (x2 < 0 ∨ 8 ≤ x2.toNatClampNeg) then none else
      if (rI σ 3 x2) = 0 then
        some (0 : Int32)
      else
        mb1 (mX1_joins18 x1 x2 σ) fun r29 =>
        if r29 = 0 then
          mb1 (mX4_squareBetween x1 x2 σ) fun r38 =>
          if ((σ.1 60 1) * (σ.1 60 1)) < r38 then
            some (0 : Int32)
          else
            some (1 : Int32)
        else
          some (0 : Int32)
set_option maxHeartbeats 4000000 in
set_option maxRecDepth 100000 in
theorem kX4_hears (l : Launch) (K : fm_K) {x1 : Int32} {x2 : Int32} {σ : fm_S} {r : Int32} (h : mX4_hears x1 x2 σ = some r) : fm_CI l yX4_hears wsX4_hears rmX4_hears K [.ref (K.2.2.2 0), .int x1, .int x2] σ r σ := by
  intro sz
  refine fm_start (Qc := fun sz => fm_QI K r σ sz) (cc := cX4_hears) (maxL := 3) (ret := (some .boolean)) (by decide) rfl (Nat.le_of_ble_eq_true rfl) ?_
  intro p e s m args below meth c C hr hlk hst hH ls hl
  have C : CallFix p m c cX4_hears 3 s args wsX4_hears RX4 := C
  obtain ⟨hx, hb, hml, hown, hts⟩ := id C
  have hA : ∀ q, fm_A K s.heap.size q → fm_A K s.heap.size q := fun _ h => h
  have hl : lv_has ls 3 [(0, .ref (K.2.2.2 0)), (1, .int x1), (2, .int x2)] := hl
  generalize hQ : MQ below _ args s _ _ _ = Q
  rw [mX4_hears] at h
  refine lv_iload_n hx hb dX4_hears_0 rfl (lv_at hl 1 rfl) ?_
  refine lv_iload_n hx hb dX4_hears_1 rfl (lv_at hl 2 rfl) ?_
  refine lv_icmp_eq (tgt := 57) hx hb dX4_hears_2 (by decide) (fun hc => ?_) (fun hc => ?_)
  · replace h := mi_pos hc h
    refine lv_iconst (v := 0) hx hb dX4_hears_57 (by decide) ?_
    cases h
    subst hQ
    exact fm_zret hx hb hr rfl hlk hst hH dX4_hears_58
  · replace h := mi_neg hc h
    refine lv_aload_n hx hb dX4_hears_5 rfl (lv_at hl 0 rfl) ?_
    refine fm_getf (T := TX4) (N := 18) hx hb hts (fun _ h => List.mem_cons_of_mem _ (List.mem_append_left _ (List.mem_append_right _ h))) hown hst.1 hH 0 (fm_inb (by decide)) rfl (fm_ob_0 _ _) rfl 2 (by decide) (List.mem_of_getElem? (i := 1) rfl) rfl rfl dX4_hears_6 ?_
    refine lv_iload_n hx hb dX4_hears_9 rfl (lv_at hl 1 rfl) ?_
    obtain ⟨hi1, h⟩ := mi_chk h
    refine fm_zld hx hb hst.1 hH 3 (fm_inb (by decide)) rfl rfl hi1 dX4_hears_10 ?_
    refine lv_if_eq (tgt := 57) hx hb dX4_hears_11 (by decide) (fun hc => ?_) (fun hc => ?_)
    · replace h := mi_pos hc h
      refine lv_iconst (v := 0) hx hb dX4_hears_57 (by decide) ?_
      cases h
      subst hQ
      exact fm_zret hx hb hr rfl hlk hst hH dX4_hears_58
    · replace h := mi_neg hc h
      refine lv_aload_n hx hb dX4_hears_14 rfl (lv_at hl 0 rfl) ?_
      refine fm_getf (T := TX4) (N := 18) hx hb hts (fun _ h => List.mem_cons_of_mem _ (List.mem_append_left _ (List.mem_append_right _ h))) hown hst.1 hH 0 (fm_inb (by decide)) rfl (fm_ob_0 _ _) rfl 2 (by decide) (List.mem_of_getElem? (i := 1) rfl) rfl rfl dX4_hears_15 ?_
      refine lv_iload_n hx hb dX4_hears_18 rfl (lv_at hl 2 rfl) ?_
      obtain ⟨hi2, h⟩ := mi_chk h
      refine fm_zld hx hb hst.1 hH 3 (fm_inb (by decide)) rfl rfl hi2 dX4_hears_19 ?_
      refine lv_if_eq (tgt := 57) hx hb dX4_hears_20 (by decide) (fun hc => ?_) (fun hc => ?_)
      · replace h := mi_pos hc h
        refine lv_iconst (v := 0) hx hb dX4_hears_57 (by decide) ?_
        cases h
        subst hQ
        exact fm_zret hx hb hr rfl hlk hst hH dX4_hears_58
      · replace h := mi_neg hc h
        refine lv_aload_n hx hb dX4_hears_23 rfl (lv_at hl 0 rfl) ?_
        refine fm_getf (T := TX4) (N := 18) hx hb hts (fun _ h => List.mem_cons_of_mem _ (List.mem_append_left _ (List.mem_append_right _ h))) hown hst.1 hH 0 (fm_inb (by decide)) rfl (fm_ob_0 _ _) rfl 9 (by decide) (List.mem_of_getElem? (i := 2) rfl) rfl rfl dX4_hears_24 ?_
        refine lv_iload_n hx hb dX4_hears_27 rfl (lv_at hl 1 rfl) ?_
        refine lv_iload_n hx hb dX4_hears_28 rfl (lv_at hl 2 rfl) ?_
        obtain ⟨r29, h29, h⟩ := mi_b1 h
        refine fm_ci (va_runVN (As := [.int x1, .int x2]) (rest := []) C (kX1_joins18 l K h29 _) ⟨va_cnB 2 hts gX4_hears_X1_joins_n112 rfl rfl rfl (hst.2.1 (RX4, 112, yX1_joins) (List.mem_of_getElem? (i := 1) rfl)) (hts (.initialized RX1) (List.mem_of_getElem? (i := 5) rfl)) (by decide +kernel) ⟨(Nat.le_of_ble_eq_true rfl), (Nat.le_of_ble_eq_true rfl)⟩, (hts (.instanceMethod yX1_joins) (List.mem_of_getElem? (i := 4) rfl)), (hts (.selects RX1 yX1_joins yX1_joins) (List.mem_of_getElem? (i := 6) rfl))⟩ ⟨fm_blind, fm_recv hst hH (q := 18) (fm_inb (by decide)) rfl (fm_ob_18 _ _) rfl, fm_pre hst hA hH⟩ rfl rfl hl.1 rfl (lv_room (Nat.le_of_ble_eq_true rfl)) dX4_hears_29 ⟨(Nat.le_of_ble_eq_true rfl), (Nat.le_of_ble_eq_true rfl)⟩) hA hH (fun H locs hH => ?_)
        refine lv_if_ne (tgt := 57) hx hb dX4_hears_32 (by decide) (fun hc => ?_) (fun hc => ?_)
        · replace h := mi_neg hc h
          refine lv_iconst (v := 0) hx hb dX4_hears_57 (by decide) ?_
          cases h
          subst hQ
          exact fm_zret hx hb hr rfl hlk hst hH dX4_hears_58
        · replace h := mi_pos hc h
          refine lv_aload_n hx hb dX4_hears_35 rfl (lv_at hl 0 rfl) ?_
          refine lv_iload_n hx hb dX4_hears_36 rfl (lv_at hl 1 rfl) ?_
          refine lv_iload_n hx hb dX4_hears_37 rfl (lv_at hl 2 rfl) ?_
          obtain ⟨r38, h38, h⟩ := mi_b1 h
          refine fm_ci (va_runV (As := [.int x1, .int x2]) (rest := []) C (kX4_squareBetween l K h38 _) (cwV 2 hts gX4_hears_X4_squareBetween rfl rfl rfl (by decide +kernel) ⟨(Nat.le_of_ble_eq_true rfl), (Nat.le_of_ble_eq_true rfl)⟩) ⟨fm_blind, fm_recv hst hH (q := 0) (fm_inb (by decide)) rfl (fm_ob_0 _ _) rfl, fm_pre hst hA hH⟩ rfl rfl hl.1 rfl (lv_room (Nat.le_of_ble_eq_true rfl)) dX4_hears_38 ⟨(Nat.le_of_ble_eq_true rfl), (Nat.le_of_ble_eq_true rfl)⟩) hA hH (fun H locs hH => ?_)
          refine lv_aload_n hx hb dX4_hears_41 rfl (lv_at hl 0 rfl) ?_
          refine fm_getf (T := TX4) (N := 18) hx hb hts (fun _ h => List.mem_cons_of_mem _ (List.mem_append_left _ (List.mem_append_right _ h))) hown hst.1 hH 0 (fm_inb (by decide)) rfl (fm_ob_0 _ _) rfl 11 (by decide) (List.mem_of_getElem? (i := 3) rfl) rfl rfl dX4_hears_42 ?_
          refine lv_aload_n hx hb dX4_hears_45 rfl (lv_at hl 0 rfl) ?_
          refine fm_getf (T := TX4) (N := 18) hx hb hts (fun _ h => List.mem_cons_of_mem _ (List.mem_append_left _ (List.mem_append_right _ h))) hown hst.1 hH 0 (fm_inb (by decide)) rfl (fm_ob_0 _ _) rfl 11 (by decide) (List.mem_of_getElem? (i := 3) rfl) rfl rfl dX4_hears_46 ?_
          refine lv_imul hx hb dX4_hears_49 ?_
          refine lv_icmp_gt (tgt := 57) hx hb dX4_hears_50 (by decide) (fun hc => ?_) (fun hc => ?_)
          · replace h := mi_pos hc h
            refine lv_iconst (v := 0) hx hb dX4_hears_57 (by decide) ?_
            cases h
            subst hQ
            exact fm_zret hx hb hr rfl hlk hst hH dX4_hears_58
          · replace h := mi_neg hc h
            refine lv_iconst (v := 1) hx hb dX4_hears_53 (by decide) ?_
            refine lv_goto (tgt := 58) hx hb dX4_hears_54 (by decide) ?_
            cases h
            subst hQ
            exact fm_zret hx hb hr rfl hlk hst hH dX4_hears_58
/-! RX4.areLinked(II)Z -/
abbrev rmX4_areLinked : Room := { frames := 3, cells := 0, slots := 0, locals := 65 }
def mX4_areLinked (x1 : Int32) (x2 : Int32) (σ : fm_S) : Option (Int32 × fm_S) :=
  mb1 (mX4_requireMember x1 σ) fun σ2 =>
  mb1 (mX4_requireMember x2 σ2) fun σ7 =>
  mb1 (mX4_hears x1 x2 σ7) fun r13 =>
  if ¬ vp_nar .boolean r13 = r13 then none else
  some (r13, σ7)
set_option maxHeartbeats 4000000 in
set_option maxRecDepth 100000 in
theorem kX4_areLinked (l : Launch) (K : fm_K) {x1 : Int32} {x2 : Int32} {σ : fm_S} {r : Int32} {σ' : fm_S} (h : mX4_areLinked x1 x2 σ = some (r, σ')) : fm_CI l yX4_areLinked wsX4_areLinked rmX4_areLinked K [.ref (K.2.2.2 0), .int x1, .int x2] σ r σ' := by
  intro sz
  refine fm_start (Qc := fun sz => fm_QI K r σ' sz) (cc := cX4_areLinked) (maxL := 3) (ret := (some .boolean)) (by decide) rfl (Nat.le_of_ble_eq_true rfl) ?_
  intro p e s m args below meth c C hr hlk hst hH ls hl
  have C : CallFix p m c cX4_areLinked 3 s args wsX4_areLinked RX4 := C
  obtain ⟨hx, hb, hml, hown, hts⟩ := id C
  have hA : ∀ q, fm_A K s.heap.size q → fm_A K s.heap.size q := fun _ h => h
  have hl : lv_has ls 3 [(0, .ref (K.2.2.2 0)), (1, .int x1), (2, .int x2)] := hl
  generalize hQ : MQ below _ args s _ _ _ = Q
  rw [mX4_areLinked] at h
  refine lv_aload_n hx hb dX4_areLinked_0 rfl (lv_at hl 0 rfl) ?_
  refine lv_iload_n hx hb dX4_areLinked_1 rfl (lv_at hl 1 rfl) ?_
  obtain ⟨σ2, h2, h⟩ := mi_b1 h
  refine fm_cv (va_runV (As := [.int x1]) (rest := []) C (kX4_requireMember l K h2 _) (cwV 1 hts gX4_areLinked_X4_requireMember rfl rfl rfl (by decide +kernel) ⟨(Nat.le_of_ble_eq_true rfl), (Nat.le_of_ble_eq_true rfl)⟩) ⟨fm_blind, fm_recv hst hH (q := 0) (fm_inb (by decide)) rfl (fm_ob_0 _ _) rfl, fm_pre hst hA hH⟩ rfl rfl hl.1 rfl (lv_room (Nat.le_of_ble_eq_true rfl)) dX4_areLinked_2 ⟨(Nat.le_of_ble_eq_true rfl), (Nat.le_of_ble_eq_true rfl)⟩) hA hH (fun H locs hH => ?_)
  refine lv_aload_n hx hb dX4_areLinked_5 rfl (lv_at hl 0 rfl) ?_
  refine lv_iload_n hx hb dX4_areLinked_6 rfl (lv_at hl 2 rfl) ?_
  obtain ⟨σ7, h7, h⟩ := mi_b1 h
  refine fm_cv (va_runV (As := [.int x2]) (rest := []) C (kX4_requireMember l K h7 _) (cwV 1 hts gX4_areLinked_X4_requireMember rfl rfl rfl (by decide +kernel) ⟨(Nat.le_of_ble_eq_true rfl), (Nat.le_of_ble_eq_true rfl)⟩) ⟨fm_blind, fm_recv hst hH (q := 0) (fm_inb (by decide)) rfl (fm_ob_0 _ _) rfl, fm_pre hst hA hH⟩ rfl rfl hl.1 rfl (lv_room (Nat.le_of_ble_eq_true rfl)) dX4_areLinked_7 ⟨(Nat.le_of_ble_eq_true rfl), (Nat.le_of_ble_eq_true rfl)⟩) hA hH (fun H locs hH => ?_)
  refine lv_aload_n hx hb dX4_areLinked_10 rfl (lv_at hl 0 rfl) ?_
  refine lv_iload_n hx hb dX4_areLinked_11 rfl (lv_at hl 1 rfl) ?_
  refine lv_iload_n hx hb dX4_areLinked_12 rfl (lv_at hl 2 rfl) ?_
  obtain ⟨r13, h13, h⟩ := mi_b1 h
  refine fm_ci (va_runV (As := [.int x1, .int x2]) (rest := []) C (kX4_hears l K h13 _) (cwV 2 hts gX4_areLinked_X4_hears rfl rfl rfl (by decide +kernel) ⟨(Nat.le_of_ble_eq_true rfl), (Nat.le_of_ble_eq_true rfl)⟩) ⟨fm_blind, fm_recv hst hH (q := 0) (fm_inb (by decide)) rfl (fm_ob_0 _ _) rfl, fm_pre hst hA hH⟩ rfl rfl hl.1 rfl (lv_room (Nat.le_of_ble_eq_true rfl)) dX4_areLinked_13 ⟨(Nat.le_of_ble_eq_true rfl), (Nat.le_of_ble_eq_true rfl)⟩) hA hH (fun H locs hH => ?_)
  obtain ⟨hn1, h⟩ := mi_chk h
  cases h
  subst hQ
  exact fm_zret hx hb hr (Decidable.not_not.mp hn1) hlk hst hH dX4_areLinked_16
/-! RX4.drawNet()V -/
abbrev rmX4_drawNet : Room := { frames := 3, cells := 0, slots := 0, locals := 65 }
def mX4_drawNet_L19 : Nat → Int32 → Int32 → fm_S → Option (fm_S)
  | 0, _, _, _ => none
  | n + 1, x1, x2, σ =>
    if x1 ≤ x2 then
      some σ
    else
      mb1 (mX4_hears x1 x2 σ) fun r27 =>
      if r27 = 0 then
        mX4_drawNet_L19 n x1 (x2 + 1) σ
      else
        mb1 (mX1_join20 x1 x2 σ) fun σ39 =>
        mX4_drawNet_L19 n x1 (x2 + 1) σ39
set_option maxHeartbeats 4000000 in
set_option maxRecDepth 100000 in
theorem wX4_drawNet_L19 {p : Program} {l : Launch} {e : Env} {s : State} {m : MethodId} {args : Array Value} {below : List Frame} {meth : Method} {c : Code} {Q : State → Prop} {K : fm_K} {A : Nat → Prop} (C : CallFix p m c cX4_drawNet 3 s args wsX4_drawNet RX4) (hst : fm_st K A s s.heap) (hA : ∀ q, fm_A K s.heap.size q → A q) :
    ∀ (n : Nat) (x1 : Int32) (x2 : Int32) (σ : fm_S) (σo : fm_S), mX4_drawNet_L19 n x1 x2 σ = some σo → (∀ (ls : Array Slot) (H : Heap) (locs : List Loc), lv_has ls 3 [(0, .ref (K.2.2.2 0)), (1, .int x1)] → fm_H K σo A s H locs → W p l e rmX4_drawNet s m args below meth c H locs 0 0 Q (F0 m 48 ls [])) → ∀ (ls : Array Slot) (H : Heap) (locs : List Loc), lv_has ls 3 [(0, .ref (K.2.2.2 0)), (1, .int x1), (2, .int x2)] → fm_H K σ A s H locs → W p l e rmX4_drawNet s m args below meth c H locs 0 0 Q (F0 m 19 ls []) := by
  obtain ⟨hx, hb, hml, hown, hts⟩ := id C
  intro n
  induction n with
  | zero => intro x1 x2 σ σo h; simp [mX4_drawNet_L19] at h
  | succ n ih =>
    intro x1 x2 σ σo h kk ls H locs hl hH
    rw [mX4_drawNet_L19] at h
    refine lv_iload_n hx hb dX4_drawNet_19 rfl (lv_at hl 2 rfl) ?_
    refine lv_iload_n hx hb dX4_drawNet_20 rfl (lv_at hl 1 rfl) ?_
    refine lv_icmp_ge (tgt := 48) hx hb dX4_drawNet_21 (by decide) (fun hc => ?_) (fun hc => ?_)
    · replace h := mi_pos hc h
      cases h
      exact kk _ _ _ (lv_sub hl [0, 1] rfl) hH
    · replace h := mi_neg hc h
      refine lv_aload_n hx hb dX4_drawNet_24 rfl (lv_at hl 0 rfl) ?_
      refine lv_iload_n hx hb dX4_drawNet_25 rfl (lv_at hl 1 rfl) ?_
      refine lv_iload_n hx hb dX4_drawNet_26 rfl (lv_at hl 2 rfl) ?_
      obtain ⟨r27, h27, h⟩ := mi_b1 h
      refine fm_ci (va_runV (As := [.int x1, .int x2]) (rest := []) C (kX4_hears l K h27 _) (cwV 2 hts gX4_drawNet_X4_hears rfl rfl rfl (by decide +kernel) ⟨(Nat.le_of_ble_eq_true rfl), (Nat.le_of_ble_eq_true rfl)⟩) ⟨fm_blind, fm_recv hst hH (q := 0) (fm_inb (by decide)) rfl (fm_ob_0 _ _) rfl, fm_pre hst hA hH⟩ rfl rfl hl.1 rfl (lv_room (Nat.le_of_ble_eq_true rfl)) dX4_drawNet_27 ⟨(Nat.le_of_ble_eq_true rfl), (Nat.le_of_ble_eq_true rfl)⟩) hA hH (fun H locs hH => ?_)
      refine lv_if_eq (tgt := 42) hx hb dX4_drawNet_30 (by decide) (fun hc => ?_) (fun hc => ?_)
      · replace h := mi_pos hc h
        refine lv_iinc (v := (x2 + 1)) (lv' := [(2, .int (x2 + 1)), (0, .ref (K.2.2.2 0)), (1, .int x1)]) hx hb dX4_drawNet_42 hl (k := 2) rfl rfl (by decide) rfl (fun ls hl => ?_)
        refine lv_goto (tgt := 19) hx hb dX4_drawNet_45 (by decide) ?_
        exact ih _ _ _ _ h kk _ _ _ (lv_sub hl [1, 2, 0] rfl) hH
      · replace h := mi_neg hc h
        refine lv_aload_n hx hb dX4_drawNet_33 rfl (lv_at hl 0 rfl) ?_
        refine fm_getf (T := TX4) (N := 18) hx hb hts (fun _ h => List.mem_cons_of_mem _ (List.mem_append_left _ (List.mem_append_right _ h))) hown hst.1 hH 0 (fm_inb (by decide)) rfl (fm_ob_0 _ _) rfl 12 (by decide) (List.mem_of_getElem? (i := 1) rfl) rfl rfl dX4_drawNet_34 ?_
        refine lv_iload_n hx hb dX4_drawNet_37 rfl (lv_at hl 1 rfl) ?_
        refine lv_iload_n hx hb dX4_drawNet_38 rfl (lv_at hl 2 rfl) ?_
        obtain ⟨σ39, h39, h⟩ := mi_b1 h
        refine fm_cv (va_runVN (As := [.int x1, .int x2]) (rest := []) C (kX1_join20 l K h39 _) ⟨va_cnB 2 hts gX4_drawNet_X1_join_n119 rfl rfl rfl (hst.2.1 (RX4, 119, yX1_join) (List.mem_of_getElem? (i := 2) rfl)) (hts (.initialized RX1) (List.mem_of_getElem? (i := 4) rfl)) (by decide +kernel) ⟨(Nat.le_of_ble_eq_true rfl), (Nat.le_of_ble_eq_true rfl)⟩, (hts (.instanceMethod yX1_join) (List.mem_of_getElem? (i := 32) rfl)), (hts (.selects RX1 yX1_join yX1_join) (List.mem_of_getElem? (i := 33) rfl))⟩ ⟨fm_blind, fm_recv hst hH (q := 20) (fm_inb (by decide)) rfl (fm_ob_20 _ _) rfl, fm_pre hst hA hH⟩ rfl rfl hl.1 rfl (lv_room (Nat.le_of_ble_eq_true rfl)) dX4_drawNet_39 ⟨(Nat.le_of_ble_eq_true rfl), (Nat.le_of_ble_eq_true rfl)⟩) hA hH (fun H locs hH => ?_)
        refine lv_iinc (v := (x2 + 1)) (lv' := [(2, .int (x2 + 1)), (0, .ref (K.2.2.2 0)), (1, .int x1)]) hx hb dX4_drawNet_42 hl (k := 2) rfl rfl (by decide) rfl (fun ls hl => ?_)
        refine lv_goto (tgt := 19) hx hb dX4_drawNet_45 (by decide) ?_
        exact ih _ _ _ _ h kk _ _ _ (lv_sub hl [1, 2, 0] rfl) hH
def mX4_drawNet_L9 : Nat → Int32 → fm_S → Option (fm_S)
  | 0, _, _ => none
  | n + 1, x1, σ =>
    if (σ.1 60 0) ≤ x1 then
      some σ
    else
      mb1 (mX4_drawNet_L19 fF x1 (0 : Int32) σ) fun σ19 =>
      mX4_drawNet_L9 n (x1 + 1) σ19
set_option maxHeartbeats 4000000 in
set_option maxRecDepth 100000 in
theorem wX4_drawNet_L9 {p : Program} {l : Launch} {e : Env} {s : State} {m : MethodId} {args : Array Value} {below : List Frame} {meth : Method} {c : Code} {Q : State → Prop} {K : fm_K} {A : Nat → Prop} (C : CallFix p m c cX4_drawNet 3 s args wsX4_drawNet RX4) (hst : fm_st K A s s.heap) (hA : ∀ q, fm_A K s.heap.size q → A q) :
    ∀ (n : Nat) (x1 : Int32) (σ : fm_S) (σo : fm_S), mX4_drawNet_L9 n x1 σ = some σo → (∀ (ls : Array Slot) (H : Heap) (locs : List Loc), lv_has ls 3 [] → fm_H K σo A s H locs → W p l e rmX4_drawNet s m args below meth c H locs 0 0 Q (F0 m 54 ls [])) → ∀ (ls : Array Slot) (H : Heap) (locs : List Loc), lv_has ls 3 [(0, .ref (K.2.2.2 0)), (1, .int x1)] → fm_H K σ A s H locs → W p l e rmX4_drawNet s m args below meth c H locs 0 0 Q (F0 m 9 ls []) := by
  obtain ⟨hx, hb, hml, hown, hts⟩ := id C
  intro n
  induction n with
  | zero => intro x1 σ σo h; simp [mX4_drawNet_L9] at h
  | succ n ih =>
    intro x1 σ σo h kk ls H locs hl hH
    rw [mX4_drawNet_L9] at h
    refine lv_iload_n hx hb dX4_drawNet_9 rfl (lv_at hl 1 rfl) ?_
    refine lv_aload_n hx hb dX4_drawNet_10 rfl (lv_at hl 0 rfl) ?_
    refine fm_getf (T := TX4) (N := 18) hx hb hts (fun _ h => List.mem_cons_of_mem _ (List.mem_append_left _ (List.mem_append_right _ h))) hown hst.1 hH 0 (fm_inb (by decide)) rfl (fm_ob_0 _ _) rfl 10 (by decide) (List.mem_of_getElem? (i := 2) rfl) rfl rfl dX4_drawNet_11 ?_
    refine lv_icmp_ge (tgt := 54) hx hb dX4_drawNet_14 (by decide) (fun hc => ?_) (fun hc => ?_)
    · replace h := mi_pos hc h
      cases h
      exact kk _ _ _ (lv_sub hl [] rfl) hH
    · replace h := mi_neg hc h
      refine lv_iconst (v := 0) hx hb dX4_drawNet_17 (by decide) ?_
      refine lv_istore_n (lv' := [(2, .int (0 : Int32)), (0, .ref (K.2.2.2 0)), (1, .int x1)]) hx hb dX4_drawNet_18 rfl hl (by decide) rfl (fun ls hl => ?_)
      obtain ⟨σ19, h19, h⟩ := mi_b1 h
      refine wX4_drawNet_L19 C hst hA _ _ _ _ _ h19 (fun ls H locs hl hH => ?_) _ _ _ (lv_sub hl [1, 2, 0] rfl) hH
      refine lv_iinc (v := (x1 + 1)) (lv' := [(1, .int (x1 + 1)), (0, .ref (K.2.2.2 0))]) hx hb dX4_drawNet_48 hl (k := 1) rfl rfl (by decide) rfl (fun ls hl => ?_)
      refine lv_goto (tgt := 9) hx hb dX4_drawNet_51 (by decide) ?_
      exact ih _ _ _ h kk _ _ _ (lv_sub hl [1, 0] rfl) hH
def mX4_drawNet (σ : fm_S) : Option fm_S :=
  mb1 (mX1_clear20 σ) fun σ4 =>
  mb1 (mX4_drawNet_L9 fF (0 : Int32) σ4) fun σ9 =>
  some σ9
set_option maxHeartbeats 4000000 in
set_option maxRecDepth 100000 in
theorem kX4_drawNet (l : Launch) (K : fm_K) {σ : fm_S} {σ' : fm_S} (h : mX4_drawNet σ = some σ') : fm_CV l yX4_drawNet wsX4_drawNet rmX4_drawNet K [.ref (K.2.2.2 0)] σ σ' := by
  intro sz
  refine fm_start (Qc := fun sz => fm_QV K σ' sz) (cc := cX4_drawNet) (maxL := 3) (ret := none) (by decide) rfl (Nat.le_of_ble_eq_true rfl) ?_
  intro p e s m args below meth c C hr hlk hst hH ls hl
  have C : CallFix p m c cX4_drawNet 3 s args wsX4_drawNet RX4 := C
  obtain ⟨hx, hb, hml, hown, hts⟩ := id C
  have hA : ∀ q, fm_A K s.heap.size q → fm_A K s.heap.size q := fun _ h => h
  have hl : lv_has ls 3 [(0, .ref (K.2.2.2 0))] := hl
  generalize hQ : MQ below _ args s _ _ _ = Q
  rw [mX4_drawNet] at h
  refine lv_aload_n hx hb dX4_drawNet_0 rfl (lv_at hl 0 rfl) ?_
  refine fm_getf (T := TX4) (N := 18) hx hb hts (fun _ h => List.mem_cons_of_mem _ (List.mem_append_left _ (List.mem_append_right _ h))) hown hst.1 hH 0 (fm_inb (by decide)) rfl (fm_ob_0 _ _) rfl 12 (by decide) (List.mem_of_getElem? (i := 1) rfl) rfl rfl dX4_drawNet_1 ?_
  obtain ⟨σ4, h4, h⟩ := mi_b1 h
  refine fm_cv (va_runVN (As := []) (rest := []) C (kX1_clear20 l K h4 _) ⟨va_cnB 0 hts gX4_drawNet_X1_clear_n218 rfl rfl rfl (hst.2.1 (RX4, 218, yX1_clear) (List.mem_of_getElem? (i := 0) rfl)) (hts (.initialized RX1) (List.mem_of_getElem? (i := 4) rfl)) (by decide +kernel) ⟨(Nat.le_of_ble_eq_true rfl), (Nat.le_of_ble_eq_true rfl)⟩, (hts (.instanceMethod yX1_clear) (List.mem_of_getElem? (i := 3) rfl)), (hts (.selects RX1 yX1_clear yX1_clear) (List.mem_of_getElem? (i := 5) rfl))⟩ ⟨fm_blind, fm_recv hst hH (q := 20) (fm_inb (by decide)) rfl (fm_ob_20 _ _) rfl, fm_pre hst hA hH⟩ rfl rfl hl.1 rfl (lv_room (Nat.le_of_ble_eq_true rfl)) dX4_drawNet_4 ⟨(Nat.le_of_ble_eq_true rfl), (Nat.le_of_ble_eq_true rfl)⟩) hA hH (fun H locs hH => ?_)
  refine lv_iconst (v := 0) hx hb dX4_drawNet_7 (by decide) ?_
  refine lv_istore_n (lv' := [(1, .int (0 : Int32)), (0, .ref (K.2.2.2 0))]) hx hb dX4_drawNet_8 rfl hl (by decide) rfl (fun ls hl => ?_)
  obtain ⟨σ9, h9, h⟩ := mi_b1 h
  refine wX4_drawNet_L9 C hst hA _ _ _ _ h9 (fun ls H locs hl hH => ?_) _ _ _ (lv_sub hl [1, 0] rfl) hH
  cases h
  subst hQ
  exact fm_vret hx hb hr hlk hst hH dX4_drawNet_54
/-! RX4.links()I -/
abbrev rmX4_links : Room := { frames := 4, cells := 0, slots := 0, locals := 87 }
def mX4_links (σ : fm_S) : Option (Int32 × fm_S) :=
  mb1 (mX4_drawNet σ) fun σ1 =>
  mb1 (mX1_pairCount20 σ1) fun r8 =>
  some (r8, σ1)
set_option maxHeartbeats 4000000 in
set_option maxRecDepth 100000 in
theorem kX4_links (l : Launch) (K : fm_K) {σ : fm_S} {r : Int32} {σ' : fm_S} (h : mX4_links σ = some (r, σ')) : fm_CI l yX4_links wsX4_links rmX4_links K [.ref (K.2.2.2 0)] σ r σ' := by
  intro sz
  refine fm_start (Qc := fun sz => fm_QI K r σ' sz) (cc := cX4_links) (maxL := 1) (ret := (some .int)) (by decide) rfl (Nat.le_of_ble_eq_true rfl) ?_
  intro p e s m args below meth c C hr hlk hst hH ls hl
  have C : CallFix p m c cX4_links 1 s args wsX4_links RX4 := C
  obtain ⟨hx, hb, hml, hown, hts⟩ := id C
  have hA : ∀ q, fm_A K s.heap.size q → fm_A K s.heap.size q := fun _ h => h
  have hl : lv_has ls 1 [(0, .ref (K.2.2.2 0))] := hl
  generalize hQ : MQ below _ args s _ _ _ = Q
  rw [mX4_links] at h
  refine lv_aload_n hx hb dX4_links_0 rfl (lv_at hl 0 rfl) ?_
  obtain ⟨σ1, h1, h⟩ := mi_b1 h
  refine fm_cv (va_runV (As := []) (rest := []) C (kX4_drawNet l K h1 _) (cwV 0 hts gX4_links_X4_drawNet rfl rfl rfl (by decide +kernel) ⟨(Nat.le_of_ble_eq_true rfl), (Nat.le_of_ble_eq_true rfl)⟩) ⟨fm_blind, fm_recv hst hH (q := 0) (fm_inb (by decide)) rfl (fm_ob_0 _ _) rfl, fm_pre hst hA hH⟩ rfl rfl hl.1 rfl (lv_room (Nat.le_of_ble_eq_true rfl)) dX4_links_1 ⟨(Nat.le_of_ble_eq_true rfl), (Nat.le_of_ble_eq_true rfl)⟩) hA hH (fun H locs hH => ?_)
  refine lv_aload_n hx hb dX4_links_4 rfl (lv_at hl 0 rfl) ?_
  refine fm_getf (T := TX4) (N := 18) hx hb hts (fun _ h => List.mem_cons_of_mem _ (List.mem_append_left _ (List.mem_append_right _ h))) hown hst.1 hH 0 (fm_inb (by decide)) rfl (fm_ob_0 _ _) rfl 12 (by decide) (List.mem_of_getElem? (i := 1) rfl) rfl rfl dX4_links_5 ?_
  obtain ⟨r8, h8, h⟩ := mi_b1 h
  refine fm_ci (va_runVN (As := []) (rest := []) C (kX1_pairCount20 l K h8 _) ⟨va_cnB 0 hts gX4_links_X1_pairCount_n128 rfl rfl rfl (hst.2.1 (RX4, 128, yX1_pairCount) (List.mem_of_getElem? (i := 3) rfl)) (hts (.initialized RX1) (List.mem_of_getElem? (i := 9) rfl)) (by decide +kernel) ⟨(Nat.le_of_ble_eq_true rfl), (Nat.le_of_ble_eq_true rfl)⟩, (hts (.instanceMethod yX1_pairCount) (List.mem_of_getElem? (i := 42) rfl)), (hts (.selects RX1 yX1_pairCount yX1_pairCount) (List.mem_of_getElem? (i := 43) rfl))⟩ ⟨fm_blind, fm_recv hst hH (q := 20) (fm_inb (by decide)) rfl (fm_ob_20 _ _) rfl, fm_pre hst hA hH⟩ rfl rfl hl.1 rfl (lv_room (Nat.le_of_ble_eq_true rfl)) dX4_links_8 ⟨(Nat.le_of_ble_eq_true rfl), (Nat.le_of_ble_eq_true rfl)⟩) hA hH (fun H locs hH => ?_)
  cases h
  subst hQ
  exact fm_iret hx hb hr hlk hst hH dX4_links_11
/-! RX4.degree(I)I -/
abbrev rmX4_degree : Room := { frames := 4, cells := 0, slots := 0, locals := 87 }
def mX4_degree (x1 : Int32) (σ : fm_S) : Option (Int32 × fm_S) :=
  mb1 (mX4_requireMember x1 σ) fun σ2 =>
  mb1 (mX4_drawNet σ2) fun σ6 =>
  mb1 (mX1_degreeOf20 x1 σ6) fun r14 =>
  some (r14, σ6)
set_option maxHeartbeats 4000000 in
set_option maxRecDepth 100000 in
theorem kX4_degree (l : Launch) (K : fm_K) {x1 : Int32} {σ : fm_S} {r : Int32} {σ' : fm_S} (h : mX4_degree x1 σ = some (r, σ')) : fm_CI l yX4_degree wsX4_degree rmX4_degree K [.ref (K.2.2.2 0), .int x1] σ r σ' := by
  intro sz
  refine fm_start (Qc := fun sz => fm_QI K r σ' sz) (cc := cX4_degree) (maxL := 2) (ret := (some .int)) (by decide) rfl (Nat.le_of_ble_eq_true rfl) ?_
  intro p e s m args below meth c C hr hlk hst hH ls hl
  have C : CallFix p m c cX4_degree 2 s args wsX4_degree RX4 := C
  obtain ⟨hx, hb, hml, hown, hts⟩ := id C
  have hA : ∀ q, fm_A K s.heap.size q → fm_A K s.heap.size q := fun _ h => h
  have hl : lv_has ls 2 [(0, .ref (K.2.2.2 0)), (1, .int x1)] := hl
  generalize hQ : MQ below _ args s _ _ _ = Q
  rw [mX4_degree] at h
  refine lv_aload_n hx hb dX4_degree_0 rfl (lv_at hl 0 rfl) ?_
  refine lv_iload_n hx hb dX4_degree_1 rfl (lv_at hl 1 rfl) ?_
  obtain ⟨σ2, h2, h⟩ := mi_b1 h
  refine fm_cv (va_runV (As := [.int x1]) (rest := []) C (kX4_requireMember l K h2 _) (cwV 1 hts gX4_degree_X4_requireMember rfl rfl rfl (by decide +kernel) ⟨(Nat.le_of_ble_eq_true rfl), (Nat.le_of_ble_eq_true rfl)⟩) ⟨fm_blind, fm_recv hst hH (q := 0) (fm_inb (by decide)) rfl (fm_ob_0 _ _) rfl, fm_pre hst hA hH⟩ rfl rfl hl.1 rfl (lv_room (Nat.le_of_ble_eq_true rfl)) dX4_degree_2 ⟨(Nat.le_of_ble_eq_true rfl), (Nat.le_of_ble_eq_true rfl)⟩) hA hH (fun H locs hH => ?_)
  refine lv_aload_n hx hb dX4_degree_5 rfl (lv_at hl 0 rfl) ?_
  obtain ⟨σ6, h6, h⟩ := mi_b1 h
  refine fm_cv (va_runV (As := []) (rest := []) C (kX4_drawNet l K h6 _) (cwV 0 hts gX4_degree_X4_drawNet rfl rfl rfl (by decide +kernel) ⟨(Nat.le_of_ble_eq_true rfl), (Nat.le_of_ble_eq_true rfl)⟩) ⟨fm_blind, fm_recv hst hH (q := 0) (fm_inb (by decide)) rfl (fm_ob_0 _ _) rfl, fm_pre hst hA hH⟩ rfl rfl hl.1 rfl (lv_room (Nat.le_of_ble_eq_true rfl)) dX4_degree_6 ⟨(Nat.le_of_ble_eq_true rfl), (Nat.le_of_ble_eq_true rfl)⟩) hA hH (fun H locs hH => ?_)
  refine lv_aload_n hx hb dX4_degree_9 rfl (lv_at hl 0 rfl) ?_
  refine fm_getf (T := TX4) (N := 18) hx hb hts (fun _ h => List.mem_cons_of_mem _ (List.mem_append_left _ (List.mem_append_left _ (List.mem_append_right _ h)))) hown hst.1 hH 0 (fm_inb (by decide)) rfl (fm_ob_0 _ _) rfl 12 (by decide) (List.mem_of_getElem? (i := 1) rfl) rfl rfl dX4_degree_10 ?_
  refine lv_iload_n hx hb dX4_degree_13 rfl (lv_at hl 1 rfl) ?_
  obtain ⟨r14, h14, h⟩ := mi_b1 h
  refine fm_ci (va_runVN (As := [.int x1]) (rest := []) C (kX1_degreeOf20 l K h14 _) ⟨va_cnB 1 hts gX4_degree_X1_degreeOf_n132 rfl rfl rfl (hst.2.1 (RX4, 132, yX1_degreeOf) (List.mem_of_getElem? (i := 21) rfl)) (hts (.initialized RX1) (List.mem_of_getElem? (i := 15) rfl)) (by decide +kernel) ⟨(Nat.le_of_ble_eq_true rfl), (Nat.le_of_ble_eq_true rfl)⟩, (hts (.instanceMethod yX1_degreeOf) (List.mem_of_getElem? (i := 48) rfl)), (hts (.selects RX1 yX1_degreeOf yX1_degreeOf) (List.mem_of_getElem? (i := 49) rfl))⟩ ⟨fm_blind, fm_recv hst hH (q := 20) (fm_inb (by decide)) rfl (fm_ob_20 _ _) rfl, fm_pre hst hA hH⟩ rfl rfl hl.1 rfl (lv_room (Nat.le_of_ble_eq_true rfl)) dX4_degree_14 ⟨(Nat.le_of_ble_eq_true rfl), (Nat.le_of_ble_eq_true rfl)⟩) hA hH (fun H locs hH => ?_)
  cases h
  subst hQ
  exact fm_iret hx hb hr hlk hst hH dX4_degree_17
/-! RX4.countGroups()I -/
abbrev rmX4_countGroups : Room := { frames := 2, cells := 0, slots := 0, locals := 46 }
def mX4_countGroups_L6 : Nat → Int32 → Int32 → Int32 → fm_S → Option (Int32)
  | 0, _, _, _, _ => none
  | n + 1, x1, x2, x3, σ =>
    if (σ.1 60 0) ≤ x3 then
      some x1
    else
      if (x3 < 0 ∨ 8 ≤ x3.toNatClampNeg) then none else
      if (rI σ 3 x3) = 0 then
        mX4_countGroups_L6 n x1 x2 (x3 + 1) σ
      else
        mb1 (mX1_holds x2 x3) fun r25 =>
        if r25 = 0 then
          mb1 (mX1_groupOf20 x3 σ) fun r37 =>
          mX4_countGroups_L6 n (x1 + 1) (x2 ||| r37) (x3 + 1) σ
        else
          mX4_countGroups_L6 n x1 x2 (x3 + 1) σ
set_option maxHeartbeats 4000000 in
set_option maxRecDepth 100000 in
theorem wX4_countGroups_L6 {p : Program} {l : Launch} {e : Env} {s : State} {m : MethodId} {args : Array Value} {below : List Frame} {meth : Method} {c : Code} {Q : State → Prop} {K : fm_K} {A : Nat → Prop} (C : CallFix p m c cX4_countGroups 4 s args wsX4_countGroups RX4) (hst : fm_st K A s s.heap) (hA : ∀ q, fm_A K s.heap.size q → A q) :
    ∀ (n : Nat) (x1 : Int32) (x2 : Int32) (x3 : Int32) (σ : fm_S) (o1 : Int32), mX4_countGroups_L6 n x1 x2 x3 σ = some o1 → (∀ (ls : Array Slot) (H : Heap) (locs : List Loc), lv_has ls 4 [(1, .int o1)] → fm_H K σ A s H locs → W p l e rmX4_countGroups s m args below meth c H locs 0 0 Q (F0 m 51 ls [])) → ∀ (ls : Array Slot) (H : Heap) (locs : List Loc), lv_has ls 4 [(0, .ref (K.2.2.2 0)), (1, .int x1), (2, .int x2), (3, .int x3)] → fm_H K σ A s H locs → W p l e rmX4_countGroups s m args below meth c H locs 0 0 Q (F0 m 6 ls []) := by
  obtain ⟨hx, hb, hml, hown, hts⟩ := id C
  intro n
  induction n with
  | zero => intro x1 x2 x3 σ o1 h; simp [mX4_countGroups_L6] at h
  | succ n ih =>
    intro x1 x2 x3 σ o1 h kk ls H locs hl hH
    rw [mX4_countGroups_L6] at h
    refine lv_iload_n hx hb dX4_countGroups_6 rfl (lv_at hl 3 rfl) ?_
    refine lv_aload_n hx hb dX4_countGroups_7 rfl (lv_at hl 0 rfl) ?_
    refine fm_getf (T := TX4) (N := 18) hx hb hts (fun _ h => List.mem_cons_of_mem _ (List.mem_append_left _ (List.mem_append_right _ h))) hown hst.1 hH 0 (fm_inb (by decide)) rfl (fm_ob_0 _ _) rfl 10 (by decide) (List.mem_of_getElem? (i := 1) rfl) rfl rfl dX4_countGroups_8 ?_
    refine lv_icmp_ge (tgt := 51) hx hb dX4_countGroups_11 (by decide) (fun hc => ?_) (fun hc => ?_)
    · replace h := mi_pos hc h
      cases h
      exact kk _ _ _ (lv_sub hl [1] rfl) hH
    · replace h := mi_neg hc h
      refine lv_aload_n hx hb dX4_countGroups_14 rfl (lv_at hl 0 rfl) ?_
      refine fm_getf (T := TX4) (N := 18) hx hb hts (fun _ h => List.mem_cons_of_mem _ (List.mem_append_left _ (List.mem_append_right _ h))) hown hst.1 hH 0 (fm_inb (by decide)) rfl (fm_ob_0 _ _) rfl 2 (by decide) (List.mem_of_getElem? (i := 2) rfl) rfl rfl dX4_countGroups_15 ?_
      refine lv_iload_n hx hb dX4_countGroups_18 rfl (lv_at hl 3 rfl) ?_
      obtain ⟨hi1, h⟩ := mi_chk h
      refine fm_zld hx hb hst.1 hH 3 (fm_inb (by decide)) rfl rfl hi1 dX4_countGroups_19 ?_
      refine lv_if_eq (tgt := 45) hx hb dX4_countGroups_20 (by decide) (fun hc => ?_) (fun hc => ?_)
      · replace h := mi_pos hc h
        refine lv_iinc (v := (x3 + 1)) (lv' := [(3, .int (x3 + 1)), (0, .ref (K.2.2.2 0)), (1, .int x1), (2, .int x2)]) hx hb dX4_countGroups_45 hl (k := 3) rfl rfl (by decide) rfl (fun ls hl => ?_)
        refine lv_goto (tgt := 6) hx hb dX4_countGroups_48 (by decide) ?_
        exact ih _ _ _ _ _ h kk _ _ _ (lv_sub hl [1, 2, 3, 0] rfl) hH
      · replace h := mi_neg hc h
        refine lv_iload_n hx hb dX4_countGroups_23 rfl (lv_at hl 2 rfl) ?_
        refine lv_iload_n hx hb dX4_countGroups_24 rfl (lv_at hl 3 rfl) ?_
        obtain ⟨r25, h25, h⟩ := mi_b1 h
        refine fm_ci (va_runSN (As := [.int x2, .int x3]) (rest := []) C (kX1_holds l K h25 _) ⟨va_cnB 2 hts gX4_countGroups_X1_holds_n142 rfl rfl rfl (hst.2.1 (RX4, 142, yX1_holds) (List.mem_of_getElem? (i := 4) rfl)) (hts (.initialized RX1) (List.mem_of_getElem? (i := 5) rfl)) (by decide +kernel) ⟨(Nat.le_of_ble_eq_true rfl), (Nat.le_of_ble_eq_true rfl)⟩, (hts (.static yX1_holds) (List.mem_of_getElem? (i := 4) rfl)), trivial⟩ ⟨fm_blind, fm_pre hst hA hH⟩ rfl rfl hl.1 rfl (lv_room (Nat.le_of_ble_eq_true rfl)) dX4_countGroups_25 ⟨(Nat.le_of_ble_eq_true rfl), (Nat.le_of_ble_eq_true rfl)⟩) hA hH (fun H locs hH => ?_)
        refine lv_if_ne (tgt := 45) hx hb dX4_countGroups_28 (by decide) (fun hc => ?_) (fun hc => ?_)
        · replace h := mi_neg hc h
          refine lv_iinc (v := (x3 + 1)) (lv' := [(3, .int (x3 + 1)), (0, .ref (K.2.2.2 0)), (1, .int x1), (2, .int x2)]) hx hb dX4_countGroups_45 hl (k := 3) rfl rfl (by decide) rfl (fun ls hl => ?_)
          refine lv_goto (tgt := 6) hx hb dX4_countGroups_48 (by decide) ?_
          exact ih _ _ _ _ _ h kk _ _ _ (lv_sub hl [1, 2, 3, 0] rfl) hH
        · replace h := mi_pos hc h
          refine lv_iload_n hx hb dX4_countGroups_31 rfl (lv_at hl 2 rfl) ?_
          refine lv_aload_n hx hb dX4_countGroups_32 rfl (lv_at hl 0 rfl) ?_
          refine fm_getf (T := TX4) (N := 18) hx hb hts (fun _ h => List.mem_cons_of_mem _ (List.mem_append_left _ (List.mem_append_right _ h))) hown hst.1 hH 0 (fm_inb (by decide)) rfl (fm_ob_0 _ _) rfl 12 (by decide) (List.mem_of_getElem? (i := 3) rfl) rfl rfl dX4_countGroups_33 ?_
          refine lv_iload_n hx hb dX4_countGroups_36 rfl (lv_at hl 3 rfl) ?_
          obtain ⟨r37, h37, h⟩ := mi_b1 h
          refine fm_ci (va_runVN (As := [.int x3]) (rest := [.int x2]) C (kX1_groupOf20 l K h37 _) ⟨va_cnB 1 hts gX4_countGroups_X1_groupOf_n139 rfl rfl rfl (hst.2.1 (RX4, 139, yX1_groupOf) (List.mem_of_getElem? (i := 5) rfl)) (hts (.initialized RX1) (List.mem_of_getElem? (i := 5) rfl)) (by decide +kernel) ⟨(Nat.le_of_ble_eq_true rfl), (Nat.le_of_ble_eq_true rfl)⟩, (hts (.instanceMethod yX1_groupOf) (List.mem_of_getElem? (i := 7) rfl)), (hts (.selects RX1 yX1_groupOf yX1_groupOf) (List.mem_of_getElem? (i := 8) rfl))⟩ ⟨fm_blind, fm_recv hst hH (q := 20) (fm_inb (by decide)) rfl (fm_ob_20 _ _) rfl, fm_pre hst hA hH⟩ rfl rfl hl.1 rfl (lv_room (Nat.le_of_ble_eq_true rfl)) dX4_countGroups_37 ⟨(Nat.le_of_ble_eq_true rfl), (Nat.le_of_ble_eq_true rfl)⟩) hA hH (fun H locs hH => ?_)
          refine lv_ior hx hb dX4_countGroups_40 ?_
          refine lv_istore_n (lv' := [(2, .int (x2 ||| r37)), (0, .ref (K.2.2.2 0)), (1, .int x1), (3, .int x3)]) hx hb dX4_countGroups_41 rfl hl (by decide) rfl (fun ls hl => ?_)
          refine lv_iinc (v := (x1 + 1)) (lv' := [(1, .int (x1 + 1)), (2, .int (x2 ||| r37)), (0, .ref (K.2.2.2 0)), (3, .int x3)]) hx hb dX4_countGroups_42 hl (k := 2) rfl rfl (by decide) rfl (fun ls hl => ?_)
          refine lv_iinc (v := (x3 + 1)) (lv' := [(3, .int (x3 + 1)), (1, .int (x1 + 1)), (2, .int (x2 ||| r37)), (0, .ref (K.2.2.2 0))]) hx hb dX4_countGroups_45 hl (k := 3) rfl rfl (by decide) rfl (fun ls hl => ?_)
          refine lv_goto (tgt := 6) hx hb dX4_countGroups_48 (by decide) ?_
          exact ih _ _ _ _ _ h kk _ _ _ (lv_sub hl [3, 1, 2, 0] rfl) hH
def mX4_countGroups (σ : fm_S) : Option Int32 :=
  mb1 (mX4_countGroups_L6 fF (0 : Int32) (0 : Int32) (0 : Int32) σ) fun y6_1 =>
  some y6_1
set_option maxHeartbeats 4000000 in
set_option maxRecDepth 100000 in
theorem kX4_countGroups (l : Launch) (K : fm_K) {σ : fm_S} {r : Int32} (h : mX4_countGroups σ = some r) : fm_CI l yX4_countGroups wsX4_countGroups rmX4_countGroups K [.ref (K.2.2.2 0)] σ r σ := by
  intro sz
  refine fm_start (Qc := fun sz => fm_QI K r σ sz) (cc := cX4_countGroups) (maxL := 4) (ret := (some .int)) (by decide) rfl (Nat.le_of_ble_eq_true rfl) ?_
  intro p e s m args below meth c C hr hlk hst hH ls hl
  have C : CallFix p m c cX4_countGroups 4 s args wsX4_countGroups RX4 := C
  obtain ⟨hx, hb, hml, hown, hts⟩ := id C
  have hA : ∀ q, fm_A K s.heap.size q → fm_A K s.heap.size q := fun _ h => h
  have hl : lv_has ls 4 [(0, .ref (K.2.2.2 0))] := hl
  generalize hQ : MQ below _ args s _ _ _ = Q
  rw [mX4_countGroups] at h
  refine lv_iconst (v := 0) hx hb dX4_countGroups_0 (by decide) ?_
  refine lv_istore_n (lv' := [(1, .int (0 : Int32)), (0, .ref (K.2.2.2 0))]) hx hb dX4_countGroups_1 rfl hl (by decide) rfl (fun ls hl => ?_)
  refine lv_iconst (v := 0) hx hb dX4_countGroups_2 (by decide) ?_
  refine lv_istore_n (lv' := [(2, .int (0 : Int32)), (1, .int (0 : Int32)), (0, .ref (K.2.2.2 0))]) hx hb dX4_countGroups_3 rfl hl (by decide) rfl (fun ls hl => ?_)
  refine lv_iconst (v := 0) hx hb dX4_countGroups_4 (by decide) ?_
  refine lv_istore_n (lv' := [(3, .int (0 : Int32)), (2, .int (0 : Int32)), (1, .int (0 : Int32)), (0, .ref (K.2.2.2 0))]) hx hb dX4_countGroups_5 rfl hl (by decide) rfl (fun ls hl => ?_)
  obtain ⟨y6_1, h6, h⟩ := mi_b1 h
  refine wX4_countGroups_L6 C hst hA _ _ _ _ _ _ h6 (fun ls H locs hl hH => ?_) _ _ _ (lv_sub hl [3, 2, 1, 0] rfl) hH
  refine lv_iload_n hx hb dX4_countGroups_51 rfl (lv_at hl 0 rfl) ?_
  cases h
  subst hQ
  exact fm_iret hx hb hr hlk hst hH dX4_countGroups_52
/-! RX4.groups()I -/
abbrev rmX4_groups : Room := { frames := 4, cells := 0, slots := 0, locals := 87 }
def mX4_groups (σ : fm_S) : Option (Int32 × fm_S) :=
  mb1 (mX4_drawNet σ) fun σ1 =>
  mb1 (mX4_countGroups σ1) fun r5 =>
  some (r5, σ1)
set_option maxHeartbeats 4000000 in
set_option maxRecDepth 100000 in
theorem kX4_groups (l : Launch) (K : fm_K) {σ : fm_S} {r : Int32} {σ' : fm_S} (h : mX4_groups σ = some (r, σ')) : fm_CI l yX4_groups wsX4_groups rmX4_groups K [.ref (K.2.2.2 0)] σ r σ' := by
  intro sz
  refine fm_start (Qc := fun sz => fm_QI K r σ' sz) (cc := cX4_groups) (maxL := 1) (ret := (some .int)) (by decide) rfl (Nat.le_of_ble_eq_true rfl) ?_
  intro p e s m args below meth c C hr hlk hst hH ls hl
  have C : CallFix p m c cX4_groups 1 s args wsX4_groups RX4 := C
  obtain ⟨hx, hb, hml, hown, hts⟩ := id C
  have hA : ∀ q, fm_A K s.heap.size q → fm_A K s.heap.size q := fun _ h => h
  have hl : lv_has ls 1 [(0, .ref (K.2.2.2 0))] := hl
  generalize hQ : MQ below _ args s _ _ _ = Q
  rw [mX4_groups] at h
  refine lv_aload_n hx hb dX4_groups_0 rfl (lv_at hl 0 rfl) ?_
  obtain ⟨σ1, h1, h⟩ := mi_b1 h
  refine fm_cv (va_runV (As := []) (rest := []) C (kX4_drawNet l K h1 _) (cwV 0 hts gX4_groups_X4_drawNet rfl rfl rfl (by decide +kernel) ⟨(Nat.le_of_ble_eq_true rfl), (Nat.le_of_ble_eq_true rfl)⟩) ⟨fm_blind, fm_recv hst hH (q := 0) (fm_inb (by decide)) rfl (fm_ob_0 _ _) rfl, fm_pre hst hA hH⟩ rfl rfl hl.1 rfl (lv_room (Nat.le_of_ble_eq_true rfl)) dX4_groups_1 ⟨(Nat.le_of_ble_eq_true rfl), (Nat.le_of_ble_eq_true rfl)⟩) hA hH (fun H locs hH => ?_)
  refine lv_aload_n hx hb dX4_groups_4 rfl (lv_at hl 0 rfl) ?_
  obtain ⟨r5, h5, h⟩ := mi_b1 h
  refine fm_ci (va_runV (As := []) (rest := []) C (kX4_countGroups l K h5 _) (cwV 0 hts gX4_groups_X4_countGroups rfl rfl rfl (by decide +kernel) ⟨(Nat.le_of_ble_eq_true rfl), (Nat.le_of_ble_eq_true rfl)⟩) ⟨fm_blind, fm_recv hst hH (q := 0) (fm_inb (by decide)) rfl (fm_ob_0 _ _) rfl, fm_pre hst hA hH⟩ rfl rfl hl.1 rfl (lv_room (Nat.le_of_ble_eq_true rfl)) dX4_groups_5 ⟨(Nat.le_of_ble_eq_true rfl), (Nat.le_of_ble_eq_true rfl)⟩) hA hH (fun H locs hH => ?_)
  cases h
  subst hQ
  exact fm_iret hx hb hr hlk hst hH dX4_groups_8
/-! RX4.outranks(II)Z -/
abbrev rmX4_outranks : Room := { frames := 0, cells := 0, slots := 0, locals := 0 }
def mX4_outranks (x1 : Int32) (x2 : Int32) (σ : fm_S) : Option Int32 :=
  if (x1 < 0 ∨ 8 ≤ x1.toNatClampNeg) then none else
  if (x2 < 0 ∨ 8 ≤ x2.toNatClampNeg) then none else
  if (rI σ 4 x1) = (rI σ 4 x2) then
    if x2 ≤ x1 then
      some (0 : Int32)
    else
      some (1 : Int32)
  else
    if (rI σ 4 x1) ≤ (rI σ 4 x2) then
      some (0 : Int32)
    else
      some (1 : Int32)
set_option maxHeartbeats 4000000 in
set_option maxRecDepth 100000 in
theorem kX4_outranks (l : Launch) (K : fm_K) {x1 : Int32} {x2 : Int32} {σ : fm_S} {r : Int32} (h : mX4_outranks x1 x2 σ = some r) : fm_CI l yX4_outranks wsX4_outranks rmX4_outranks K [.ref (K.2.2.2 0), .int x1, .int x2] σ r σ := by
  intro sz
  refine fm_start (Qc := fun sz => fm_QI K r σ sz) (cc := cX4_outranks) (maxL := 3) (ret := (some .boolean)) (by decide) rfl (Nat.le_of_ble_eq_true rfl) ?_
  intro p e s m args below meth c C hr hlk hst hH ls hl
  have C : CallFix p m c cX4_outranks 3 s args wsX4_outranks RX4 := C
  obtain ⟨hx, hb, hml, hown, hts⟩ := id C
  have hA : ∀ q, fm_A K s.heap.size q → fm_A K s.heap.size q := fun _ h => h
  have hl : lv_has ls 3 [(0, .ref (K.2.2.2 0)), (1, .int x1), (2, .int x2)] := hl
  generalize hQ : MQ below _ args s _ _ _ = Q
  rw [mX4_outranks] at h
  refine lv_aload_n hx hb dX4_outranks_0 rfl (lv_at hl 0 rfl) ?_
  refine fm_getf (T := TX4) (N := 18) hx hb hts (fun _ h => List.mem_cons_of_mem _ (List.mem_append_right _ h)) hown hst.1 hH 0 (fm_inb (by decide)) rfl (fm_ob_0 _ _) rfl 3 (by decide) (List.mem_of_getElem? (i := 1) rfl) rfl rfl dX4_outranks_1 ?_
  refine lv_iload_n hx hb dX4_outranks_4 rfl (lv_at hl 1 rfl) ?_
  obtain ⟨hi1, h⟩ := mi_chk h
  refine fm_ild hx hb hst.1 hH 4 (fm_inb (by decide)) rfl rfl hi1 dX4_outranks_5 ?_
  refine lv_aload_n hx hb dX4_outranks_6 rfl (lv_at hl 0 rfl) ?_
  refine fm_getf (T := TX4) (N := 18) hx hb hts (fun _ h => List.mem_cons_of_mem _ (List.mem_append_right _ h)) hown hst.1 hH 0 (fm_inb (by decide)) rfl (fm_ob_0 _ _) rfl 3 (by decide) (List.mem_of_getElem? (i := 1) rfl) rfl rfl dX4_outranks_7 ?_
  refine lv_iload_n hx hb dX4_outranks_10 rfl (lv_at hl 2 rfl) ?_
  obtain ⟨hi2, h⟩ := mi_chk h
  refine fm_ild hx hb hst.1 hH 4 (fm_inb (by decide)) rfl rfl hi2 dX4_outranks_11 ?_
  refine lv_icmp_eq (tgt := 36) hx hb dX4_outranks_12 (by decide) (fun hc => ?_) (fun hc => ?_)
  · replace h := mi_pos hc h
    refine lv_iload_n hx hb dX4_outranks_36 rfl (lv_at hl 1 rfl) ?_
    refine lv_iload_n hx hb dX4_outranks_37 rfl (lv_at hl 2 rfl) ?_
    refine lv_icmp_ge (tgt := 45) hx hb dX4_outranks_38 (by decide) (fun hc => ?_) (fun hc => ?_)
    · replace h := mi_pos hc h
      refine lv_iconst (v := 0) hx hb dX4_outranks_45 (by decide) ?_
      cases h
      subst hQ
      exact fm_zret hx hb hr rfl hlk hst hH dX4_outranks_46
    · replace h := mi_neg hc h
      refine lv_iconst (v := 1) hx hb dX4_outranks_41 (by decide) ?_
      refine lv_goto (tgt := 46) hx hb dX4_outranks_42 (by decide) ?_
      cases h
      subst hQ
      exact fm_zret hx hb hr rfl hlk hst hH dX4_outranks_46
  · replace h := mi_neg hc h
    refine lv_aload_n hx hb dX4_outranks_15 rfl (lv_at hl 0 rfl) ?_
    refine fm_getf (T := TX4) (N := 18) hx hb hts (fun _ h => List.mem_cons_of_mem _ (List.mem_append_right _ h)) hown hst.1 hH 0 (fm_inb (by decide)) rfl (fm_ob_0 _ _) rfl 3 (by decide) (List.mem_of_getElem? (i := 1) rfl) rfl rfl dX4_outranks_16 ?_
    refine lv_iload_n hx hb dX4_outranks_19 rfl (lv_at hl 1 rfl) ?_
    refine fm_ild hx hb hst.1 hH 4 (fm_inb (by decide)) rfl rfl hi1 dX4_outranks_20 ?_
    refine lv_aload_n hx hb dX4_outranks_21 rfl (lv_at hl 0 rfl) ?_
    refine fm_getf (T := TX4) (N := 18) hx hb hts (fun _ h => List.mem_cons_of_mem _ (List.mem_append_right _ h)) hown hst.1 hH 0 (fm_inb (by decide)) rfl (fm_ob_0 _ _) rfl 3 (by decide) (List.mem_of_getElem? (i := 1) rfl) rfl rfl dX4_outranks_22 ?_
    refine lv_iload_n hx hb dX4_outranks_25 rfl (lv_at hl 2 rfl) ?_
    refine fm_ild hx hb hst.1 hH 4 (fm_inb (by decide)) rfl rfl hi2 dX4_outranks_26 ?_
    refine lv_icmp_le (tgt := 34) hx hb dX4_outranks_27 (by decide) (fun hc => ?_) (fun hc => ?_)
    · replace h := mi_pos hc h
      refine lv_iconst (v := 0) hx hb dX4_outranks_34 (by decide) ?_
      cases h
      subst hQ
      exact fm_zret hx hb hr rfl hlk hst hH dX4_outranks_35
    · replace h := mi_neg hc h
      refine lv_iconst (v := 1) hx hb dX4_outranks_30 (by decide) ?_
      refine lv_goto (tgt := 35) hx hb dX4_outranks_31 (by decide) ?_
      cases h
      subst hQ
      exact fm_zret hx hb hr rfl hlk hst hH dX4_outranks_35
/-! RX4.leader(I)I -/
abbrev rmX4_leader : Room := { frames := 4, cells := 0, slots := 0, locals := 87 }
def mX4_leader_L34 : Nat → Int32 → Int32 → Int32 → fm_S → Option (Int32)
  | 0, _, _, _, _ => none
  | n + 1, x2, x3, x4, σ =>
    if (σ.1 60 0) ≤ x4 then
      some x3
    else
      mb1 (mX1_holds x2 x4) fun r46 =>
      if r46 = 0 then
        mX4_leader_L34 n x2 x3 (x4 + 1) σ
      else
        mb1 (mX4_outranks x4 x3 σ) fun r56 =>
        if r56 = 0 then
          mX4_leader_L34 n x2 x3 (x4 + 1) σ
        else
          mX4_leader_L34 n x2 x4 (x4 + 1) σ
set_option maxHeartbeats 4000000 in
set_option maxRecDepth 100000 in
theorem wX4_leader_L34 {p : Program} {l : Launch} {e : Env} {s : State} {m : MethodId} {args : Array Value} {below : List Frame} {meth : Method} {c : Code} {Q : State → Prop} {K : fm_K} {A : Nat → Prop} (C : CallFix p m c cX4_leader 5 s args wsX4_leader RX4) (hst : fm_st K A s s.heap) (hA : ∀ q, fm_A K s.heap.size q → A q) :
    ∀ (n : Nat) (x2 : Int32) (x3 : Int32) (x4 : Int32) (σ : fm_S) (o3 : Int32), mX4_leader_L34 n x2 x3 x4 σ = some o3 → (∀ (ls : Array Slot) (H : Heap) (locs : List Loc), lv_has ls 5 [(3, .int o3)] → fm_H K σ A s H locs → W p l e rmX4_leader s m args below meth c H locs 0 0 Q (F0 m 71 ls [])) → ∀ (ls : Array Slot) (H : Heap) (locs : List Loc), lv_has ls 5 [(0, .ref (K.2.2.2 0)), (2, .int x2), (3, .int x3), (4, .int x4)] → fm_H K σ A s H locs → W p l e rmX4_leader s m args below meth c H locs 0 0 Q (F0 m 34 ls []) := by
  obtain ⟨hx, hb, hml, hown, hts⟩ := id C
  intro n
  induction n with
  | zero => intro x2 x3 x4 σ o3 h; simp [mX4_leader_L34] at h
  | succ n ih =>
    intro x2 x3 x4 σ o3 h kk ls H locs hl hH
    rw [mX4_leader_L34] at h
    refine lv_iload hx hb dX4_leader_34 (lv_at hl 3 rfl) ?_
    refine lv_aload_n hx hb dX4_leader_36 rfl (lv_at hl 0 rfl) ?_
    refine fm_getf (T := TX4) (N := 18) hx hb hts (fun _ h => List.mem_cons_of_mem _ (List.mem_append_left _ (List.mem_append_left _ (List.mem_append_right _ h)))) hown hst.1 hH 0 (fm_inb (by decide)) rfl (fm_ob_0 _ _) rfl 10 (by decide) (List.mem_of_getElem? (i := 3) rfl) rfl rfl dX4_leader_37 ?_
    refine lv_icmp_ge (tgt := 71) hx hb dX4_leader_40 (by decide) (fun hc => ?_) (fun hc => ?_)
    · replace h := mi_pos hc h
      cases h
      exact kk _ _ _ (lv_sub hl [2] rfl) hH
    · replace h := mi_neg hc h
      refine lv_iload_n hx hb dX4_leader_43 rfl (lv_at hl 1 rfl) ?_
      refine lv_iload hx hb dX4_leader_44 (lv_at hl 3 rfl) ?_
      obtain ⟨r46, h46, h⟩ := mi_b1 h
      refine fm_ci (va_runSN (As := [.int x2, .int x4]) (rest := []) C (kX1_holds l K h46 _) ⟨va_cnB 2 hts gX4_leader_X1_holds_n142 rfl rfl rfl (hst.2.1 (RX4, 142, yX1_holds) (List.mem_of_getElem? (i := 4) rfl)) (hts (.initialized RX1) (List.mem_of_getElem? (i := 16) rfl)) (by decide +kernel) ⟨(Nat.le_of_ble_eq_true rfl), (Nat.le_of_ble_eq_true rfl)⟩, (hts (.static yX1_holds) (List.mem_of_getElem? (i := 34) rfl)), trivial⟩ ⟨fm_blind, fm_pre hst hA hH⟩ rfl rfl hl.1 rfl (lv_room (Nat.le_of_ble_eq_true rfl)) dX4_leader_46 ⟨(Nat.le_of_ble_eq_true rfl), (Nat.le_of_ble_eq_true rfl)⟩) hA hH (fun H locs hH => ?_)
      refine lv_if_eq (tgt := 65) hx hb dX4_leader_49 (by decide) (fun hc => ?_) (fun hc => ?_)
      · replace h := mi_pos hc h
        refine lv_iinc (v := (x4 + 1)) (lv' := [(4, .int (x4 + 1)), (0, .ref (K.2.2.2 0)), (2, .int x2), (3, .int x3)]) hx hb dX4_leader_65 hl (k := 3) rfl rfl (by decide) rfl (fun ls hl => ?_)
        refine lv_goto (tgt := 34) hx hb dX4_leader_68 (by decide) ?_
        exact ih _ _ _ _ _ h kk _ _ _ (lv_sub hl [1, 2, 3, 0] rfl) hH
      · replace h := mi_neg hc h
        refine lv_aload_n hx hb dX4_leader_52 rfl (lv_at hl 0 rfl) ?_
        refine lv_iload hx hb dX4_leader_53 (lv_at hl 3 rfl) ?_
        refine lv_iload_n hx hb dX4_leader_55 rfl (lv_at hl 2 rfl) ?_
        obtain ⟨r56, h56, h⟩ := mi_b1 h
        refine fm_ci (va_runV (As := [.int x4, .int x3]) (rest := []) C (kX4_outranks l K h56 _) (cwV 2 hts gX4_leader_X4_outranks rfl rfl rfl (by decide +kernel) ⟨(Nat.le_of_ble_eq_true rfl), (Nat.le_of_ble_eq_true rfl)⟩) ⟨fm_blind, fm_recv hst hH (q := 0) (fm_inb (by decide)) rfl (fm_ob_0 _ _) rfl, fm_pre hst hA hH⟩ rfl rfl hl.1 rfl (lv_room (Nat.le_of_ble_eq_true rfl)) dX4_leader_56 ⟨(Nat.le_of_ble_eq_true rfl), (Nat.le_of_ble_eq_true rfl)⟩) hA hH (fun H locs hH => ?_)
        refine lv_if_eq (tgt := 65) hx hb dX4_leader_59 (by decide) (fun hc => ?_) (fun hc => ?_)
        · replace h := mi_pos hc h
          refine lv_iinc (v := (x4 + 1)) (lv' := [(4, .int (x4 + 1)), (0, .ref (K.2.2.2 0)), (2, .int x2), (3, .int x3)]) hx hb dX4_leader_65 hl (k := 3) rfl rfl (by decide) rfl (fun ls hl => ?_)
          refine lv_goto (tgt := 34) hx hb dX4_leader_68 (by decide) ?_
          exact ih _ _ _ _ _ h kk _ _ _ (lv_sub hl [1, 2, 3, 0] rfl) hH
        · replace h := mi_neg hc h
          refine lv_iload hx hb dX4_leader_62 (lv_at hl 3 rfl) ?_
          refine lv_istore_n (lv' := [(3, .int x4), (0, .ref (K.2.2.2 0)), (2, .int x2), (4, .int x4)]) hx hb dX4_leader_64 rfl hl (by decide) rfl (fun ls hl => ?_)
          refine lv_iinc (v := (x4 + 1)) (lv' := [(4, .int (x4 + 1)), (3, .int x4), (0, .ref (K.2.2.2 0)), (2, .int x2)]) hx hb dX4_leader_65 hl (k := 3) rfl rfl (by decide) rfl (fun ls hl => ?_)
          refine lv_goto (tgt := 34) hx hb dX4_leader_68 (by decide) ?_
          exact ih _ _ _ _ _ h kk _ _ _ (lv_sub hl [2, 3, 1, 0] rfl) hH
def mX4_leader (x1 : Int32) (σ : fm_S) : Option (Int32 × fm_S) :=
  mb1 (mX4_requireMember x1 σ) fun σ2 =>
  if (x1 < 0 ∨ 8 ≤ x1.toNatClampNeg) then none else
  if (rI σ2 3 x1) = 0 then
    some ((-1 : Int32), σ2)
  else
    mb1 (mX4_drawNet σ2) fun σ17 =>
    mb1 (mX1_groupOf20 x1 σ17) fun r25 =>
    mb1 (mX4_leader_L34 fF r25 x1 (0 : Int32) σ17) fun y34_3 =>
    some (y34_3, σ17)
set_option maxHeartbeats 4000000 in
set_option maxRecDepth 100000 in
theorem kX4_leader (l : Launch) (K : fm_K) {x1 : Int32} {σ : fm_S} {r : Int32} {σ' : fm_S} (h : mX4_leader x1 σ = some (r, σ')) : fm_CI l yX4_leader wsX4_leader rmX4_leader K [.ref (K.2.2.2 0), .int x1] σ r σ' := by
  intro sz
  refine fm_start (Qc := fun sz => fm_QI K r σ' sz) (cc := cX4_leader) (maxL := 5) (ret := (some .int)) (by decide) rfl (Nat.le_of_ble_eq_true rfl) ?_
  intro p e s m args below meth c C hr hlk hst hH ls hl
  have C : CallFix p m c cX4_leader 5 s args wsX4_leader RX4 := C
  obtain ⟨hx, hb, hml, hown, hts⟩ := id C
  have hA : ∀ q, fm_A K s.heap.size q → fm_A K s.heap.size q := fun _ h => h
  have hl : lv_has ls 5 [(0, .ref (K.2.2.2 0)), (1, .int x1)] := hl
  generalize hQ : MQ below _ args s _ _ _ = Q
  rw [mX4_leader] at h
  refine lv_aload_n hx hb dX4_leader_0 rfl (lv_at hl 0 rfl) ?_
  refine lv_iload_n hx hb dX4_leader_1 rfl (lv_at hl 1 rfl) ?_
  obtain ⟨σ2, h2, h⟩ := mi_b1 h
  refine fm_cv (va_runV (As := [.int x1]) (rest := []) C (kX4_requireMember l K h2 _) (cwV 1 hts gX4_leader_X4_requireMember rfl rfl rfl (by decide +kernel) ⟨(Nat.le_of_ble_eq_true rfl), (Nat.le_of_ble_eq_true rfl)⟩) ⟨fm_blind, fm_recv hst hH (q := 0) (fm_inb (by decide)) rfl (fm_ob_0 _ _) rfl, fm_pre hst hA hH⟩ rfl rfl hl.1 rfl (lv_room (Nat.le_of_ble_eq_true rfl)) dX4_leader_2 ⟨(Nat.le_of_ble_eq_true rfl), (Nat.le_of_ble_eq_true rfl)⟩) hA hH (fun H locs hH => ?_)
  refine lv_aload_n hx hb dX4_leader_5 rfl (lv_at hl 0 rfl) ?_
  refine fm_getf (T := TX4) (N := 18) hx hb hts (fun _ h => List.mem_cons_of_mem _ (List.mem_append_left _ (List.mem_append_left _ (List.mem_append_right _ h)))) hown hst.1 hH 0 (fm_inb (by decide)) rfl (fm_ob_0 _ _) rfl 2 (by decide) (List.mem_of_getElem? (i := 1) rfl) rfl rfl dX4_leader_6 ?_
  refine lv_iload_n hx hb dX4_leader_9 rfl (lv_at hl 1 rfl) ?_
  obtain ⟨hi1, h⟩ := mi_chk h
  refine fm_zld hx hb hst.1 hH 3 (fm_inb (by decide)) rfl rfl hi1 dX4_leader_10 ?_
  refine lv_if_ne (tgt := 16) hx hb dX4_leader_11 (by decide) (fun hc => ?_) (fun hc => ?_)
  · replace h := mi_neg hc h
    refine lv_aload_n hx hb dX4_leader_16 rfl (lv_at hl 0 rfl) ?_
    obtain ⟨σ17, h17, h⟩ := mi_b1 h
    refine fm_cv (va_runV (As := []) (rest := []) C (kX4_drawNet l K h17 _) (cwV 0 hts gX4_leader_X4_drawNet rfl rfl rfl (by decide +kernel) ⟨(Nat.le_of_ble_eq_true rfl), (Nat.le_of_ble_eq_true rfl)⟩) ⟨fm_blind, fm_recv hst hH (q := 0) (fm_inb (by decide)) rfl (fm_ob_0 _ _) rfl, fm_pre hst hA hH⟩ rfl rfl hl.1 rfl (lv_room (Nat.le_of_ble_eq_true rfl)) dX4_leader_17 ⟨(Nat.le_of_ble_eq_true rfl), (Nat.le_of_ble_eq_true rfl)⟩) hA hH (fun H locs hH => ?_)
    refine lv_aload_n hx hb dX4_leader_20 rfl (lv_at hl 0 rfl) ?_
    refine fm_getf (T := TX4) (N := 18) hx hb hts (fun _ h => List.mem_cons_of_mem _ (List.mem_append_left _ (List.mem_append_left _ (List.mem_append_right _ h)))) hown hst.1 hH 0 (fm_inb (by decide)) rfl (fm_ob_0 _ _) rfl 12 (by decide) (List.mem_of_getElem? (i := 2) rfl) rfl rfl dX4_leader_21 ?_
    refine lv_iload_n hx hb dX4_leader_24 rfl (lv_at hl 1 rfl) ?_
    obtain ⟨r25, h25, h⟩ := mi_b1 h
    refine fm_ci (va_runVN (As := [.int x1]) (rest := []) C (kX1_groupOf20 l K h25 _) ⟨va_cnB 1 hts gX4_leader_X1_groupOf_n139 rfl rfl rfl (hst.2.1 (RX4, 139, yX1_groupOf) (List.mem_of_getElem? (i := 5) rfl)) (hts (.initialized RX1) (List.mem_of_getElem? (i := 16) rfl)) (by decide +kernel) ⟨(Nat.le_of_ble_eq_true rfl), (Nat.le_of_ble_eq_true rfl)⟩, (hts (.instanceMethod yX1_groupOf) (List.mem_of_getElem? (i := 48) rfl)), (hts (.selects RX1 yX1_groupOf yX1_groupOf) (List.mem_of_getElem? (i := 49) rfl))⟩ ⟨fm_blind, fm_recv hst hH (q := 20) (fm_inb (by decide)) rfl (fm_ob_20 _ _) rfl, fm_pre hst hA hH⟩ rfl rfl hl.1 rfl (lv_room (Nat.le_of_ble_eq_true rfl)) dX4_leader_25 ⟨(Nat.le_of_ble_eq_true rfl), (Nat.le_of_ble_eq_true rfl)⟩) hA hH (fun H locs hH => ?_)
    refine lv_istore_n (lv' := [(2, .int r25), (0, .ref (K.2.2.2 0)), (1, .int x1)]) hx hb dX4_leader_28 rfl hl (by decide) rfl (fun ls hl => ?_)
    refine lv_iload_n hx hb dX4_leader_29 rfl (lv_at hl 2 rfl) ?_
    refine lv_istore_n (lv' := [(3, .int x1), (2, .int r25), (0, .ref (K.2.2.2 0)), (1, .int x1)]) hx hb dX4_leader_30 rfl hl (by decide) rfl (fun ls hl => ?_)
    refine lv_iconst (v := 0) hx hb dX4_leader_31 (by decide) ?_
    refine lv_istore (lv' := [(4, .int (0 : Int32)), (3, .int x1), (2, .int r25), (0, .ref (K.2.2.2 0)), (1, .int x1)]) hx hb dX4_leader_32 hl (by decide) rfl (fun ls hl => ?_)
    obtain ⟨y34_3, h34, h⟩ := mi_b1 h
    refine wX4_leader_L34 C hst hA _ _ _ _ _ _ h34 (fun ls H locs hl hH => ?_) _ _ _ (lv_sub hl [3, 2, 1, 0] rfl) hH
    refine lv_iload_n hx hb dX4_leader_71 rfl (lv_at hl 0 rfl) ?_
    cases h
    subst hQ
    exact fm_iret hx hb hr hlk hst hH dX4_leader_72
  · replace h := mi_pos hc h
    refine lv_iconst (v := -1) hx hb dX4_leader_14 (by decide) ?_
    cases h
    subst hQ
    exact fm_iret hx hb hr hlk hst hH dX4_leader_15
/-! RX4.upSet()I -/
abbrev rmX4_upSet : Room := { frames := 1, cells := 0, slots := 0, locals := 21 }
def mX4_upSet_L4 : Nat → Int32 → Int32 → fm_S → Option (Int32)
  | 0, _, _, _ => none
  | n + 1, x1, x2, σ =>
    if (σ.1 60 0) ≤ x2 then
      some x1
    else
      if (x2 < 0 ∨ 8 ≤ x2.toNatClampNeg) then none else
      if (rI σ 3 x2) = 0 then
        mX4_upSet_L4 n x1 (x2 + 1) σ
      else
        mb1 (mX1_with x1 x2) fun r23 =>
        mX4_upSet_L4 n r23 (x2 + 1) σ
set_option maxHeartbeats 4000000 in
set_option maxRecDepth 100000 in
theorem wX4_upSet_L4 {p : Program} {l : Launch} {e : Env} {s : State} {m : MethodId} {args : Array Value} {below : List Frame} {meth : Method} {c : Code} {Q : State → Prop} {K : fm_K} {A : Nat → Prop} (C : CallFix p m c cX4_upSet 3 s args wsX4_upSet RX4) (hst : fm_st K A s s.heap) (hA : ∀ q, fm_A K s.heap.size q → A q) :
    ∀ (n : Nat) (x1 : Int32) (x2 : Int32) (σ : fm_S) (o1 : Int32), mX4_upSet_L4 n x1 x2 σ = some o1 → (∀ (ls : Array Slot) (H : Heap) (locs : List Loc), lv_has ls 3 [(1, .int o1)] → fm_H K σ A s H locs → W p l e rmX4_upSet s m args below meth c H locs 0 0 Q (F0 m 33 ls [])) → ∀ (ls : Array Slot) (H : Heap) (locs : List Loc), lv_has ls 3 [(0, .ref (K.2.2.2 0)), (1, .int x1), (2, .int x2)] → fm_H K σ A s H locs → W p l e rmX4_upSet s m args below meth c H locs 0 0 Q (F0 m 4 ls []) := by
  obtain ⟨hx, hb, hml, hown, hts⟩ := id C
  intro n
  induction n with
  | zero => intro x1 x2 σ o1 h; simp [mX4_upSet_L4] at h
  | succ n ih =>
    intro x1 x2 σ o1 h kk ls H locs hl hH
    rw [mX4_upSet_L4] at h
    refine lv_iload_n hx hb dX4_upSet_4 rfl (lv_at hl 2 rfl) ?_
    refine lv_aload_n hx hb dX4_upSet_5 rfl (lv_at hl 0 rfl) ?_
    refine fm_getf (T := TX4) (N := 18) hx hb hts (fun _ h => List.mem_cons_of_mem _ (List.mem_append_right _ h)) hown hst.1 hH 0 (fm_inb (by decide)) rfl (fm_ob_0 _ _) rfl 10 (by decide) (List.mem_of_getElem? (i := 1) rfl) rfl rfl dX4_upSet_6 ?_
    refine lv_icmp_ge (tgt := 33) hx hb dX4_upSet_9 (by decide) (fun hc => ?_) (fun hc => ?_)
    · replace h := mi_pos hc h
      cases h
      exact kk _ _ _ (lv_sub hl [1] rfl) hH
    · replace h := mi_neg hc h
      refine lv_aload_n hx hb dX4_upSet_12 rfl (lv_at hl 0 rfl) ?_
      refine fm_getf (T := TX4) (N := 18) hx hb hts (fun _ h => List.mem_cons_of_mem _ (List.mem_append_right _ h)) hown hst.1 hH 0 (fm_inb (by decide)) rfl (fm_ob_0 _ _) rfl 2 (by decide) (List.mem_of_getElem? (i := 2) rfl) rfl rfl dX4_upSet_13 ?_
      refine lv_iload_n hx hb dX4_upSet_16 rfl (lv_at hl 2 rfl) ?_
      obtain ⟨hi1, h⟩ := mi_chk h
      refine fm_zld hx hb hst.1 hH 3 (fm_inb (by decide)) rfl rfl hi1 dX4_upSet_17 ?_
      refine lv_if_eq (tgt := 27) hx hb dX4_upSet_18 (by decide) (fun hc => ?_) (fun hc => ?_)
      · replace h := mi_pos hc h
        refine lv_iinc (v := (x2 + 1)) (lv' := [(2, .int (x2 + 1)), (0, .ref (K.2.2.2 0)), (1, .int x1)]) hx hb dX4_upSet_27 hl (k := 2) rfl rfl (by decide) rfl (fun ls hl => ?_)
        refine lv_goto (tgt := 4) hx hb dX4_upSet_30 (by decide) ?_
        exact ih _ _ _ _ h kk _ _ _ (lv_sub hl [1, 2, 0] rfl) hH
      · replace h := mi_neg hc h
        refine lv_iload_n hx hb dX4_upSet_21 rfl (lv_at hl 1 rfl) ?_
        refine lv_iload_n hx hb dX4_upSet_22 rfl (lv_at hl 2 rfl) ?_
        obtain ⟨r23, h23, h⟩ := mi_b1 h
        refine fm_ci (va_runSN (As := [.int x1, .int x2]) (rest := []) C (kX1_with l K h23 _) ⟨va_cnB 2 hts gX4_upSet_X1_with_n221 rfl rfl rfl (hst.2.1 (RX4, 221, yX1_with) (List.mem_of_getElem? (i := 6) rfl)) (hts (.initialized RX1) (List.mem_of_getElem? (i := 4) rfl)) (by decide +kernel) ⟨(Nat.le_of_ble_eq_true rfl), (Nat.le_of_ble_eq_true rfl)⟩, (hts (.static yX1_with) (List.mem_of_getElem? (i := 3) rfl)), trivial⟩ ⟨fm_blind, fm_pre hst hA hH⟩ rfl rfl hl.1 rfl (lv_room (Nat.le_of_ble_eq_true rfl)) dX4_upSet_23 ⟨(Nat.le_of_ble_eq_true rfl), (Nat.le_of_ble_eq_true rfl)⟩) hA hH (fun H locs hH => ?_)
        refine lv_istore_n (lv' := [(1, .int r23), (0, .ref (K.2.2.2 0)), (2, .int x2)]) hx hb dX4_upSet_26 rfl hl (by decide) rfl (fun ls hl => ?_)
        refine lv_iinc (v := (x2 + 1)) (lv' := [(2, .int (x2 + 1)), (1, .int r23), (0, .ref (K.2.2.2 0))]) hx hb dX4_upSet_27 hl (k := 2) rfl rfl (by decide) rfl (fun ls hl => ?_)
        refine lv_goto (tgt := 4) hx hb dX4_upSet_30 (by decide) ?_
        exact ih _ _ _ _ h kk _ _ _ (lv_sub hl [2, 1, 0] rfl) hH
def mX4_upSet (σ : fm_S) : Option Int32 :=
  mb1 (mX4_upSet_L4 fF (0 : Int32) (0 : Int32) σ) fun y4_1 =>
  some y4_1
set_option maxHeartbeats 4000000 in
set_option maxRecDepth 100000 in
theorem kX4_upSet (l : Launch) (K : fm_K) {σ : fm_S} {r : Int32} (h : mX4_upSet σ = some r) : fm_CI l yX4_upSet wsX4_upSet rmX4_upSet K [.ref (K.2.2.2 0)] σ r σ := by
  intro sz
  refine fm_start (Qc := fun sz => fm_QI K r σ sz) (cc := cX4_upSet) (maxL := 3) (ret := (some .int)) (by decide) rfl (Nat.le_of_ble_eq_true rfl) ?_
  intro p e s m args below meth c C hr hlk hst hH ls hl
  have C : CallFix p m c cX4_upSet 3 s args wsX4_upSet RX4 := C
  obtain ⟨hx, hb, hml, hown, hts⟩ := id C
  have hA : ∀ q, fm_A K s.heap.size q → fm_A K s.heap.size q := fun _ h => h
  have hl : lv_has ls 3 [(0, .ref (K.2.2.2 0))] := hl
  generalize hQ : MQ below _ args s _ _ _ = Q
  rw [mX4_upSet] at h
  refine lv_iconst (v := 0) hx hb dX4_upSet_0 (by decide) ?_
  refine lv_istore_n (lv' := [(1, .int (0 : Int32)), (0, .ref (K.2.2.2 0))]) hx hb dX4_upSet_1 rfl hl (by decide) rfl (fun ls hl => ?_)
  refine lv_iconst (v := 0) hx hb dX4_upSet_2 (by decide) ?_
  refine lv_istore_n (lv' := [(2, .int (0 : Int32)), (1, .int (0 : Int32)), (0, .ref (K.2.2.2 0))]) hx hb dX4_upSet_3 rfl hl (by decide) rfl (fun ls hl => ?_)
  obtain ⟨y4_1, h4, h⟩ := mi_b1 h
  refine wX4_upSet_L4 C hst hA _ _ _ _ _ h4 (fun ls H locs hl hH => ?_) _ _ _ (lv_sub hl [2, 1, 0] rfl) hH
  refine lv_iload_n hx hb dX4_upSet_33 rfl (lv_at hl 0 rfl) ?_
  cases h
  subst hQ
  exact fm_iret hx hb hr hlk hst hH dX4_upSet_34
/-! RX4.trees()J -/
abbrev rmX4_trees : Room := { frames := 5, cells := 0, slots := 0, locals := 115 }
def mX4_trees (σ : fm_S) : Option (Int64 × fm_S) :=
  mb1 (mX4_drawNet σ) fun σ1 =>
  mb1 (mX4_upSet σ1) fun r13 =>
  mb2 (mX3_treesOf r13 σ1) fun r16 σ16 =>
  some (r16, σ16)
set_option maxHeartbeats 4000000 in
set_option maxRecDepth 100000 in
theorem kX4_trees (l : Launch) (K : fm_K) {σ : fm_S} {r : Int64} {σ' : fm_S} (h : mX4_trees σ = some (r, σ')) : fm_CL l yX4_trees wsX4_trees rmX4_trees K [.ref (K.2.2.2 0)] σ r σ' := by
  intro sz
  refine fm_start (Qc := fun sz => fm_QL K r σ' sz) (cc := cX4_trees) (maxL := 1) (ret := (some .long)) (by decide) rfl (Nat.le_of_ble_eq_true rfl) ?_
  intro p e s m args below meth c C hr hlk hst hH ls hl
  have C : CallFix p m c cX4_trees 1 s args wsX4_trees RX4 := C
  obtain ⟨hx, hb, hml, hown, hts⟩ := id C
  have hA : ∀ q, fm_A K s.heap.size q → fm_A K s.heap.size q := fun _ h => h
  have hl : lv_has ls 1 [(0, .ref (K.2.2.2 0))] := hl
  generalize hQ : MQ below _ args s _ _ _ = Q
  rw [mX4_trees] at h
  refine lv_aload_n hx hb dX4_trees_0 rfl (lv_at hl 0 rfl) ?_
  obtain ⟨σ1, h1, h⟩ := mi_b1 h
  refine fm_cv (va_runV (As := []) (rest := []) C (kX4_drawNet l K h1 _) (cwV 0 hts gX4_trees_X4_drawNet rfl rfl rfl (by decide +kernel) ⟨(Nat.le_of_ble_eq_true rfl), (Nat.le_of_ble_eq_true rfl)⟩) ⟨fm_blind, fm_recv hst hH (q := 0) (fm_inb (by decide)) rfl (fm_ob_0 _ _) rfl, fm_pre hst hA hH⟩ rfl rfl hl.1 rfl (lv_room (Nat.le_of_ble_eq_true rfl)) dX4_trees_1 ⟨(Nat.le_of_ble_eq_true rfl), (Nat.le_of_ble_eq_true rfl)⟩) hA hH (fun H locs hH => ?_)
  refine lv_aload_n hx hb dX4_trees_4 rfl (lv_at hl 0 rfl) ?_
  refine fm_getf (T := TX4) (N := 18) hx hb hts (fun _ h => List.mem_cons_of_mem _ (List.mem_append_left _ (List.mem_append_left _ (List.mem_append_right _ h)))) hown hst.1 hH 0 (fm_inb (by decide)) rfl (fm_ob_0 _ _) rfl 17 (by decide) (List.mem_of_getElem? (i := 1) rfl) rfl rfl dX4_trees_5 ?_
  refine lv_aload_n hx hb dX4_trees_8 rfl (lv_at hl 0 rfl) ?_
  refine fm_getf (T := TX4) (N := 18) hx hb hts (fun _ h => List.mem_cons_of_mem _ (List.mem_append_left _ (List.mem_append_left _ (List.mem_append_right _ h)))) hown hst.1 hH 0 (fm_inb (by decide)) rfl (fm_ob_0 _ _) rfl 12 (by decide) (List.mem_of_getElem? (i := 2) rfl) rfl rfl dX4_trees_9 ?_
  refine lv_aload_n hx hb dX4_trees_12 rfl (lv_at hl 0 rfl) ?_
  obtain ⟨r13, h13, h⟩ := mi_b1 h
  refine fm_ci (va_runV (As := []) (rest := [.ref (K.2.2.2 20), .ref (K.2.2.2 30)]) C (kX4_upSet l K h13 _) (cwV 0 hts gX4_trees_X4_upSet rfl rfl rfl (by decide +kernel) ⟨(Nat.le_of_ble_eq_true rfl), (Nat.le_of_ble_eq_true rfl)⟩) ⟨fm_blind, fm_recv hst hH (q := 0) (fm_inb (by decide)) rfl (fm_ob_0 _ _) rfl, fm_pre hst hA hH⟩ rfl rfl hl.1 rfl (lv_room (Nat.le_of_ble_eq_true rfl)) dX4_trees_13 ⟨(Nat.le_of_ble_eq_true rfl), (Nat.le_of_ble_eq_true rfl)⟩) hA hH (fun H locs hH => ?_)
  obtain ⟨r16, σ16, h16, h⟩ := mi_b2 h
  refine fm_cl (va_runVN (As := [.ref (K.2.2.2 20), .int r13]) (rest := []) C (kX3_treesOf l K h16 _) ⟨va_cnB 2 hts gX4_trees_X3_treesOf_n151 rfl rfl rfl (hst.2.1 (RX4, 151, yX3_treesOf) (List.mem_of_getElem? (i := 7) rfl)) (hts (.initialized RX3) (List.mem_of_getElem? (i := 48) rfl)) (by decide +kernel) ⟨(Nat.le_of_ble_eq_true rfl), (Nat.le_of_ble_eq_true rfl)⟩, (hts (.instanceMethod yX3_treesOf) (List.mem_of_getElem? (i := 47) rfl)), (hts (.selects RX3 yX3_treesOf yX3_treesOf) (List.mem_of_getElem? (i := 49) rfl))⟩ ⟨fm_blind, fm_recv hst hH (q := 30) (fm_inb (by decide)) rfl (fm_ob_30 _ _) rfl, fm_pre hst hA hH⟩ rfl rfl hl.1 rfl (lv_room (Nat.le_of_ble_eq_true rfl)) dX4_trees_16 ⟨(Nat.le_of_ble_eq_true rfl), (Nat.le_of_ble_eq_true rfl)⟩) hA hH (fun H locs hH => ?_)
  cases h
  subst hQ
  exact fm_lret hx hb hr hlk hst hH dX4_trees_19
/-! RX4.requireValue(I)V -/
abbrev rmX4_requireValue : Room := { frames := 1, cells := 0, slots := 0, locals := 22 }
def mX4_requireValue (x0 : Int32) (σ : fm_S) : Option fm_S :=
  mb1 (mX4_requireWithin x0 (-1000000 : Int32) (1000000 : Int32) σ) fun σ5 =>
  some σ5
set_option maxHeartbeats 4000000 in
set_option maxRecDepth 100000 in
theorem kX4_requireValue (l : Launch) (K : fm_K) {x0 : Int32} {σ : fm_S} {σ' : fm_S} (h : mX4_requireValue x0 σ = some σ') : fm_CV l yX4_requireValue wsX4_requireValue rmX4_requireValue K [.int x0] σ σ' := by
  intro sz
  refine fm_start (Qc := fun sz => fm_QV K σ' sz) (cc := cX4_requireValue) (maxL := 1) (ret := none) (by decide) rfl (Nat.le_of_ble_eq_true rfl) ?_
  intro p e s m args below meth c C hr hlk hst hH ls hl
  have C : CallFix p m c cX4_requireValue 1 s args wsX4_requireValue RX4 := C
  obtain ⟨hx, hb, hml, hown, hts⟩ := id C
  have hA : ∀ q, fm_A K s.heap.size q → fm_A K s.heap.size q := fun _ h => h
  have hl : lv_has ls 1 [(0, .int x0)] := hl
  generalize hQ : MQ below _ args s _ _ _ = Q
  rw [mX4_requireValue] at h
  refine lv_iload_n hx hb dX4_requireValue_0 rfl (lv_at hl 0 rfl) ?_
  refine lv_ldc (v := -1000000) hx hb hown (hts (.constant RX4 213 (-1000000)) (List.mem_of_getElem? (i := 1) rfl)) dX4_requireValue_1 ?_
  refine lv_ldc (v := 1000000) hx hb hown (hts (.constant RX4 214 (1000000)) (List.mem_of_getElem? (i := 2) rfl)) dX4_requireValue_3 ?_
  obtain ⟨σ5, h5, h⟩ := mi_b1 h
  refine fm_cv (va_runS (As := [.int x0, .int (-1000000 : Int32), .int (1000000 : Int32)]) (rest := []) C (kX4_requireWithin l K h5 _) (va_cwS 3 hts gX4_requireValue_X4_requireWithin rfl rfl rfl (by decide +kernel) ⟨(Nat.le_of_ble_eq_true rfl), (Nat.le_of_ble_eq_true rfl)⟩) ⟨fm_blind, fm_pre hst hA hH⟩ rfl rfl hl.1 rfl (lv_room (Nat.le_of_ble_eq_true rfl)) dX4_requireValue_5 ⟨(Nat.le_of_ble_eq_true rfl), (Nat.le_of_ble_eq_true rfl)⟩) hA hH (fun H locs hH => ?_)
  cases h
  subst hQ
  exact fm_vret hx hb hr hlk hst hH dX4_requireValue_8
/-! RX4.setEstimate(II)I -/
abbrev rmX4_setEstimate : Room := { frames := 2, cells := 0, slots := 0, locals := 42 }
def mX4_setEstimate (x1 : Int32) (x2 : Int32) (σ : fm_S) : Option (Int32 × fm_S) :=
  mb1 (mX4_requireMember x1 σ) fun σ2 =>
  mb1 (mX4_requireValue x2 σ2) fun σ6 =>
  if (x1 < 0 ∨ 8 ≤ x1.toNatClampNeg) then none else
  some ((rI σ6 5 x1), (sI σ6 5 x1 x2))
set_option maxHeartbeats 4000000 in
set_option maxRecDepth 100000 in
theorem kX4_setEstimate (l : Launch) (K : fm_K) {x1 : Int32} {x2 : Int32} {σ : fm_S} {r : Int32} {σ' : fm_S} (h : mX4_setEstimate x1 x2 σ = some (r, σ')) : fm_CI l yX4_setEstimate wsX4_setEstimate rmX4_setEstimate K [.ref (K.2.2.2 0), .int x1, .int x2] σ r σ' := by
  intro sz
  refine fm_start (Qc := fun sz => fm_QI K r σ' sz) (cc := cX4_setEstimate) (maxL := 4) (ret := (some .int)) (by decide) rfl (Nat.le_of_ble_eq_true rfl) ?_
  intro p e s m args below meth c C hr hlk hst hH ls hl
  have C : CallFix p m c cX4_setEstimate 4 s args wsX4_setEstimate RX4 := C
  obtain ⟨hx, hb, hml, hown, hts⟩ := id C
  have hA : ∀ q, fm_A K s.heap.size q → fm_A K s.heap.size q := fun _ h => h
  have hl : lv_has ls 4 [(0, .ref (K.2.2.2 0)), (1, .int x1), (2, .int x2)] := hl
  generalize hQ : MQ below _ args s _ _ _ = Q
  rw [mX4_setEstimate] at h
  refine lv_aload_n hx hb dX4_setEstimate_0 rfl (lv_at hl 0 rfl) ?_
  refine lv_iload_n hx hb dX4_setEstimate_1 rfl (lv_at hl 1 rfl) ?_
  obtain ⟨σ2, h2, h⟩ := mi_b1 h
  refine fm_cv (va_runV (As := [.int x1]) (rest := []) C (kX4_requireMember l K h2 _) (cwV 1 hts gX4_setEstimate_X4_requireMember rfl rfl rfl (by decide +kernel) ⟨(Nat.le_of_ble_eq_true rfl), (Nat.le_of_ble_eq_true rfl)⟩) ⟨fm_blind, fm_recv hst hH (q := 0) (fm_inb (by decide)) rfl (fm_ob_0 _ _) rfl, fm_pre hst hA hH⟩ rfl rfl hl.1 rfl (lv_room (Nat.le_of_ble_eq_true rfl)) dX4_setEstimate_2 ⟨(Nat.le_of_ble_eq_true rfl), (Nat.le_of_ble_eq_true rfl)⟩) hA hH (fun H locs hH => ?_)
  refine lv_iload_n hx hb dX4_setEstimate_5 rfl (lv_at hl 2 rfl) ?_
  obtain ⟨σ6, h6, h⟩ := mi_b1 h
  refine fm_cv (va_runS (As := [.int x2]) (rest := []) C (kX4_requireValue l K h6 _) (va_cwS 1 hts gX4_setEstimate_X4_requireValue rfl rfl rfl (by decide +kernel) ⟨(Nat.le_of_ble_eq_true rfl), (Nat.le_of_ble_eq_true rfl)⟩) ⟨fm_blind, fm_pre hst hA hH⟩ rfl rfl hl.1 rfl (lv_room (Nat.le_of_ble_eq_true rfl)) dX4_setEstimate_6 ⟨(Nat.le_of_ble_eq_true rfl), (Nat.le_of_ble_eq_true rfl)⟩) hA hH (fun H locs hH => ?_)
  refine lv_aload_n hx hb dX4_setEstimate_9 rfl (lv_at hl 0 rfl) ?_
  refine fm_getf (T := TX4) (N := 18) hx hb hts (fun _ h => List.mem_cons_of_mem _ (List.mem_append_left _ (List.mem_append_left _ (List.mem_append_right _ h)))) hown hst.1 hH 0 (fm_inb (by decide)) rfl (fm_ob_0 _ _) rfl 4 (by decide) (List.mem_of_getElem? (i := 1) rfl) rfl rfl dX4_setEstimate_10 ?_
  refine lv_iload_n hx hb dX4_setEstimate_13 rfl (lv_at hl 1 rfl) ?_
  obtain ⟨hi1, h⟩ := mi_chk h
  refine fm_ild hx hb hst.1 hH 5 (fm_inb (by decide)) rfl rfl hi1 dX4_setEstimate_14 ?_
  refine lv_istore_n (lv' := [(3, .int (rI σ6 5 x1)), (0, .ref (K.2.2.2 0)), (1, .int x1), (2, .int x2)]) hx hb dX4_setEstimate_15 rfl hl (by decide) rfl (fun ls hl => ?_)
  refine lv_aload_n hx hb dX4_setEstimate_16 rfl (lv_at hl 1 rfl) ?_
  refine fm_getf (T := TX4) (N := 18) hx hb hts (fun _ h => List.mem_cons_of_mem _ (List.mem_append_left _ (List.mem_append_left _ (List.mem_append_right _ h)))) hown hst.1 hH 0 (fm_inb (by decide)) rfl (fm_ob_0 _ _) rfl 4 (by decide) (List.mem_of_getElem? (i := 1) rfl) rfl rfl dX4_setEstimate_17 ?_
  refine lv_iload_n hx hb dX4_setEstimate_20 rfl (lv_at hl 2 rfl) ?_
  refine lv_iload_n hx hb dX4_setEstimate_21 rfl (lv_at hl 3 rfl) ?_
  refine fm_ist hx hb hst.1 hH 5 (fm_inb (by decide)) rfl rfl hi1 dX4_setEstimate_22 (fun H locs hH => ?_)
  refine lv_iload_n hx hb dX4_setEstimate_23 rfl (lv_at hl 0 rfl) ?_
  cases h
  subst hQ
  exact fm_iret hx hb hr hlk hst hH dX4_setEstimate_24
/-! RX4.estimate(I)I -/
abbrev rmX4_estimate : Room := { frames := 1, cells := 0, slots := 0, locals := 21 }
def mX4_estimate (x1 : Int32) (σ : fm_S) : Option (Int32 × fm_S) :=
  mb1 (mX4_requireMember x1 σ) fun σ2 =>
  if (x1 < 0 ∨ 8 ≤ x1.toNatClampNeg) then none else
  some ((rI σ2 5 x1), σ2)
set_option maxHeartbeats 4000000 in
set_option maxRecDepth 100000 in
theorem kX4_estimate (l : Launch) (K : fm_K) {x1 : Int32} {σ : fm_S} {r : Int32} {σ' : fm_S} (h : mX4_estimate x1 σ = some (r, σ')) : fm_CI l yX4_estimate wsX4_estimate rmX4_estimate K [.ref (K.2.2.2 0), .int x1] σ r σ' := by
  intro sz
  refine fm_start (Qc := fun sz => fm_QI K r σ' sz) (cc := cX4_estimate) (maxL := 2) (ret := (some .int)) (by decide) rfl (Nat.le_of_ble_eq_true rfl) ?_
  intro p e s m args below meth c C hr hlk hst hH ls hl
  have C : CallFix p m c cX4_estimate 2 s args wsX4_estimate RX4 := C
  obtain ⟨hx, hb, hml, hown, hts⟩ := id C
  have hA : ∀ q, fm_A K s.heap.size q → fm_A K s.heap.size q := fun _ h => h
  have hl : lv_has ls 2 [(0, .ref (K.2.2.2 0)), (1, .int x1)] := hl
  generalize hQ : MQ below _ args s _ _ _ = Q
  rw [mX4_estimate] at h
  refine lv_aload_n hx hb dX4_estimate_0 rfl (lv_at hl 0 rfl) ?_
  refine lv_iload_n hx hb dX4_estimate_1 rfl (lv_at hl 1 rfl) ?_
  obtain ⟨σ2, h2, h⟩ := mi_b1 h
  refine fm_cv (va_runV (As := [.int x1]) (rest := []) C (kX4_requireMember l K h2 _) (cwV 1 hts gX4_estimate_X4_requireMember rfl rfl rfl (by decide +kernel) ⟨(Nat.le_of_ble_eq_true rfl), (Nat.le_of_ble_eq_true rfl)⟩) ⟨fm_blind, fm_recv hst hH (q := 0) (fm_inb (by decide)) rfl (fm_ob_0 _ _) rfl, fm_pre hst hA hH⟩ rfl rfl hl.1 rfl (lv_room (Nat.le_of_ble_eq_true rfl)) dX4_estimate_2 ⟨(Nat.le_of_ble_eq_true rfl), (Nat.le_of_ble_eq_true rfl)⟩) hA hH (fun H locs hH => ?_)
  refine lv_aload_n hx hb dX4_estimate_5 rfl (lv_at hl 0 rfl) ?_
  refine fm_getf (T := TX4) (N := 18) hx hb hts (fun _ h => List.mem_cons_of_mem _ (List.mem_append_left _ (List.mem_append_right _ h))) hown hst.1 hH 0 (fm_inb (by decide)) rfl (fm_ob_0 _ _) rfl 4 (by decide) (List.mem_of_getElem? (i := 1) rfl) rfl rfl dX4_estimate_6 ?_
  refine lv_iload_n hx hb dX4_estimate_9 rfl (lv_at hl 1 rfl) ?_
  obtain ⟨hi1, h⟩ := mi_chk h
  refine fm_ild hx hb hst.1 hH 5 (fm_inb (by decide)) rfl rfl hi1 dX4_estimate_10 ?_
  cases h
  subst hQ
  exact fm_iret hx hb hr hlk hst hH dX4_estimate_11
/-! RX4.requireRounds(I)V -/
abbrev rmX4_requireRounds : Room := { frames := 1, cells := 0, slots := 0, locals := 22 }
def mX4_requireRounds (x0 : Int32) (σ : fm_S) : Option fm_S :=
  mb1 (mX4_requireWithin x0 (1 : Int32) (50 : Int32) σ) fun σ4 =>
  some σ4
set_option maxHeartbeats 4000000 in
set_option maxRecDepth 100000 in
theorem kX4_requireRounds (l : Launch) (K : fm_K) {x0 : Int32} {σ : fm_S} {σ' : fm_S} (h : mX4_requireRounds x0 σ = some σ') : fm_CV l yX4_requireRounds wsX4_requireRounds rmX4_requireRounds K [.int x0] σ σ' := by
  intro sz
  refine fm_start (Qc := fun sz => fm_QV K σ' sz) (cc := cX4_requireRounds) (maxL := 1) (ret := none) (by decide) rfl (Nat.le_of_ble_eq_true rfl) ?_
  intro p e s m args below meth c C hr hlk hst hH ls hl
  have C : CallFix p m c cX4_requireRounds 1 s args wsX4_requireRounds RX4 := C
  obtain ⟨hx, hb, hml, hown, hts⟩ := id C
  have hA : ∀ q, fm_A K s.heap.size q → fm_A K s.heap.size q := fun _ h => h
  have hl : lv_has ls 1 [(0, .int x0)] := hl
  generalize hQ : MQ below _ args s _ _ _ = Q
  rw [mX4_requireRounds] at h
  refine lv_iload_n hx hb dX4_requireRounds_0 rfl (lv_at hl 0 rfl) ?_
  refine lv_iconst (v := 1) hx hb dX4_requireRounds_1 (by decide) ?_
  refine lv_bipush (v := 50) hx hb dX4_requireRounds_2 (by decide) ?_
  obtain ⟨σ4, h4, h⟩ := mi_b1 h
  refine fm_cv (va_runS (As := [.int x0, .int (1 : Int32), .int (50 : Int32)]) (rest := []) C (kX4_requireWithin l K h4 _) (va_cwS 3 hts gX4_requireRounds_X4_requireWithin rfl rfl rfl (by decide +kernel) ⟨(Nat.le_of_ble_eq_true rfl), (Nat.le_of_ble_eq_true rfl)⟩) ⟨fm_blind, fm_pre hst hA hH⟩ rfl rfl hl.1 rfl (lv_room (Nat.le_of_ble_eq_true rfl)) dX4_requireRounds_4 ⟨(Nat.le_of_ble_eq_true rfl), (Nat.le_of_ble_eq_true rfl)⟩) hA hH (fun H locs hH => ?_)
  cases h
  subst hQ
  exact fm_vret hx hb hr hlk hst hH dX4_requireRounds_7
/-! RX4.flowBetween(II)I -/
abbrev rmX4_flowBetween : Room := { frames := 2, cells := 0, slots := 0, locals := 41 }
def mX4_flowBetween (x1 : Int32) (x2 : Int32) (σ : fm_S) : Option Int32 :=
  mb1 (mX1_degreeOf20 x1 σ) fun r5 =>
  mb1 (mX1_degreeOf20 x2 σ) fun r13 =>
  if (x1 < 0 ∨ 8 ≤ x1.toNatClampNeg) then none else
  if (x2 < 0 ∨ 8 ≤ x2.toNatClampNeg) then none else
  if ((if r5 < r13 then r13 else r5) + (1 : Int32)) = 0 then none else
  some (((rI σ 5 x1) - (rI σ 5 x2)) / ((if r5 < r13 then r13 else r5) + (1 : Int32)))
set_option maxHeartbeats 4000000 in
set_option maxRecDepth 100000 in
theorem kX4_flowBetween (l : Launch) (K : fm_K) {x1 : Int32} {x2 : Int32} {σ : fm_S} {r : Int32} (h : mX4_flowBetween x1 x2 σ = some r) : fm_CI l yX4_flowBetween wsX4_flowBetween rmX4_flowBetween K [.ref (K.2.2.2 0), .int x1, .int x2] σ r σ := by
  intro sz
  refine fm_start (Qc := fun sz => fm_QI K r σ sz) (cc := cX4_flowBetween) (maxL := 4) (ret := (some .int)) (by decide) rfl (Nat.le_of_ble_eq_true rfl) ?_
  intro p e s m args below meth c C hr hlk hst hH ls hl
  have C : CallFix p m c cX4_flowBetween 4 s args wsX4_flowBetween RX4 := C
  obtain ⟨hx, hb, hml, hown, hts⟩ := id C
  have hA : ∀ q, fm_A K s.heap.size q → fm_A K s.heap.size q := fun _ h => h
  have hl : lv_has ls 4 [(0, .ref (K.2.2.2 0)), (1, .int x1), (2, .int x2)] := hl
  generalize hQ : MQ below _ args s _ _ _ = Q
  rw [mX4_flowBetween] at h
  refine lv_aload_n hx hb dX4_flowBetween_0 rfl (lv_at hl 0 rfl) ?_
  refine fm_getf (T := TX4) (N := 18) hx hb hts (fun _ h => List.mem_cons_of_mem _ (List.mem_append_left _ (List.mem_append_right _ h))) hown hst.1 hH 0 (fm_inb (by decide)) rfl (fm_ob_0 _ _) rfl 12 (by decide) (List.mem_of_getElem? (i := 1) rfl) rfl rfl dX4_flowBetween_1 ?_
  refine lv_iload_n hx hb dX4_flowBetween_4 rfl (lv_at hl 1 rfl) ?_
  obtain ⟨r5, h5, h⟩ := mi_b1 h
  refine fm_ci (va_runVN (As := [.int x1]) (rest := []) C (kX1_degreeOf20 l K h5 _) ⟨va_cnB 1 hts gX4_flowBetween_X1_degreeOf_n132 rfl rfl rfl (hst.2.1 (RX4, 132, yX1_degreeOf) (List.mem_of_getElem? (i := 21) rfl)) (hts (.initialized RX1) (List.mem_of_getElem? (i := 8) rfl)) (by decide +kernel) ⟨(Nat.le_of_ble_eq_true rfl), (Nat.le_of_ble_eq_true rfl)⟩, (hts (.instanceMethod yX1_degreeOf) (List.mem_of_getElem? (i := 7) rfl)), (hts (.selects RX1 yX1_degreeOf yX1_degreeOf) (List.mem_of_getElem? (i := 9) rfl))⟩ ⟨fm_blind, fm_recv hst hH (q := 20) (fm_inb (by decide)) rfl (fm_ob_20 _ _) rfl, fm_pre hst hA hH⟩ rfl rfl hl.1 rfl (lv_room (Nat.le_of_ble_eq_true rfl)) dX4_flowBetween_5 ⟨(Nat.le_of_ble_eq_true rfl), (Nat.le_of_ble_eq_true rfl)⟩) hA hH (fun H locs hH => ?_)
  refine lv_aload_n hx hb dX4_flowBetween_8 rfl (lv_at hl 0 rfl) ?_
  refine fm_getf (T := TX4) (N := 18) hx hb hts (fun _ h => List.mem_cons_of_mem _ (List.mem_append_left _ (List.mem_append_right _ h))) hown hst.1 hH 0 (fm_inb (by decide)) rfl (fm_ob_0 _ _) rfl 12 (by decide) (List.mem_of_getElem? (i := 1) rfl) rfl rfl dX4_flowBetween_9 ?_
  refine lv_iload_n hx hb dX4_flowBetween_12 rfl (lv_at hl 2 rfl) ?_
  obtain ⟨r13, h13, h⟩ := mi_b1 h
  refine fm_ci (va_runVN (As := [.int x2]) (rest := [.int r5]) C (kX1_degreeOf20 l K h13 _) ⟨va_cnB 1 hts gX4_flowBetween_X1_degreeOf_n132 rfl rfl rfl (hst.2.1 (RX4, 132, yX1_degreeOf) (List.mem_of_getElem? (i := 21) rfl)) (hts (.initialized RX1) (List.mem_of_getElem? (i := 8) rfl)) (by decide +kernel) ⟨(Nat.le_of_ble_eq_true rfl), (Nat.le_of_ble_eq_true rfl)⟩, (hts (.instanceMethod yX1_degreeOf) (List.mem_of_getElem? (i := 7) rfl)), (hts (.selects RX1 yX1_degreeOf yX1_degreeOf) (List.mem_of_getElem? (i := 9) rfl))⟩ ⟨fm_blind, fm_recv hst hH (q := 20) (fm_inb (by decide)) rfl (fm_ob_20 _ _) rfl, fm_pre hst hA hH⟩ rfl rfl hl.1 rfl (lv_room (Nat.le_of_ble_eq_true rfl)) dX4_flowBetween_13 ⟨(Nat.le_of_ble_eq_true rfl), (Nat.le_of_ble_eq_true rfl)⟩) hA hH (fun H locs hH => ?_)
  refine va_mmax hx hb (hml.trans hl.1.symm) hown (hts (.methodLink RX4 231 Lib.Math.max.name) (List.mem_of_getElem? (i := 2) rfl)) (hts (.static Lib.Math.max.name) (List.mem_of_getElem? (i := 3) rfl)) (hts (.initialized "java/lang/Math") (List.mem_of_getElem? (i := 4) rfl)) (hts (.code Lib.Math.max.name Lib.Math.max.code 2 (some .int)) (List.mem_of_getElem? (i := 5) rfl)) (Nat.le_of_ble_eq_true rfl) (Nat.le_of_ble_eq_true rfl) (Nat.le_of_ble_eq_true rfl) (Nat.le_of_ble_eq_true rfl) dX4_flowBetween_16 ?_
  refine lv_iconst (v := 1) hx hb dX4_flowBetween_19 (by decide) ?_
  refine lv_iadd hx hb dX4_flowBetween_20 ?_
  refine lv_istore_n (lv' := [(3, .int ((if r5 < r13 then r13 else r5) + (1 : Int32))), (0, .ref (K.2.2.2 0)), (1, .int x1), (2, .int x2)]) hx hb dX4_flowBetween_21 rfl hl (by decide) rfl (fun ls hl => ?_)
  refine lv_aload_n hx hb dX4_flowBetween_22 rfl (lv_at hl 1 rfl) ?_
  refine fm_getf (T := TX4) (N := 18) hx hb hts (fun _ h => List.mem_cons_of_mem _ (List.mem_append_left _ (List.mem_append_right _ h))) hown hst.1 hH 0 (fm_inb (by decide)) rfl (fm_ob_0 _ _) rfl 4 (by decide) (List.mem_of_getElem? (i := 6) rfl) rfl rfl dX4_flowBetween_23 ?_
  refine lv_iload_n hx hb dX4_flowBetween_26 rfl (lv_at hl 2 rfl) ?_
  obtain ⟨hi1, h⟩ := mi_chk h
  refine fm_ild hx hb hst.1 hH 5 (fm_inb (by decide)) rfl rfl hi1 dX4_flowBetween_27 ?_
  refine lv_aload_n hx hb dX4_flowBetween_28 rfl (lv_at hl 1 rfl) ?_
  refine fm_getf (T := TX4) (N := 18) hx hb hts (fun _ h => List.mem_cons_of_mem _ (List.mem_append_left _ (List.mem_append_right _ h))) hown hst.1 hH 0 (fm_inb (by decide)) rfl (fm_ob_0 _ _) rfl 4 (by decide) (List.mem_of_getElem? (i := 6) rfl) rfl rfl dX4_flowBetween_29 ?_
  refine lv_iload_n hx hb dX4_flowBetween_32 rfl (lv_at hl 3 rfl) ?_
  obtain ⟨hi2, h⟩ := mi_chk h
  refine fm_ild hx hb hst.1 hH 5 (fm_inb (by decide)) rfl rfl hi2 dX4_flowBetween_33 ?_
  refine lv_isub hx hb dX4_flowBetween_34 ?_
  refine lv_iload_n hx hb dX4_flowBetween_35 rfl (lv_at hl 0 rfl) ?_
  obtain ⟨hz3, h⟩ := mi_chk h
  refine lv_idiv hx hb dX4_flowBetween_36 hz3 ?_
  cases h
  subst hQ
  exact fm_iret hx hb hr hlk hst hH dX4_flowBetween_37
/-! RX4.addChanges([I[I)V -/
abbrev rmX4_addChanges : Room := { frames := 0, cells := 0, slots := 0, locals := 0 }
def mX4_addChanges_L2 (q1 : Nat) (q2 : Nat) : Nat → Int32 → fm_S → Option (fm_S)
  | 0, _, _ => none
  | n + 1, x3, σ =>
    if (σ.1 60 0) ≤ x3 then
      some σ
    else
      if (x3 < 0 ∨ (fm_len q1) ≤ x3.toNatClampNeg) then none else
      if (x3 < 0 ∨ (fm_len q2) ≤ x3.toNatClampNeg) then none else
      mX4_addChanges_L2 q1 q2 n (x3 + 1) (sI σ q1 x3 ((rI σ q1 x3) + (rI σ q2 x3)))
set_option maxHeartbeats 4000000 in
set_option maxRecDepth 100000 in
theorem wX4_addChanges_L2 {p : Program} {l : Launch} {e : Env} {s : State} {m : MethodId} {args : Array Value} {below : List Frame} {meth : Method} {c : Code} {Q : State → Prop} {K : fm_K} {A : Nat → Prop} {q1 : Nat} (hq1 : fm_in K q1) (ht1 : fm_ty q1 = 1) {q2 : Nat} (hq2 : fm_in K q2) (ht2 : fm_ty q2 = 1) (C : CallFix p m c cX4_addChanges 4 s args wsX4_addChanges RX4) (hst : fm_st K A s s.heap) (hA : ∀ q, fm_A K s.heap.size q → A q) :
    ∀ (n : Nat) (x3 : Int32) (σ : fm_S) (σo : fm_S), mX4_addChanges_L2 q1 q2 n x3 σ = some σo → (∀ (ls : Array Slot) (H : Heap) (locs : List Loc), lv_has ls 4 [] → fm_H K σo A s H locs → W p l e rmX4_addChanges s m args below meth c H locs 0 0 Q (F0 m 25 ls [])) → ∀ (ls : Array Slot) (H : Heap) (locs : List Loc), lv_has ls 4 [(0, .ref (K.2.2.2 0)), (1, .ref (K.2.2.2 q1)), (2, .ref (K.2.2.2 q2)), (3, .int x3)] → fm_H K σ A s H locs → W p l e rmX4_addChanges s m args below meth c H locs 0 0 Q (F0 m 2 ls []) := by
  obtain ⟨hx, hb, hml, hown, hts⟩ := id C
  intro n
  induction n with
  | zero => intro x3 σ σo h; simp [mX4_addChanges_L2] at h
  | succ n ih =>
    intro x3 σ σo h kk ls H locs hl hH
    rw [mX4_addChanges_L2] at h
    refine lv_iload_n hx hb dX4_addChanges_2 rfl (lv_at hl 3 rfl) ?_
    refine lv_aload_n hx hb dX4_addChanges_3 rfl (lv_at hl 0 rfl) ?_
    refine fm_getf (T := TX4) (N := 18) hx hb hts (fun _ h => List.mem_cons_of_mem _ (List.mem_append_right _ h)) hown hst.1 hH 0 (fm_inb (by decide)) rfl (fm_ob_0 _ _) rfl 10 (by decide) (List.mem_of_getElem? (i := 1) rfl) rfl rfl dX4_addChanges_4 ?_
    refine lv_icmp_ge (tgt := 25) hx hb dX4_addChanges_7 (by decide) (fun hc => ?_) (fun hc => ?_)
    · replace h := mi_pos hc h
      cases h
      exact kk _ _ _ (lv_sub hl [] rfl) hH
    · replace h := mi_neg hc h
      refine lv_aload_n hx hb dX4_addChanges_10 rfl (lv_at hl 1 rfl) ?_
      refine lv_iload_n hx hb dX4_addChanges_11 rfl (lv_at hl 3 rfl) ?_
      refine lv_dup2_11 hx hb dX4_addChanges_12 rfl rfl ?_
      obtain ⟨hi1, h⟩ := mi_chk h
      refine fm_ild hx hb hst.1 hH q1 hq1 ht1 rfl hi1 dX4_addChanges_13 ?_
      refine lv_aload_n hx hb dX4_addChanges_14 rfl (lv_at hl 2 rfl) ?_
      refine lv_iload_n hx hb dX4_addChanges_15 rfl (lv_at hl 3 rfl) ?_
      obtain ⟨hi2, h⟩ := mi_chk h
      refine fm_ild hx hb hst.1 hH q2 hq2 ht2 rfl hi2 dX4_addChanges_16 ?_
      refine lv_iadd hx hb dX4_addChanges_17 ?_
      refine fm_ist hx hb hst.1 hH q1 hq1 ht1 rfl hi1 dX4_addChanges_18 (fun H locs hH => ?_)
      refine lv_iinc (v := (x3 + 1)) (lv' := [(3, .int (x3 + 1)), (0, .ref (K.2.2.2 0)), (1, .ref (K.2.2.2 q1)), (2, .ref (K.2.2.2 q2))]) hx hb dX4_addChanges_19 hl (k := 3) rfl rfl (by decide) rfl (fun ls hl => ?_)
      refine lv_goto (tgt := 2) hx hb dX4_addChanges_22 (by decide) ?_
      exact ih _ _ _ h kk _ _ _ (lv_sub hl [1, 2, 3, 0] rfl) hH
def mX4_addChanges (q1 : Nat) (q2 : Nat) (σ : fm_S) : Option fm_S :=
  mb1 (mX4_addChanges_L2 q1 q2 fF (0 : Int32) σ) fun σ2 =>
  some σ2
set_option maxHeartbeats 4000000 in
set_option maxRecDepth 100000 in
theorem kX4_addChanges (l : Launch) (K : fm_K) {q1 : Nat} (hq1 : fm_in K q1) (ht1 : fm_ty q1 = 1) {q2 : Nat} (hq2 : fm_in K q2) (ht2 : fm_ty q2 = 1) {σ : fm_S} {σ' : fm_S} (h : mX4_addChanges q1 q2 σ = some σ') : fm_CV l yX4_addChanges wsX4_addChanges rmX4_addChanges K [.ref (K.2.2.2 0), .ref (K.2.2.2 q1), .ref (K.2.2.2 q2)] σ σ' := by
  intro sz
  refine fm_start (Qc := fun sz => fm_QV K σ' sz) (cc := cX4_addChanges) (maxL := 4) (ret := none) (by decide) rfl (Nat.le_of_ble_eq_true rfl) ?_
  intro p e s m args below meth c C hr hlk hst hH ls hl
  have C : CallFix p m c cX4_addChanges 4 s args wsX4_addChanges RX4 := C
  obtain ⟨hx, hb, hml, hown, hts⟩ := id C
  have hA : ∀ q, fm_A K s.heap.size q → fm_A K s.heap.size q := fun _ h => h
  have hl : lv_has ls 4 [(0, .ref (K.2.2.2 0)), (1, .ref (K.2.2.2 q1)), (2, .ref (K.2.2.2 q2))] := hl
  generalize hQ : MQ below _ args s _ _ _ = Q
  rw [mX4_addChanges] at h
  refine lv_iconst (v := 0) hx hb dX4_addChanges_0 (by decide) ?_
  refine lv_istore_n (lv' := [(3, .int (0 : Int32)), (0, .ref (K.2.2.2 0)), (1, .ref (K.2.2.2 q1)), (2, .ref (K.2.2.2 q2))]) hx hb dX4_addChanges_1 rfl hl (by decide) rfl (fun ls hl => ?_)
  obtain ⟨σ2, h2, h⟩ := mi_b1 h
  refine wX4_addChanges_L2 hq1 ht1 hq2 ht2 C hst hA _ _ _ _ h2 (fun ls H locs hl hH => ?_) _ _ _ (lv_sub hl [1, 2, 3, 0] rfl) hH
  cases h
  subst hQ
  exact fm_vret hx hb hr hlk hst hH dX4_addChanges_25
/-! RX4.exchangeEstimates()V -/
abbrev rmX4_exchangeEstimates : Room := { frames := 3, cells := 0, slots := 0, locals := 64 }
def mX4_exchangeEstimates_L22 : Nat → Int32 → Int32 → fm_S → Option (fm_S)
  | 0, _, _, _ => none
  | n + 1, x1, x2, σ =>
    if (σ.1 60 0) ≤ x2 then
      some σ
    else
      mb1 (mX1_joins20 x1 x2 σ) fun r36 =>
      if r36 = 0 then
        mX4_exchangeEstimates_L22 n x1 (x2 + 1) σ
      else
        mb1 (mX4_flowBetween x1 x2 σ) fun r45 =>
        if (x1 < 0 ∨ 8 ≤ x1.toNatClampNeg) then none else
        if (x2 < 0 ∨ 8 ≤ x2.toNatClampNeg) then none else
        mX4_exchangeEstimates_L22 n x1 (x2 + 1) (sI (sI σ 22 x1 ((rI σ 22 x1) - r45)) 22 x2 ((rI (sI σ 22 x1 ((rI σ 22 x1) - r45)) 22 x2) + r45))
set_option maxHeartbeats 4000000 in
set_option maxRecDepth 100000 in
theorem wX4_exchangeEstimates_L22 {p : Program} {l : Launch} {e : Env} {s : State} {m : MethodId} {args : Array Value} {below : List Frame} {meth : Method} {c : Code} {Q : State → Prop} {K : fm_K} {A : Nat → Prop} (C : CallFix p m c cX4_exchangeEstimates 4 s args wsX4_exchangeEstimates RX4) (hst : fm_st K A s s.heap) (hA : ∀ q, fm_A K s.heap.size q → A q) :
    ∀ (n : Nat) (x1 : Int32) (x2 : Int32) (σ : fm_S) (σo : fm_S), mX4_exchangeEstimates_L22 n x1 x2 σ = some σo → (∀ (ls : Array Slot) (H : Heap) (locs : List Loc), lv_has ls 4 [(0, .ref (K.2.2.2 0)), (1, .int x1)] → fm_H K σo A s H locs → W p l e rmX4_exchangeEstimates s m args below meth c H locs 0 0 Q (F0 m 75 ls [])) → ∀ (ls : Array Slot) (H : Heap) (locs : List Loc), lv_has ls 4 [(0, .ref (K.2.2.2 0)), (1, .int x1), (2, .int x2)] → fm_H K σ A s H locs → W p l e rmX4_exchangeEstimates s m args below meth c H locs 0 0 Q (F0 m 22 ls []) := by
  obtain ⟨hx, hb, hml, hown, hts⟩ := id C
  intro n
  induction n with
  | zero => intro x1 x2 σ σo h; simp [mX4_exchangeEstimates_L22] at h
  | succ n ih =>
    intro x1 x2 σ σo h kk ls H locs hl hH
    rw [mX4_exchangeEstimates_L22] at h
    refine lv_iload_n hx hb dX4_exchangeEstimates_22 rfl (lv_at hl 2 rfl) ?_
    refine lv_aload_n hx hb dX4_exchangeEstimates_23 rfl (lv_at hl 0 rfl) ?_
    refine fm_getf (T := TX4) (N := 18) hx hb hts (fun _ h => List.mem_cons_of_mem _ (List.mem_append_left _ (List.mem_append_right _ h))) hown hst.1 hH 0 (fm_inb (by decide)) rfl (fm_ob_0 _ _) rfl 10 (by decide) (List.mem_of_getElem? (i := 2) rfl) rfl rfl dX4_exchangeEstimates_24 ?_
    refine lv_icmp_ge (tgt := 75) hx hb dX4_exchangeEstimates_27 (by decide) (fun hc => ?_) (fun hc => ?_)
    · replace h := mi_pos hc h
      cases h
      exact kk _ _ _ (lv_sub hl [0, 1] rfl) hH
    · replace h := mi_neg hc h
      refine lv_aload_n hx hb dX4_exchangeEstimates_30 rfl (lv_at hl 0 rfl) ?_
      refine fm_getf (T := TX4) (N := 18) hx hb hts (fun _ h => List.mem_cons_of_mem _ (List.mem_append_left _ (List.mem_append_right _ h))) hown hst.1 hH 0 (fm_inb (by decide)) rfl (fm_ob_0 _ _) rfl 12 (by decide) (List.mem_of_getElem? (i := 3) rfl) rfl rfl dX4_exchangeEstimates_31 ?_
      refine lv_iload_n hx hb dX4_exchangeEstimates_34 rfl (lv_at hl 1 rfl) ?_
      refine lv_iload_n hx hb dX4_exchangeEstimates_35 rfl (lv_at hl 2 rfl) ?_
      obtain ⟨r36, h36, h⟩ := mi_b1 h
      refine fm_ci (va_runVN (As := [.int x1, .int x2]) (rest := []) C (kX1_joins20 l K h36 _) ⟨va_cnB 2 hts gX4_exchangeEstimates_X1_joins_n112 rfl rfl rfl (hst.2.1 (RX4, 112, yX1_joins) (List.mem_of_getElem? (i := 1) rfl)) (hts (.initialized RX1) (List.mem_of_getElem? (i := 10) rfl)) (by decide +kernel) ⟨(Nat.le_of_ble_eq_true rfl), (Nat.le_of_ble_eq_true rfl)⟩, (hts (.instanceMethod yX1_joins) (List.mem_of_getElem? (i := 9) rfl)), (hts (.selects RX1 yX1_joins yX1_joins) (List.mem_of_getElem? (i := 11) rfl))⟩ ⟨fm_blind, fm_recv hst hH (q := 20) (fm_inb (by decide)) rfl (fm_ob_20 _ _) rfl, fm_pre hst hA hH⟩ rfl rfl hl.1 rfl (lv_room (Nat.le_of_ble_eq_true rfl)) dX4_exchangeEstimates_36 ⟨(Nat.le_of_ble_eq_true rfl), (Nat.le_of_ble_eq_true rfl)⟩) hA hH (fun H locs hH => ?_)
      refine lv_if_eq (tgt := 69) hx hb dX4_exchangeEstimates_39 (by decide) (fun hc => ?_) (fun hc => ?_)
      · replace h := mi_pos hc h
        refine lv_iinc (v := (x2 + 1)) (lv' := [(2, .int (x2 + 1)), (0, .ref (K.2.2.2 0)), (1, .int x1)]) hx hb dX4_exchangeEstimates_69 hl (k := 2) rfl rfl (by decide) rfl (fun ls hl => ?_)
        refine lv_goto (tgt := 22) hx hb dX4_exchangeEstimates_72 (by decide) ?_
        exact ih _ _ _ _ h kk _ _ _ (lv_sub hl [1, 2, 0] rfl) hH
      · replace h := mi_neg hc h
        refine lv_aload_n hx hb dX4_exchangeEstimates_42 rfl (lv_at hl 0 rfl) ?_
        refine lv_iload_n hx hb dX4_exchangeEstimates_43 rfl (lv_at hl 1 rfl) ?_
        refine lv_iload_n hx hb dX4_exchangeEstimates_44 rfl (lv_at hl 2 rfl) ?_
        obtain ⟨r45, h45, h⟩ := mi_b1 h
        refine fm_ci (va_runV (As := [.int x1, .int x2]) (rest := []) C (kX4_flowBetween l K h45 _) (cwV 2 hts gX4_exchangeEstimates_X4_flowBetween rfl rfl rfl (by decide +kernel) ⟨(Nat.le_of_ble_eq_true rfl), (Nat.le_of_ble_eq_true rfl)⟩) ⟨fm_blind, fm_recv hst hH (q := 0) (fm_inb (by decide)) rfl (fm_ob_0 _ _) rfl, fm_pre hst hA hH⟩ rfl rfl hl.1 rfl (lv_room (Nat.le_of_ble_eq_true rfl)) dX4_exchangeEstimates_45 ⟨(Nat.le_of_ble_eq_true rfl), (Nat.le_of_ble_eq_true rfl)⟩) hA hH (fun H locs hH => ?_)
        refine lv_istore_n (lv' := [(3, .int r45), (0, .ref (K.2.2.2 0)), (1, .int x1), (2, .int x2)]) hx hb dX4_exchangeEstimates_48 rfl hl (by decide) rfl (fun ls hl => ?_)
        refine lv_aload_n hx hb dX4_exchangeEstimates_49 rfl (lv_at hl 1 rfl) ?_
        refine fm_getf (T := TX4) (N := 18) hx hb hts (fun _ h => List.mem_cons_of_mem _ (List.mem_append_left _ (List.mem_append_right _ h))) hown hst.1 hH 0 (fm_inb (by decide)) rfl (fm_ob_0 _ _) rfl 13 (by decide) (List.mem_of_getElem? (i := 1) rfl) rfl rfl dX4_exchangeEstimates_50 ?_
        refine lv_iload_n hx hb dX4_exchangeEstimates_53 rfl (lv_at hl 2 rfl) ?_
        refine lv_dup2_11 hx hb dX4_exchangeEstimates_54 rfl rfl ?_
        obtain ⟨hi1, h⟩ := mi_chk h
        refine fm_ild hx hb hst.1 hH 22 (fm_inb (by decide)) rfl rfl hi1 dX4_exchangeEstimates_55 ?_
        refine lv_iload_n hx hb dX4_exchangeEstimates_56 rfl (lv_at hl 0 rfl) ?_
        refine lv_isub hx hb dX4_exchangeEstimates_57 ?_
        refine fm_ist hx hb hst.1 hH 22 (fm_inb (by decide)) rfl rfl hi1 dX4_exchangeEstimates_58 (fun H locs hH => ?_)
        refine lv_aload_n hx hb dX4_exchangeEstimates_59 rfl (lv_at hl 1 rfl) ?_
        refine fm_getf (T := TX4) (N := 18) hx hb hts (fun _ h => List.mem_cons_of_mem _ (List.mem_append_left _ (List.mem_append_right _ h))) hown hst.1 hH 0 (fm_inb (by decide)) rfl (fm_ob_0 _ _) rfl 13 (by decide) (List.mem_of_getElem? (i := 1) rfl) rfl rfl dX4_exchangeEstimates_60 ?_
        refine lv_iload_n hx hb dX4_exchangeEstimates_63 rfl (lv_at hl 3 rfl) ?_
        refine lv_dup2_11 hx hb dX4_exchangeEstimates_64 rfl rfl ?_
        obtain ⟨hi2, h⟩ := mi_chk h
        refine fm_ild hx hb hst.1 hH 22 (fm_inb (by decide)) rfl rfl hi2 dX4_exchangeEstimates_65 ?_
        refine lv_iload_n hx hb dX4_exchangeEstimates_66 rfl (lv_at hl 0 rfl) ?_
        refine lv_iadd hx hb dX4_exchangeEstimates_67 ?_
        refine fm_ist hx hb hst.1 hH 22 (fm_inb (by decide)) rfl rfl hi2 dX4_exchangeEstimates_68 (fun H locs hH => ?_)
        refine lv_iinc (v := (x2 + 1)) (lv' := [(2, .int (x2 + 1)), (3, .int r45), (0, .ref (K.2.2.2 0)), (1, .int x1)]) hx hb dX4_exchangeEstimates_69 hl (k := 3) rfl rfl (by decide) rfl (fun ls hl => ?_)
        refine lv_goto (tgt := 22) hx hb dX4_exchangeEstimates_72 (by decide) ?_
        exact ih _ _ _ _ h kk _ _ _ (lv_sub hl [2, 3, 0] rfl) hH
def mX4_exchangeEstimates_L10 : Nat → Int32 → fm_S → Option (fm_S)
  | 0, _, _ => none
  | n + 1, x1, σ =>
    if (σ.1 60 0) ≤ x1 then
      some σ
    else
      mb1 (mX4_exchangeEstimates_L22 fF x1 (x1 + (1 : Int32)) σ) fun σ22 =>
      mX4_exchangeEstimates_L10 n (x1 + 1) σ22
set_option maxHeartbeats 4000000 in
set_option maxRecDepth 100000 in
theorem wX4_exchangeEstimates_L10 {p : Program} {l : Launch} {e : Env} {s : State} {m : MethodId} {args : Array Value} {below : List Frame} {meth : Method} {c : Code} {Q : State → Prop} {K : fm_K} {A : Nat → Prop} (C : CallFix p m c cX4_exchangeEstimates 4 s args wsX4_exchangeEstimates RX4) (hst : fm_st K A s s.heap) (hA : ∀ q, fm_A K s.heap.size q → A q) :
    ∀ (n : Nat) (x1 : Int32) (σ : fm_S) (σo : fm_S), mX4_exchangeEstimates_L10 n x1 σ = some σo → (∀ (ls : Array Slot) (H : Heap) (locs : List Loc), lv_has ls 4 [(0, .ref (K.2.2.2 0))] → fm_H K σo A s H locs → W p l e rmX4_exchangeEstimates s m args below meth c H locs 0 0 Q (F0 m 81 ls [])) → ∀ (ls : Array Slot) (H : Heap) (locs : List Loc), lv_has ls 4 [(0, .ref (K.2.2.2 0)), (1, .int x1)] → fm_H K σ A s H locs → W p l e rmX4_exchangeEstimates s m args below meth c H locs 0 0 Q (F0 m 10 ls []) := by
  obtain ⟨hx, hb, hml, hown, hts⟩ := id C
  intro n
  induction n with
  | zero => intro x1 σ σo h; simp [mX4_exchangeEstimates_L10] at h
  | succ n ih =>
    intro x1 σ σo h kk ls H locs hl hH
    rw [mX4_exchangeEstimates_L10] at h
    refine lv_iload_n hx hb dX4_exchangeEstimates_10 rfl (lv_at hl 1 rfl) ?_
    refine lv_aload_n hx hb dX4_exchangeEstimates_11 rfl (lv_at hl 0 rfl) ?_
    refine fm_getf (T := TX4) (N := 18) hx hb hts (fun _ h => List.mem_cons_of_mem _ (List.mem_append_left _ (List.mem_append_right _ h))) hown hst.1 hH 0 (fm_inb (by decide)) rfl (fm_ob_0 _ _) rfl 10 (by decide) (List.mem_of_getElem? (i := 2) rfl) rfl rfl dX4_exchangeEstimates_12 ?_
    refine lv_icmp_ge (tgt := 81) hx hb dX4_exchangeEstimates_15 (by decide) (fun hc => ?_) (fun hc => ?_)
    · replace h := mi_pos hc h
      cases h
      exact kk _ _ _ (lv_sub hl [0] rfl) hH
    · replace h := mi_neg hc h
      refine lv_iload_n hx hb dX4_exchangeEstimates_18 rfl (lv_at hl 1 rfl) ?_
      refine lv_iconst (v := 1) hx hb dX4_exchangeEstimates_19 (by decide) ?_
      refine lv_iadd hx hb dX4_exchangeEstimates_20 ?_
      refine lv_istore_n (lv' := [(2, .int (x1 + (1 : Int32))), (0, .ref (K.2.2.2 0)), (1, .int x1)]) hx hb dX4_exchangeEstimates_21 rfl hl (by decide) rfl (fun ls hl => ?_)
      obtain ⟨σ22, h22, h⟩ := mi_b1 h
      refine wX4_exchangeEstimates_L22 C hst hA _ _ _ _ _ h22 (fun ls H locs hl hH => ?_) _ _ _ (lv_sub hl [1, 2, 0] rfl) hH
      refine lv_iinc (v := (x1 + 1)) (lv' := [(1, .int (x1 + 1)), (0, .ref (K.2.2.2 0))]) hx hb dX4_exchangeEstimates_75 hl (k := 1) rfl rfl (by decide) rfl (fun ls hl => ?_)
      refine lv_goto (tgt := 10) hx hb dX4_exchangeEstimates_78 (by decide) ?_
      exact ih _ _ _ h kk _ _ _ (lv_sub hl [1, 0] rfl) hH
def mX4_exchangeEstimates (σ : fm_S) : Option fm_S :=
  mb1 (mJ7_fill_53178 22 (0 : Int32) σ) fun σ5 =>
  mb1 (mX4_exchangeEstimates_L10 fF (0 : Int32) σ5) fun σ10 =>
  mb1 (mX4_addChanges 5 22 σ10) fun σ90 =>
  some σ90
set_option maxHeartbeats 4000000 in
set_option maxRecDepth 100000 in
theorem kX4_exchangeEstimates (l : Launch) (K : fm_K) {σ : fm_S} {σ' : fm_S} (h : mX4_exchangeEstimates σ = some σ') : fm_CV l yX4_exchangeEstimates wsX4_exchangeEstimates rmX4_exchangeEstimates K [.ref (K.2.2.2 0)] σ σ' := by
  intro sz
  refine fm_start (Qc := fun sz => fm_QV K σ' sz) (cc := cX4_exchangeEstimates) (maxL := 4) (ret := none) (by decide) rfl (Nat.le_of_ble_eq_true rfl) ?_
  intro p e s m args below meth c C hr hlk hst hH ls hl
  have C : CallFix p m c cX4_exchangeEstimates 4 s args wsX4_exchangeEstimates RX4 := C
  obtain ⟨hx, hb, hml, hown, hts⟩ := id C
  have hA : ∀ q, fm_A K s.heap.size q → fm_A K s.heap.size q := fun _ h => h
  have hl : lv_has ls 4 [(0, .ref (K.2.2.2 0))] := hl
  generalize hQ : MQ below _ args s _ _ _ = Q
  rw [mX4_exchangeEstimates] at h
  refine lv_aload_n hx hb dX4_exchangeEstimates_0 rfl (lv_at hl 0 rfl) ?_
  refine fm_getf (T := TX4) (N := 18) hx hb hts (fun _ h => List.mem_cons_of_mem _ (List.mem_append_left _ (List.mem_append_right _ h))) hown hst.1 hH 0 (fm_inb (by decide)) rfl (fm_ob_0 _ _) rfl 13 (by decide) (List.mem_of_getElem? (i := 1) rfl) rfl rfl dX4_exchangeEstimates_1 ?_
  refine lv_iconst (v := 0) hx hb dX4_exchangeEstimates_4 (by decide) ?_
  obtain ⟨σ5, h5, h⟩ := mi_b1 h
  refine fm_cv (va_runS (As := [.ref (K.2.2.2 22), .int (0 : Int32)]) (rest := []) C (kJ7_fill_53178 l K (fm_inb (by decide)) rfl h5 _) (va_cwS 2 hts gX4_exchangeEstimates_J7_fill_53178 rfl rfl rfl (by decide +kernel) ⟨(Nat.le_of_ble_eq_true rfl), (Nat.le_of_ble_eq_true rfl)⟩) ⟨fm_blind, fm_pre hst hA hH⟩ rfl rfl hl.1 rfl (lv_room (Nat.le_of_ble_eq_true rfl)) dX4_exchangeEstimates_5 ⟨(Nat.le_of_ble_eq_true rfl), (Nat.le_of_ble_eq_true rfl)⟩) hA hH (fun H locs hH => ?_)
  refine lv_iconst (v := 0) hx hb dX4_exchangeEstimates_8 (by decide) ?_
  refine lv_istore_n (lv' := [(1, .int (0 : Int32)), (0, .ref (K.2.2.2 0))]) hx hb dX4_exchangeEstimates_9 rfl hl (by decide) rfl (fun ls hl => ?_)
  obtain ⟨σ10, h10, h⟩ := mi_b1 h
  refine wX4_exchangeEstimates_L10 C hst hA _ _ _ _ h10 (fun ls H locs hl hH => ?_) _ _ _ (lv_sub hl [1, 0] rfl) hH
  refine lv_aload_n hx hb dX4_exchangeEstimates_81 rfl (lv_at hl 0 rfl) ?_
  refine lv_aload_n hx hb dX4_exchangeEstimates_82 rfl (lv_at hl 0 rfl) ?_
  refine fm_getf (T := TX4) (N := 18) hx hb hts (fun _ h => List.mem_cons_of_mem _ (List.mem_append_left _ (List.mem_append_right _ h))) hown hst.1 hH 0 (fm_inb (by decide)) rfl (fm_ob_0 _ _) rfl 4 (by decide) (List.mem_of_getElem? (i := 4) rfl) rfl rfl dX4_exchangeEstimates_83 ?_
  refine lv_aload_n hx hb dX4_exchangeEstimates_86 rfl (lv_at hl 0 rfl) ?_
  refine fm_getf (T := TX4) (N := 18) hx hb hts (fun _ h => List.mem_cons_of_mem _ (List.mem_append_left _ (List.mem_append_right _ h))) hown hst.1 hH 0 (fm_inb (by decide)) rfl (fm_ob_0 _ _) rfl 13 (by decide) (List.mem_of_getElem? (i := 1) rfl) rfl rfl dX4_exchangeEstimates_87 ?_
  obtain ⟨σ90, h90, h⟩ := mi_b1 h
  refine fm_cv (va_runV (As := [.ref (K.2.2.2 5), .ref (K.2.2.2 22)]) (rest := []) C (kX4_addChanges l K (fm_inb (by decide)) rfl (fm_inb (by decide)) rfl h90 _) (cwV 2 hts gX4_exchangeEstimates_X4_addChanges rfl rfl rfl (by decide +kernel) ⟨(Nat.le_of_ble_eq_true rfl), (Nat.le_of_ble_eq_true rfl)⟩) ⟨fm_blind, fm_recv hst hH (q := 0) (fm_inb (by decide)) rfl (fm_ob_0 _ _) rfl, fm_pre hst hA hH⟩ rfl rfl hl.1 rfl (lv_room (Nat.le_of_ble_eq_true rfl)) dX4_exchangeEstimates_90 ⟨(Nat.le_of_ble_eq_true rfl), (Nat.le_of_ble_eq_true rfl)⟩) hA hH (fun H locs hH => ?_)
  cases h
  subst hQ
  exact fm_vret hx hb hr hlk hst hH dX4_exchangeEstimates_93
/-! RX4.spanOfEstimates()I -/
abbrev rmX4_spanOfEstimates : Room := { frames := 1, cells := 0, slots := 0, locals := 24 }
def mX4_spanOfEstimates_L25 : Nat → Int32 → Int32 → Int32 → fm_S → Option (Int32 × Int32)
  | 0, _, _, _, _ => none
  | n + 1, x1, x2, x3, σ =>
    if (σ.1 60 0) ≤ x3 then
      some (x1, x2)
    else
      if (x3 < 0 ∨ 8 ≤ x3.toNatClampNeg) then none else
      mX4_spanOfEstimates_L25 n (if (rI σ 5 x3) < x1 then (rI σ 5 x3) else x1) (if x2 < (rI σ 5 x3) then (rI σ 5 x3) else x2) (x3 + 1) σ
set_option maxHeartbeats 4000000 in
set_option maxRecDepth 100000 in
theorem wX4_spanOfEstimates_L25 {p : Program} {l : Launch} {e : Env} {s : State} {m : MethodId} {args : Array Value} {below : List Frame} {meth : Method} {c : Code} {Q : State → Prop} {K : fm_K} {A : Nat → Prop} (C : CallFix p m c cX4_spanOfEstimates 4 s args wsX4_spanOfEstimates RX4) (hst : fm_st K A s s.heap) (hA : ∀ q, fm_A K s.heap.size q → A q) :
    ∀ (n : Nat) (x1 : Int32) (x2 : Int32) (x3 : Int32) (σ : fm_S) (o1 : Int32) (o2 : Int32), mX4_spanOfEstimates_L25 n x1 x2 x3 σ = some (o1, o2) → (∀ (ls : Array Slot) (H : Heap) (locs : List Loc), lv_has ls 4 [(1, .int o1), (2, .int o2)] → fm_H K σ A s H locs → W p l e rmX4_spanOfEstimates s m args below meth c H locs 0 0 Q (F0 m 61 ls [])) → ∀ (ls : Array Slot) (H : Heap) (locs : List Loc), lv_has ls 4 [(0, .ref (K.2.2.2 0)), (1, .int x1), (2, .int x2), (3, .int x3)] → fm_H K σ A s H locs → W p l e rmX4_spanOfEstimates s m args below meth c H locs 0 0 Q (F0 m 25 ls []) := by
  obtain ⟨hx, hb, hml, hown, hts⟩ := id C
  intro n
  induction n with
  | zero => intro x1 x2 x3 σ o1 o2 h; simp [mX4_spanOfEstimates_L25] at h
  | succ n ih =>
    intro x1 x2 x3 σ o1 o2 h kk ls H locs hl hH
    rw [mX4_spanOfEstimates_L25] at h
    refine lv_iload_n hx hb dX4_spanOfEstimates_25 rfl (lv_at hl 3 rfl) ?_
    refine lv_aload_n hx hb dX4_spanOfEstimates_26 rfl (lv_at hl 0 rfl) ?_
    refine fm_getf (T := TX4) (N := 18) hx hb hts (fun _ h => List.mem_cons_of_mem _ (List.mem_append_right _ h)) hown hst.1 hH 0 (fm_inb (by decide)) rfl (fm_ob_0 _ _) rfl 10 (by decide) (List.mem_of_getElem? (i := 1) rfl) rfl rfl dX4_spanOfEstimates_27 ?_
    refine lv_icmp_ge (tgt := 61) hx hb dX4_spanOfEstimates_30 (by decide) (fun hc => ?_) (fun hc => ?_)
    · replace h := mi_pos hc h
      cases h
      exact kk _ _ _ (lv_sub hl [1, 2] rfl) hH
    · replace h := mi_neg hc h
      refine lv_iload_n hx hb dX4_spanOfEstimates_33 rfl (lv_at hl 1 rfl) ?_
      refine lv_aload_n hx hb dX4_spanOfEstimates_34 rfl (lv_at hl 0 rfl) ?_
      refine fm_getf (T := TX4) (N := 18) hx hb hts (fun _ h => List.mem_cons_of_mem _ (List.mem_append_right _ h)) hown hst.1 hH 0 (fm_inb (by decide)) rfl (fm_ob_0 _ _) rfl 4 (by decide) (List.mem_of_getElem? (i := 2) rfl) rfl rfl dX4_spanOfEstimates_35 ?_
      refine lv_iload_n hx hb dX4_spanOfEstimates_38 rfl (lv_at hl 3 rfl) ?_
      obtain ⟨hi2, h⟩ := mi_chk h
      refine fm_ild hx hb hst.1 hH 5 (fm_inb (by decide)) rfl rfl hi2 dX4_spanOfEstimates_39 ?_
      refine va_mmin hx hb (hml.trans hl.1.symm) hown (hts (.methodLink RX4 234 Lib.Math.min.name) (List.mem_of_getElem? (i := 3) rfl)) (hts (.static Lib.Math.min.name) (List.mem_of_getElem? (i := 4) rfl)) (hts (.initialized "java/lang/Math") (List.mem_of_getElem? (i := 5) rfl)) (hts (.code Lib.Math.min.name Lib.Math.min.code 2 (some .int)) (List.mem_of_getElem? (i := 6) rfl)) (Nat.le_of_ble_eq_true rfl) (Nat.le_of_ble_eq_true rfl) (Nat.le_of_ble_eq_true rfl) (Nat.le_of_ble_eq_true rfl) dX4_spanOfEstimates_40 ?_
      refine lv_istore_n (lv' := [(1, .int (if (rI σ 5 x3) < x1 then (rI σ 5 x3) else x1)), (0, .ref (K.2.2.2 0)), (2, .int x2), (3, .int x3)]) hx hb dX4_spanOfEstimates_43 rfl hl (by decide) rfl (fun ls hl => ?_)
      refine lv_iload_n hx hb dX4_spanOfEstimates_44 rfl (lv_at hl 2 rfl) ?_
      refine lv_aload_n hx hb dX4_spanOfEstimates_45 rfl (lv_at hl 1 rfl) ?_
      refine fm_getf (T := TX4) (N := 18) hx hb hts (fun _ h => List.mem_cons_of_mem _ (List.mem_append_right _ h)) hown hst.1 hH 0 (fm_inb (by decide)) rfl (fm_ob_0 _ _) rfl 4 (by decide) (List.mem_of_getElem? (i := 2) rfl) rfl rfl dX4_spanOfEstimates_46 ?_
      refine lv_iload_n hx hb dX4_spanOfEstimates_49 rfl (lv_at hl 3 rfl) ?_
      refine fm_ild hx hb hst.1 hH 5 (fm_inb (by decide)) rfl rfl hi2 dX4_spanOfEstimates_50 ?_
      refine va_mmax hx hb (hml.trans hl.1.symm) hown (hts (.methodLink RX4 231 Lib.Math.max.name) (List.mem_of_getElem? (i := 7) rfl)) (hts (.static Lib.Math.max.name) (List.mem_of_getElem? (i := 8) rfl)) (hts (.initialized "java/lang/Math") (List.mem_of_getElem? (i := 5) rfl)) (hts (.code Lib.Math.max.name Lib.Math.max.code 2 (some .int)) (List.mem_of_getElem? (i := 9) rfl)) (Nat.le_of_ble_eq_true rfl) (Nat.le_of_ble_eq_true rfl) (Nat.le_of_ble_eq_true rfl) (Nat.le_of_ble_eq_true rfl) dX4_spanOfEstimates_51 ?_
      refine lv_istore_n (lv' := [(2, .int (if x2 < (rI σ 5 x3) then (rI σ 5 x3) else x2)), (1, .int (if (rI σ 5 x3) < x1 then (rI σ 5 x3) else x1)), (0, .ref (K.2.2.2 0)), (3, .int x3)]) hx hb dX4_spanOfEstimates_54 rfl hl (by decide) rfl (fun ls hl => ?_)
      refine lv_iinc (v := (x3 + 1)) (lv' := [(3, .int (x3 + 1)), (2, .int (if x2 < (rI σ 5 x3) then (rI σ 5 x3) else x2)), (1, .int (if (rI σ 5 x3) < x1 then (rI σ 5 x3) else x1)), (0, .ref (K.2.2.2 0))]) hx hb dX4_spanOfEstimates_55 hl (k := 3) rfl rfl (by decide) rfl (fun ls hl => ?_)
      refine lv_goto (tgt := 25) hx hb dX4_spanOfEstimates_58 (by decide) ?_
      exact ih _ _ _ _ _ _ h kk _ _ _ (lv_sub hl [3, 2, 1, 0] rfl) hH
def mX4_spanOfEstimates (σ : fm_S) : Option Int32 :=
  if (σ.1 60 0) = 0 then
    some (0 : Int32)
  else
    if ((0 : Int32) < 0 ∨ 8 ≤ (0 : Int32).toNatClampNeg) then none else
    mb2 (mX4_spanOfEstimates_L25 fF (rI σ 5 (0 : Int32)) (rI σ 5 (0 : Int32)) (1 : Int32) σ) fun y25_1 y25_2 =>
    some (y25_2 - y25_1)
set_option maxHeartbeats 4000000 in
set_option maxRecDepth 100000 in
theorem kX4_spanOfEstimates (l : Launch) (K : fm_K) {σ : fm_S} {r : Int32} (h : mX4_spanOfEstimates σ = some r) : fm_CI l yX4_spanOfEstimates wsX4_spanOfEstimates rmX4_spanOfEstimates K [.ref (K.2.2.2 0)] σ r σ := by
  intro sz
  refine fm_start (Qc := fun sz => fm_QI K r σ sz) (cc := cX4_spanOfEstimates) (maxL := 4) (ret := (some .int)) (by decide) rfl (Nat.le_of_ble_eq_true rfl) ?_
  intro p e s m args below meth c C hr hlk hst hH ls hl
  have C : CallFix p m c cX4_spanOfEstimates 4 s args wsX4_spanOfEstimates RX4 := C
  obtain ⟨hx, hb, hml, hown, hts⟩ := id C
  have hA : ∀ q, fm_A K s.heap.size q → fm_A K s.heap.size q := fun _ h => h
  have hl : lv_has ls 4 [(0, .ref (K.2.2.2 0))] := hl
  generalize hQ : MQ below _ args s _ _ _ = Q
  rw [mX4_spanOfEstimates] at h
  refine lv_aload_n hx hb dX4_spanOfEstimates_0 rfl (lv_at hl 0 rfl) ?_
  refine fm_getf (T := TX4) (N := 18) hx hb hts (fun _ h => List.mem_cons_of_mem _ (List.mem_append_right _ h)) hown hst.1 hH 0 (fm_inb (by decide)) rfl (fm_ob_0 _ _) rfl 10 (by decide) (List.mem_of_getElem? (i := 1) rfl) rfl rfl dX4_spanOfEstimates_1 ?_
  refine lv_if_ne (tgt := 9) hx hb dX4_spanOfEstimates_4 (by decide) (fun hc => ?_) (fun hc => ?_)
  · replace h := mi_neg hc h
    refine lv_aload_n hx hb dX4_spanOfEstimates_9 rfl (lv_at hl 0 rfl) ?_
    refine fm_getf (T := TX4) (N := 18) hx hb hts (fun _ h => List.mem_cons_of_mem _ (List.mem_append_right _ h)) hown hst.1 hH 0 (fm_inb (by decide)) rfl (fm_ob_0 _ _) rfl 4 (by decide) (List.mem_of_getElem? (i := 2) rfl) rfl rfl dX4_spanOfEstimates_10 ?_
    refine lv_iconst (v := 0) hx hb dX4_spanOfEstimates_13 (by decide) ?_
    obtain ⟨hi1, h⟩ := mi_chk h
    refine fm_ild hx hb hst.1 hH 5 (fm_inb (by decide)) rfl rfl hi1 dX4_spanOfEstimates_14 ?_
    refine lv_istore_n (lv' := [(1, .int (rI σ 5 (0 : Int32))), (0, .ref (K.2.2.2 0))]) hx hb dX4_spanOfEstimates_15 rfl hl (by decide) rfl (fun ls hl => ?_)
    refine lv_aload_n hx hb dX4_spanOfEstimates_16 rfl (lv_at hl 1 rfl) ?_
    refine fm_getf (T := TX4) (N := 18) hx hb hts (fun _ h => List.mem_cons_of_mem _ (List.mem_append_right _ h)) hown hst.1 hH 0 (fm_inb (by decide)) rfl (fm_ob_0 _ _) rfl 4 (by decide) (List.mem_of_getElem? (i := 2) rfl) rfl rfl dX4_spanOfEstimates_17 ?_
    refine lv_iconst (v := 0) hx hb dX4_spanOfEstimates_20 (by decide) ?_
    refine fm_ild hx hb hst.1 hH 5 (fm_inb (by decide)) rfl rfl hi1 dX4_spanOfEstimates_21 ?_
    refine lv_istore_n (lv' := [(2, .int (rI σ 5 (0 : Int32))), (1, .int (rI σ 5 (0 : Int32))), (0, .ref (K.2.2.2 0))]) hx hb dX4_spanOfEstimates_22 rfl hl (by decide) rfl (fun ls hl => ?_)
    refine lv_iconst (v := 1) hx hb dX4_spanOfEstimates_23 (by decide) ?_
    refine lv_istore_n (lv' := [(3, .int (1 : Int32)), (2, .int (rI σ 5 (0 : Int32))), (1, .int (rI σ 5 (0 : Int32))), (0, .ref (K.2.2.2 0))]) hx hb dX4_spanOfEstimates_24 rfl hl (by decide) rfl (fun ls hl => ?_)
    obtain ⟨y25_1, y25_2, h25, h⟩ := mi_b2 h
    refine wX4_spanOfEstimates_L25 C hst hA _ _ _ _ _ _ _ h25 (fun ls H locs hl hH => ?_) _ _ _ (lv_sub hl [3, 2, 1, 0] rfl) hH
    refine lv_iload_n hx hb dX4_spanOfEstimates_61 rfl (lv_at hl 1 rfl) ?_
    refine lv_iload_n hx hb dX4_spanOfEstimates_62 rfl (lv_at hl 0 rfl) ?_
    refine lv_isub hx hb dX4_spanOfEstimates_63 ?_
    cases h
    subst hQ
    exact fm_iret hx hb hr hlk hst hH dX4_spanOfEstimates_64
  · replace h := mi_pos hc h
    refine lv_iconst (v := 0) hx hb dX4_spanOfEstimates_7 (by decide) ?_
    cases h
    subst hQ
    exact fm_iret hx hb hr hlk hst hH dX4_spanOfEstimates_8
/-! RX4.agree(I)I -/
abbrev rmX4_agree : Room := { frames := 4, cells := 0, slots := 0, locals := 87 }
def mX4_agree_L10 : Nat → Int32 → Int32 → fm_S → Option (fm_S)
  | 0, _, _, _ => none
  | n + 1, x1, x2, σ =>
    if x1 ≤ x2 then
      some σ
    else
      mb1 (mX4_exchangeEstimates σ) fun σ16 =>
      mX4_agree_L10 n x1 (x2 + 1) σ16
set_option maxHeartbeats 4000000 in
set_option maxRecDepth 100000 in
theorem wX4_agree_L10 {p : Program} {l : Launch} {e : Env} {s : State} {m : MethodId} {args : Array Value} {below : List Frame} {meth : Method} {c : Code} {Q : State → Prop} {K : fm_K} {A : Nat → Prop} (C : CallFix p m c cX4_agree 3 s args wsX4_agree RX4) (hst : fm_st K A s s.heap) (hA : ∀ q, fm_A K s.heap.size q → A q) :
    ∀ (n : Nat) (x1 : Int32) (x2 : Int32) (σ : fm_S) (σo : fm_S), mX4_agree_L10 n x1 x2 σ = some σo → (∀ (ls : Array Slot) (H : Heap) (locs : List Loc), lv_has ls 3 [(0, .ref (K.2.2.2 0))] → fm_H K σo A s H locs → W p l e rmX4_agree s m args below meth c H locs 0 0 Q (F0 m 25 ls [])) → ∀ (ls : Array Slot) (H : Heap) (locs : List Loc), lv_has ls 3 [(0, .ref (K.2.2.2 0)), (1, .int x1), (2, .int x2)] → fm_H K σ A s H locs → W p l e rmX4_agree s m args below meth c H locs 0 0 Q (F0 m 10 ls []) := by
  obtain ⟨hx, hb, hml, hown, hts⟩ := id C
  intro n
  induction n with
  | zero => intro x1 x2 σ σo h; simp [mX4_agree_L10] at h
  | succ n ih =>
    intro x1 x2 σ σo h kk ls H locs hl hH
    rw [mX4_agree_L10] at h
    refine lv_iload_n hx hb dX4_agree_10 rfl (lv_at hl 2 rfl) ?_
    refine lv_iload_n hx hb dX4_agree_11 rfl (lv_at hl 1 rfl) ?_
    refine lv_icmp_ge (tgt := 25) hx hb dX4_agree_12 (by decide) (fun hc => ?_) (fun hc => ?_)
    · replace h := mi_pos hc h
      cases h
      exact kk _ _ _ (lv_sub hl [0] rfl) hH
    · replace h := mi_neg hc h
      refine lv_aload_n hx hb dX4_agree_15 rfl (lv_at hl 0 rfl) ?_
      obtain ⟨σ16, h16, h⟩ := mi_b1 h
      refine fm_cv (va_runV (As := []) (rest := []) C (kX4_exchangeEstimates l K h16 _) (cwV 0 hts gX4_agree_X4_exchangeEstimates rfl rfl rfl (by decide +kernel) ⟨(Nat.le_of_ble_eq_true rfl), (Nat.le_of_ble_eq_true rfl)⟩) ⟨fm_blind, fm_recv hst hH (q := 0) (fm_inb (by decide)) rfl (fm_ob_0 _ _) rfl, fm_pre hst hA hH⟩ rfl rfl hl.1 rfl (lv_room (Nat.le_of_ble_eq_true rfl)) dX4_agree_16 ⟨(Nat.le_of_ble_eq_true rfl), (Nat.le_of_ble_eq_true rfl)⟩) hA hH (fun H locs hH => ?_)
      refine lv_iinc (v := (x2 + 1)) (lv' := [(2, .int (x2 + 1)), (0, .ref (K.2.2.2 0)), (1, .int x1)]) hx hb dX4_agree_19 hl (k := 2) rfl rfl (by decide) rfl (fun ls hl => ?_)
      refine lv_goto (tgt := 10) hx hb dX4_agree_22 (by decide) ?_
      exact ih _ _ _ _ h kk _ _ _ (lv_sub hl [1, 2, 0] rfl) hH
def mX4_agree (x1 : Int32) (σ : fm_S) : Option (Int32 × fm_S) :=
  mb1 (mX4_requireRounds x1 σ) fun σ1 =>
  mb1 (mX4_drawNet σ1) fun σ5 =>
  mb1 (mX4_agree_L10 fF x1 (0 : Int32) σ5) fun σ10 =>
  mb1 (mX4_spanOfEstimates σ10) fun r26 =>
  some (r26, σ10)
set_option maxHeartbeats 4000000 in
set_option maxRecDepth 100000 in
theorem kX4_agree (l : Launch) (K : fm_K) {x1 : Int32} {σ : fm_S} {r : Int32} {σ' : fm_S} (h : mX4_agree x1 σ = some (r, σ')) : fm_CI l yX4_agree wsX4_agree rmX4_agree K [.ref (K.2.2.2 0), .int x1] σ r σ' := by
  intro sz
  refine fm_start (Qc := fun sz => fm_QI K r σ' sz) (cc := cX4_agree) (maxL := 3) (ret := (some .int)) (by decide) rfl (Nat.le_of_ble_eq_true rfl) ?_
  intro p e s m args below meth c C hr hlk hst hH ls hl
  have C : CallFix p m c cX4_agree 3 s args wsX4_agree RX4 := C
  obtain ⟨hx, hb, hml, hown, hts⟩ := id C
  have hA : ∀ q, fm_A K s.heap.size q → fm_A K s.heap.size q := fun _ h => h
  have hl : lv_has ls 3 [(0, .ref (K.2.2.2 0)), (1, .int x1)] := hl
  generalize hQ : MQ below _ args s _ _ _ = Q
  rw [mX4_agree] at h
  refine lv_iload_n hx hb dX4_agree_0 rfl (lv_at hl 1 rfl) ?_
  obtain ⟨σ1, h1, h⟩ := mi_b1 h
  refine fm_cv (va_runS (As := [.int x1]) (rest := []) C (kX4_requireRounds l K h1 _) (va_cwS 1 hts gX4_agree_X4_requireRounds rfl rfl rfl (by decide +kernel) ⟨(Nat.le_of_ble_eq_true rfl), (Nat.le_of_ble_eq_true rfl)⟩) ⟨fm_blind, fm_pre hst hA hH⟩ rfl rfl hl.1 rfl (lv_room (Nat.le_of_ble_eq_true rfl)) dX4_agree_1 ⟨(Nat.le_of_ble_eq_true rfl), (Nat.le_of_ble_eq_true rfl)⟩) hA hH (fun H locs hH => ?_)
  refine lv_aload_n hx hb dX4_agree_4 rfl (lv_at hl 0 rfl) ?_
  obtain ⟨σ5, h5, h⟩ := mi_b1 h
  refine fm_cv (va_runV (As := []) (rest := []) C (kX4_drawNet l K h5 _) (cwV 0 hts gX4_agree_X4_drawNet rfl rfl rfl (by decide +kernel) ⟨(Nat.le_of_ble_eq_true rfl), (Nat.le_of_ble_eq_true rfl)⟩) ⟨fm_blind, fm_recv hst hH (q := 0) (fm_inb (by decide)) rfl (fm_ob_0 _ _) rfl, fm_pre hst hA hH⟩ rfl rfl hl.1 rfl (lv_room (Nat.le_of_ble_eq_true rfl)) dX4_agree_5 ⟨(Nat.le_of_ble_eq_true rfl), (Nat.le_of_ble_eq_true rfl)⟩) hA hH (fun H locs hH => ?_)
  refine lv_iconst (v := 0) hx hb dX4_agree_8 (by decide) ?_
  refine lv_istore_n (lv' := [(2, .int (0 : Int32)), (0, .ref (K.2.2.2 0)), (1, .int x1)]) hx hb dX4_agree_9 rfl hl (by decide) rfl (fun ls hl => ?_)
  obtain ⟨σ10, h10, h⟩ := mi_b1 h
  refine wX4_agree_L10 C hst hA _ _ _ _ _ h10 (fun ls H locs hl hH => ?_) _ _ _ (lv_sub hl [1, 2, 0] rfl) hH
  refine lv_aload_n hx hb dX4_agree_25 rfl (lv_at hl 0 rfl) ?_
  obtain ⟨r26, h26, h⟩ := mi_b1 h
  refine fm_ci (va_runV (As := []) (rest := []) C (kX4_spanOfEstimates l K h26 _) (cwV 0 hts gX4_agree_X4_spanOfEstimates rfl rfl rfl (by decide +kernel) ⟨(Nat.le_of_ble_eq_true rfl), (Nat.le_of_ble_eq_true rfl)⟩) ⟨fm_blind, fm_recv hst hH (q := 0) (fm_inb (by decide)) rfl (fm_ob_0 _ _) rfl, fm_pre hst hA hH⟩ rfl rfl hl.1 rfl (lv_room (Nat.le_of_ble_eq_true rfl)) dX4_agree_26 ⟨(Nat.le_of_ble_eq_true rfl), (Nat.le_of_ble_eq_true rfl)⟩) hA hH (fun H locs hH => ?_)
  cases h
  subst hQ
  exact fm_iret hx hb hr hlk hst hH dX4_agree_29
/-! RX4.setSum(II)I -/
abbrev rmX4_setSum : Room := { frames := 2, cells := 0, slots := 0, locals := 42 }
def mX4_setSum (x1 : Int32) (x2 : Int32) (σ : fm_S) : Option (Int32 × fm_S) :=
  mb1 (mX4_requireMember x1 σ) fun σ2 =>
  mb1 (mX4_requireValue x2 σ2) fun σ6 =>
  if (x1 < 0 ∨ 8 ≤ x1.toNatClampNeg) then none else
  some ((rI σ6 6 x1), (sI σ6 6 x1 x2))
set_option maxHeartbeats 4000000 in
set_option maxRecDepth 100000 in
theorem kX4_setSum (l : Launch) (K : fm_K) {x1 : Int32} {x2 : Int32} {σ : fm_S} {r : Int32} {σ' : fm_S} (h : mX4_setSum x1 x2 σ = some (r, σ')) : fm_CI l yX4_setSum wsX4_setSum rmX4_setSum K [.ref (K.2.2.2 0), .int x1, .int x2] σ r σ' := by
  intro sz
  refine fm_start (Qc := fun sz => fm_QI K r σ' sz) (cc := cX4_setSum) (maxL := 4) (ret := (some .int)) (by decide) rfl (Nat.le_of_ble_eq_true rfl) ?_
  intro p e s m args below meth c C hr hlk hst hH ls hl
  have C : CallFix p m c cX4_setSum 4 s args wsX4_setSum RX4 := C
  obtain ⟨hx, hb, hml, hown, hts⟩ := id C
  have hA : ∀ q, fm_A K s.heap.size q → fm_A K s.heap.size q := fun _ h => h
  have hl : lv_has ls 4 [(0, .ref (K.2.2.2 0)), (1, .int x1), (2, .int x2)] := hl
  generalize hQ : MQ below _ args s _ _ _ = Q
  rw [mX4_setSum] at h
  refine lv_aload_n hx hb dX4_setSum_0 rfl (lv_at hl 0 rfl) ?_
  refine lv_iload_n hx hb dX4_setSum_1 rfl (lv_at hl 1 rfl) ?_
  obtain ⟨σ2, h2, h⟩ := mi_b1 h
  refine fm_cv (va_runV (As := [.int x1]) (rest := []) C (kX4_requireMember l K h2 _) (cwV 1 hts gX4_setSum_X4_requireMember rfl rfl rfl (by decide +kernel) ⟨(Nat.le_of_ble_eq_true rfl), (Nat.le_of_ble_eq_true rfl)⟩) ⟨fm_blind, fm_recv hst hH (q := 0) (fm_inb (by decide)) rfl (fm_ob_0 _ _) rfl, fm_pre hst hA hH⟩ rfl rfl hl.1 rfl (lv_room (Nat.le_of_ble_eq_true rfl)) dX4_setSum_2 ⟨(Nat.le_of_ble_eq_true rfl), (Nat.le_of_ble_eq_true rfl)⟩) hA hH (fun H locs hH => ?_)
  refine lv_iload_n hx hb dX4_setSum_5 rfl (lv_at hl 2 rfl) ?_
  obtain ⟨σ6, h6, h⟩ := mi_b1 h
  refine fm_cv (va_runS (As := [.int x2]) (rest := []) C (kX4_requireValue l K h6 _) (va_cwS 1 hts gX4_setSum_X4_requireValue rfl rfl rfl (by decide +kernel) ⟨(Nat.le_of_ble_eq_true rfl), (Nat.le_of_ble_eq_true rfl)⟩) ⟨fm_blind, fm_pre hst hA hH⟩ rfl rfl hl.1 rfl (lv_room (Nat.le_of_ble_eq_true rfl)) dX4_setSum_6 ⟨(Nat.le_of_ble_eq_true rfl), (Nat.le_of_ble_eq_true rfl)⟩) hA hH (fun H locs hH => ?_)
  refine lv_aload_n hx hb dX4_setSum_9 rfl (lv_at hl 0 rfl) ?_
  refine fm_getf (T := TX4) (N := 18) hx hb hts (fun _ h => List.mem_cons_of_mem _ (List.mem_append_left _ (List.mem_append_left _ (List.mem_append_right _ h)))) hown hst.1 hH 0 (fm_inb (by decide)) rfl (fm_ob_0 _ _) rfl 5 (by decide) (List.mem_of_getElem? (i := 1) rfl) rfl rfl dX4_setSum_10 ?_
  refine lv_iload_n hx hb dX4_setSum_13 rfl (lv_at hl 1 rfl) ?_
  obtain ⟨hi1, h⟩ := mi_chk h
  refine fm_ild hx hb hst.1 hH 6 (fm_inb (by decide)) rfl rfl hi1 dX4_setSum_14 ?_
  refine lv_istore_n (lv' := [(3, .int (rI σ6 6 x1)), (0, .ref (K.2.2.2 0)), (1, .int x1), (2, .int x2)]) hx hb dX4_setSum_15 rfl hl (by decide) rfl (fun ls hl => ?_)
  refine lv_aload_n hx hb dX4_setSum_16 rfl (lv_at hl 1 rfl) ?_
  refine fm_getf (T := TX4) (N := 18) hx hb hts (fun _ h => List.mem_cons_of_mem _ (List.mem_append_left _ (List.mem_append_left _ (List.mem_append_right _ h)))) hown hst.1 hH 0 (fm_inb (by decide)) rfl (fm_ob_0 _ _) rfl 5 (by decide) (List.mem_of_getElem? (i := 1) rfl) rfl rfl dX4_setSum_17 ?_
  refine lv_iload_n hx hb dX4_setSum_20 rfl (lv_at hl 2 rfl) ?_
  refine lv_iload_n hx hb dX4_setSum_21 rfl (lv_at hl 3 rfl) ?_
  refine fm_ist hx hb hst.1 hH 6 (fm_inb (by decide)) rfl rfl hi1 dX4_setSum_22 (fun H locs hH => ?_)
  refine lv_iload_n hx hb dX4_setSum_23 rfl (lv_at hl 0 rfl) ?_
  cases h
  subst hQ
  exact fm_iret hx hb hr hlk hst hH dX4_setSum_24
/-! RX4.sum(I)I -/
abbrev rmX4_sum : Room := { frames := 1, cells := 0, slots := 0, locals := 21 }
def mX4_sum (x1 : Int32) (σ : fm_S) : Option (Int32 × fm_S) :=
  mb1 (mX4_requireMember x1 σ) fun σ2 =>
  if (x1 < 0 ∨ 8 ≤ x1.toNatClampNeg) then none else
  some ((rI σ2 6 x1), σ2)
set_option maxHeartbeats 4000000 in
set_option maxRecDepth 100000 in
theorem kX4_sum (l : Launch) (K : fm_K) {x1 : Int32} {σ : fm_S} {r : Int32} {σ' : fm_S} (h : mX4_sum x1 σ = some (r, σ')) : fm_CI l yX4_sum wsX4_sum rmX4_sum K [.ref (K.2.2.2 0), .int x1] σ r σ' := by
  intro sz
  refine fm_start (Qc := fun sz => fm_QI K r σ' sz) (cc := cX4_sum) (maxL := 2) (ret := (some .int)) (by decide) rfl (Nat.le_of_ble_eq_true rfl) ?_
  intro p e s m args below meth c C hr hlk hst hH ls hl
  have C : CallFix p m c cX4_sum 2 s args wsX4_sum RX4 := C
  obtain ⟨hx, hb, hml, hown, hts⟩ := id C
  have hA : ∀ q, fm_A K s.heap.size q → fm_A K s.heap.size q := fun _ h => h
  have hl : lv_has ls 2 [(0, .ref (K.2.2.2 0)), (1, .int x1)] := hl
  generalize hQ : MQ below _ args s _ _ _ = Q
  rw [mX4_sum] at h
  refine lv_aload_n hx hb dX4_sum_0 rfl (lv_at hl 0 rfl) ?_
  refine lv_iload_n hx hb dX4_sum_1 rfl (lv_at hl 1 rfl) ?_
  obtain ⟨σ2, h2, h⟩ := mi_b1 h
  refine fm_cv (va_runV (As := [.int x1]) (rest := []) C (kX4_requireMember l K h2 _) (cwV 1 hts gX4_sum_X4_requireMember rfl rfl rfl (by decide +kernel) ⟨(Nat.le_of_ble_eq_true rfl), (Nat.le_of_ble_eq_true rfl)⟩) ⟨fm_blind, fm_recv hst hH (q := 0) (fm_inb (by decide)) rfl (fm_ob_0 _ _) rfl, fm_pre hst hA hH⟩ rfl rfl hl.1 rfl (lv_room (Nat.le_of_ble_eq_true rfl)) dX4_sum_2 ⟨(Nat.le_of_ble_eq_true rfl), (Nat.le_of_ble_eq_true rfl)⟩) hA hH (fun H locs hH => ?_)
  refine lv_aload_n hx hb dX4_sum_5 rfl (lv_at hl 0 rfl) ?_
  refine fm_getf (T := TX4) (N := 18) hx hb hts (fun _ h => List.mem_cons_of_mem _ (List.mem_append_left _ (List.mem_append_right _ h))) hown hst.1 hH 0 (fm_inb (by decide)) rfl (fm_ob_0 _ _) rfl 5 (by decide) (List.mem_of_getElem? (i := 1) rfl) rfl rfl dX4_sum_6 ?_
  refine lv_iload_n hx hb dX4_sum_9 rfl (lv_at hl 1 rfl) ?_
  obtain ⟨hi1, h⟩ := mi_chk h
  refine fm_ild hx hb hst.1 hH 6 (fm_inb (by decide)) rfl rfl hi1 dX4_sum_10 ?_
  cases h
  subst hQ
  exact fm_iret hx hb hr hlk hst hH dX4_sum_11
/-! RX4.weight(I)I -/
abbrev rmX4_weight : Room := { frames := 1, cells := 0, slots := 0, locals := 21 }
def mX4_weight (x1 : Int32) (σ : fm_S) : Option (Int32 × fm_S) :=
  mb1 (mX4_requireMember x1 σ) fun σ2 =>
  if (x1 < 0 ∨ 8 ≤ x1.toNatClampNeg) then none else
  some ((rI σ2 7 x1), σ2)
set_option maxHeartbeats 4000000 in
set_option maxRecDepth 100000 in
theorem kX4_weight (l : Launch) (K : fm_K) {x1 : Int32} {σ : fm_S} {r : Int32} {σ' : fm_S} (h : mX4_weight x1 σ = some (r, σ')) : fm_CI l yX4_weight wsX4_weight rmX4_weight K [.ref (K.2.2.2 0), .int x1] σ r σ' := by
  intro sz
  refine fm_start (Qc := fun sz => fm_QI K r σ' sz) (cc := cX4_weight) (maxL := 2) (ret := (some .int)) (by decide) rfl (Nat.le_of_ble_eq_true rfl) ?_
  intro p e s m args below meth c C hr hlk hst hH ls hl
  have C : CallFix p m c cX4_weight 2 s args wsX4_weight RX4 := C
  obtain ⟨hx, hb, hml, hown, hts⟩ := id C
  have hA : ∀ q, fm_A K s.heap.size q → fm_A K s.heap.size q := fun _ h => h
  have hl : lv_has ls 2 [(0, .ref (K.2.2.2 0)), (1, .int x1)] := hl
  generalize hQ : MQ below _ args s _ _ _ = Q
  rw [mX4_weight] at h
  refine lv_aload_n hx hb dX4_weight_0 rfl (lv_at hl 0 rfl) ?_
  refine lv_iload_n hx hb dX4_weight_1 rfl (lv_at hl 1 rfl) ?_
  obtain ⟨σ2, h2, h⟩ := mi_b1 h
  refine fm_cv (va_runV (As := [.int x1]) (rest := []) C (kX4_requireMember l K h2 _) (cwV 1 hts gX4_weight_X4_requireMember rfl rfl rfl (by decide +kernel) ⟨(Nat.le_of_ble_eq_true rfl), (Nat.le_of_ble_eq_true rfl)⟩) ⟨fm_blind, fm_recv hst hH (q := 0) (fm_inb (by decide)) rfl (fm_ob_0 _ _) rfl, fm_pre hst hA hH⟩ rfl rfl hl.1 rfl (lv_room (Nat.le_of_ble_eq_true rfl)) dX4_weight_2 ⟨(Nat.le_of_ble_eq_true rfl), (Nat.le_of_ble_eq_true rfl)⟩) hA hH (fun H locs hH => ?_)
  refine lv_aload_n hx hb dX4_weight_5 rfl (lv_at hl 0 rfl) ?_
  refine fm_getf (T := TX4) (N := 18) hx hb hts (fun _ h => List.mem_cons_of_mem _ (List.mem_append_left _ (List.mem_append_right _ h))) hown hst.1 hH 0 (fm_inb (by decide)) rfl (fm_ob_0 _ _) rfl 6 (by decide) (List.mem_of_getElem? (i := 1) rfl) rfl rfl dX4_weight_6 ?_
  refine lv_iload_n hx hb dX4_weight_9 rfl (lv_at hl 1 rfl) ?_
  obtain ⟨hi1, h⟩ := mi_chk h
  refine fm_ild hx hb hst.1 hH 7 (fm_inb (by decide)) rfl rfl hi1 dX4_weight_10 ?_
  cases h
  subst hQ
  exact fm_iret hx hb hr hlk hst hH dX4_weight_11
/-! RX4.nextReceiver(I)I -/
abbrev rmX4_nextReceiver : Room := { frames := 2, cells := 0, slots := 0, locals := 43 }
def mX4_nextReceiver_L4 : Nat → Int32 → Int32 → Int32 → fm_S → Option (Except Int32 (Int32))
  | 0, _, _, _, _ => none
  | n + 1, x1, x2, x3, σ =>
    if (σ.1 60 0) ≤ x3 then
      some (.ok x2)
    else
      mb1 (mX1_joins20 x1 x3 σ) fun r18 =>
      if r18 = 0 then
        mX4_nextReceiver_L4 n x1 x2 (x3 + 1) σ
      else
        if (x1 < 0 ∨ 8 ≤ x1.toNatClampNeg) then none else
        if x3 ≤ (rI σ 8 x1) then
          if x2 = (-1 : Int32) then
            mX4_nextReceiver_L4 n x1 x3 (x3 + 1) σ
          else
            mX4_nextReceiver_L4 n x1 x2 (x3 + 1) σ
        else
          some (.error x3)
set_option maxHeartbeats 4000000 in
set_option maxRecDepth 100000 in
theorem wX4_nextReceiver_L4 {p : Program} {l : Launch} {e : Env} {s : State} {m : MethodId} {args : Array Value} {below : List Frame} {meth : Method} {c : Code} {Q : State → Prop} {K : fm_K} {A : Nat → Prop} (C : CallFix p m c cX4_nextReceiver 4 s args wsX4_nextReceiver RX4) (hst : fm_st K A s s.heap) (hA : ∀ q, fm_A K s.heap.size q → A q) :
    ∀ (n : Nat) (x1 : Int32) (x2 : Int32) (x3 : Int32) (σ : fm_S) (x : Except Int32 (Int32)), mX4_nextReceiver_L4 n x1 x2 x3 σ = some x → (∀ (o2 : Int32), x = .ok o2 → ∀ (ls : Array Slot) (H : Heap) (locs : List Loc), lv_has ls 4 [(2, .int o2)] → fm_H K σ A s H locs → W p l e rmX4_nextReceiver s m args below meth c H locs 0 0 Q (F0 m 49 ls [])) → (∀ (ve : Int32), x = .error ve → ∀ (pcR : Nat) (ls : Array Slot) (H : Heap) (locs : List Loc), decode cX4_nextReceiver pcR = .ok (.ireturn, 1) → fm_H K σ A s H locs → W p l e rmX4_nextReceiver s m args below meth c H locs 0 0 Q (F0 m pcR ls [.int ve])) → ∀ (ls : Array Slot) (H : Heap) (locs : List Loc), lv_has ls 4 [(0, .ref (K.2.2.2 0)), (1, .int x1), (2, .int x2), (3, .int x3)] → fm_H K σ A s H locs → W p l e rmX4_nextReceiver s m args below meth c H locs 0 0 Q (F0 m 4 ls []) := by
  obtain ⟨hx, hb, hml, hown, hts⟩ := id C
  intro n
  induction n with
  | zero => intro x1 x2 x3 σ x h; simp [mX4_nextReceiver_L4] at h
  | succ n ih =>
    intro x1 x2 x3 σ x h kk kr ls H locs hl hH
    rw [mX4_nextReceiver_L4] at h
    refine lv_iload_n hx hb dX4_nextReceiver_4 rfl (lv_at hl 3 rfl) ?_
    refine lv_aload_n hx hb dX4_nextReceiver_5 rfl (lv_at hl 0 rfl) ?_
    refine fm_getf (T := TX4) (N := 18) hx hb hts (fun _ h => List.mem_cons_of_mem _ (List.mem_append_left _ (List.mem_append_right _ h))) hown hst.1 hH 0 (fm_inb (by decide)) rfl (fm_ob_0 _ _) rfl 10 (by decide) (List.mem_of_getElem? (i := 1) rfl) rfl rfl dX4_nextReceiver_6 ?_
    refine lv_icmp_ge (tgt := 49) hx hb dX4_nextReceiver_9 (by decide) (fun hc => ?_) (fun hc => ?_)
    · replace h := mi_pos hc h
      cases h
      exact kk _ rfl _ _ _ (lv_sub hl [2] rfl) hH
    · replace h := mi_neg hc h
      refine lv_aload_n hx hb dX4_nextReceiver_12 rfl (lv_at hl 0 rfl) ?_
      refine fm_getf (T := TX4) (N := 18) hx hb hts (fun _ h => List.mem_cons_of_mem _ (List.mem_append_left _ (List.mem_append_right _ h))) hown hst.1 hH 0 (fm_inb (by decide)) rfl (fm_ob_0 _ _) rfl 12 (by decide) (List.mem_of_getElem? (i := 2) rfl) rfl rfl dX4_nextReceiver_13 ?_
      refine lv_iload_n hx hb dX4_nextReceiver_16 rfl (lv_at hl 1 rfl) ?_
      refine lv_iload_n hx hb dX4_nextReceiver_17 rfl (lv_at hl 3 rfl) ?_
      obtain ⟨r18, h18, h⟩ := mi_b1 h
      refine fm_ci (va_runVN (As := [.int x1, .int x3]) (rest := []) C (kX1_joins20 l K h18 _) ⟨va_cnB 2 hts gX4_nextReceiver_X1_joins_n112 rfl rfl rfl (hst.2.1 (RX4, 112, yX1_joins) (List.mem_of_getElem? (i := 1) rfl)) (hts (.initialized RX1) (List.mem_of_getElem? (i := 5) rfl)) (by decide +kernel) ⟨(Nat.le_of_ble_eq_true rfl), (Nat.le_of_ble_eq_true rfl)⟩, (hts (.instanceMethod yX1_joins) (List.mem_of_getElem? (i := 4) rfl)), (hts (.selects RX1 yX1_joins yX1_joins) (List.mem_of_getElem? (i := 6) rfl))⟩ ⟨fm_blind, fm_recv hst hH (q := 20) (fm_inb (by decide)) rfl (fm_ob_20 _ _) rfl, fm_pre hst hA hH⟩ rfl rfl hl.1 rfl (lv_room (Nat.le_of_ble_eq_true rfl)) dX4_nextReceiver_18 ⟨(Nat.le_of_ble_eq_true rfl), (Nat.le_of_ble_eq_true rfl)⟩) hA hH (fun H locs hH => ?_)
      refine lv_if_eq (tgt := 43) hx hb dX4_nextReceiver_21 (by decide) (fun hc => ?_) (fun hc => ?_)
      · replace h := mi_pos hc h
        refine lv_iinc (v := (x3 + 1)) (lv' := [(3, .int (x3 + 1)), (0, .ref (K.2.2.2 0)), (1, .int x1), (2, .int x2)]) hx hb dX4_nextReceiver_43 hl (k := 3) rfl rfl (by decide) rfl (fun ls hl => ?_)
        refine lv_goto (tgt := 4) hx hb dX4_nextReceiver_46 (by decide) ?_
        exact ih _ _ _ _ _ h kk kr _ _ _ (lv_sub hl [1, 2, 3, 0] rfl) hH
      · replace h := mi_neg hc h
        refine lv_iload_n hx hb dX4_nextReceiver_24 rfl (lv_at hl 3 rfl) ?_
        refine lv_aload_n hx hb dX4_nextReceiver_25 rfl (lv_at hl 0 rfl) ?_
        refine fm_getf (T := TX4) (N := 18) hx hb hts (fun _ h => List.mem_cons_of_mem _ (List.mem_append_left _ (List.mem_append_right _ h))) hown hst.1 hH 0 (fm_inb (by decide)) rfl (fm_ob_0 _ _) rfl 7 (by decide) (List.mem_of_getElem? (i := 3) rfl) rfl rfl dX4_nextReceiver_26 ?_
        refine lv_iload_n hx hb dX4_nextReceiver_29 rfl (lv_at hl 1 rfl) ?_
        obtain ⟨hi1, h⟩ := mi_chk h
        refine fm_ild hx hb hst.1 hH 8 (fm_inb (by decide)) rfl rfl hi1 dX4_nextReceiver_30 ?_
        refine lv_icmp_le (tgt := 36) hx hb dX4_nextReceiver_31 (by decide) (fun hc => ?_) (fun hc => ?_)
        · replace h := mi_pos hc h
          refine lv_iload_n hx hb dX4_nextReceiver_36 rfl (lv_at hl 2 rfl) ?_
          refine lv_iconst (v := -1) hx hb dX4_nextReceiver_37 (by decide) ?_
          refine lv_icmp_ne (tgt := 43) hx hb dX4_nextReceiver_38 (by decide) (fun hc => ?_) (fun hc => ?_)
          · replace h := mi_neg hc h
            refine lv_iinc (v := (x3 + 1)) (lv' := [(3, .int (x3 + 1)), (0, .ref (K.2.2.2 0)), (1, .int x1), (2, .int x2)]) hx hb dX4_nextReceiver_43 hl (k := 3) rfl rfl (by decide) rfl (fun ls hl => ?_)
            refine lv_goto (tgt := 4) hx hb dX4_nextReceiver_46 (by decide) ?_
            exact ih _ _ _ _ _ h kk kr _ _ _ (lv_sub hl [1, 2, 3, 0] rfl) hH
          · replace h := mi_pos hc h
            refine lv_iload_n hx hb dX4_nextReceiver_41 rfl (lv_at hl 3 rfl) ?_
            refine lv_istore_n (lv' := [(2, .int x3), (0, .ref (K.2.2.2 0)), (1, .int x1), (3, .int x3)]) hx hb dX4_nextReceiver_42 rfl hl (by decide) rfl (fun ls hl => ?_)
            refine lv_iinc (v := (x3 + 1)) (lv' := [(3, .int (x3 + 1)), (2, .int x3), (0, .ref (K.2.2.2 0)), (1, .int x1)]) hx hb dX4_nextReceiver_43 hl (k := 3) rfl rfl (by decide) rfl (fun ls hl => ?_)
            refine lv_goto (tgt := 4) hx hb dX4_nextReceiver_46 (by decide) ?_
            exact ih _ _ _ _ _ h kk kr _ _ _ (lv_sub hl [2, 3, 1, 0] rfl) hH
        · replace h := mi_neg hc h
          refine lv_iload_n hx hb dX4_nextReceiver_34 rfl (lv_at hl 3 rfl) ?_
          cases h
          exact kr _ rfl _ _ _ _ dX4_nextReceiver_35 hH
def mX4_nextReceiver (x1 : Int32) (σ : fm_S) : Option Int32 :=
  ml1 (mX4_nextReceiver_L4 fF x1 (-1 : Int32) (0 : Int32) σ) (fun y4_2 =>
    some y4_2) (fun e => some e)
set_option maxHeartbeats 4000000 in
set_option maxRecDepth 100000 in
theorem kX4_nextReceiver (l : Launch) (K : fm_K) {x1 : Int32} {σ : fm_S} {r : Int32} (h : mX4_nextReceiver x1 σ = some r) : fm_CI l yX4_nextReceiver wsX4_nextReceiver rmX4_nextReceiver K [.ref (K.2.2.2 0), .int x1] σ r σ := by
  intro sz
  refine fm_start (Qc := fun sz => fm_QI K r σ sz) (cc := cX4_nextReceiver) (maxL := 4) (ret := (some .int)) (by decide) rfl (Nat.le_of_ble_eq_true rfl) ?_
  intro p e s m args below meth c C hr hlk hst hH ls hl
  have C : CallFix p m c cX4_nextReceiver 4 s args wsX4_nextReceiver RX4 := C
  obtain ⟨hx, hb, hml, hown, hts⟩ := id C
  have hA : ∀ q, fm_A K s.heap.size q → fm_A K s.heap.size q := fun _ h => h
  have hl : lv_has ls 4 [(0, .ref (K.2.2.2 0)), (1, .int x1)] := hl
  generalize hQ : MQ below _ args s _ _ _ = Q
  rw [mX4_nextReceiver] at h
  refine lv_iconst (v := -1) hx hb dX4_nextReceiver_0 (by decide) ?_
  refine lv_istore_n (lv' := [(2, .int (-1 : Int32)), (0, .ref (K.2.2.2 0)), (1, .int x1)]) hx hb dX4_nextReceiver_1 rfl hl (by decide) rfl (fun ls hl => ?_)
  refine lv_iconst (v := 0) hx hb dX4_nextReceiver_2 (by decide) ?_
  refine lv_istore_n (lv' := [(3, .int (0 : Int32)), (2, .int (-1 : Int32)), (0, .ref (K.2.2.2 0)), (1, .int x1)]) hx hb dX4_nextReceiver_3 rfl hl (by decide) rfl (fun ls hl => ?_)
  obtain ⟨x4_, h4, hok, her⟩ := mi_l1 h
  refine wX4_nextReceiver_L4 C hst hA _ _ _ _ _ _ h4 (fun y4_2 hx1 ls H locs hl hH => ?_) (fun ve hx1 pcR ls H locs hdg hH => ?_) _ _ _ (lv_sub hl [2, 3, 1, 0] rfl) hH
  · replace h := hok _ hx1
    clear hok her
    refine lv_iload_n hx hb dX4_nextReceiver_49 rfl (lv_at hl 0 rfl) ?_
    cases h
    subst hQ
    exact fm_iret hx hb hr hlk hst hH dX4_nextReceiver_50
  · replace h := her _ hx1
    cases h
    subst hQ
    exact fm_iret hx hb hr hlk hst hH hdg
/-! RX4.handOver(III[I)V -/
abbrev rmX4_handOver : Room := { frames := 0, cells := 0, slots := 0, locals := 0 }
def mX4_handOver (q3 : Nat) (x0 : Int32) (x1 : Int32) (x2 : Int32) (σ : fm_S) : Option fm_S :=
  if (x1 < 0 ∨ (fm_len q3) ≤ x1.toNatClampNeg) then none else
  if (x2 < 0 ∨ (fm_len q3) ≤ x2.toNatClampNeg) then none else
  some (sI (sI σ q3 x1 ((rI σ q3 x1) - x0)) q3 x2 ((rI (sI σ q3 x1 ((rI σ q3 x1) - x0)) q3 x2) + x0))
set_option maxHeartbeats 4000000 in
set_option maxRecDepth 100000 in
theorem kX4_handOver (l : Launch) (K : fm_K) {q3 : Nat} (hq3 : fm_in K q3) (ht3 : fm_ty q3 = 1) {x0 : Int32} {x1 : Int32} {x2 : Int32} {σ : fm_S} {σ' : fm_S} (h : mX4_handOver q3 x0 x1 x2 σ = some σ') : fm_CV l yX4_handOver wsX4_handOver rmX4_handOver K [.int x0, .int x1, .int x2, .ref (K.2.2.2 q3)] σ σ' := by
  intro sz
  refine fm_start (Qc := fun sz => fm_QV K σ' sz) (cc := cX4_handOver) (maxL := 4) (ret := none) (by decide) rfl (Nat.le_of_ble_eq_true rfl) ?_
  intro p e s m args below meth c C hr hlk hst hH ls hl
  have C : CallFix p m c cX4_handOver 4 s args wsX4_handOver RX4 := C
  obtain ⟨hx, hb, hml, hown, hts⟩ := id C
  have hA : ∀ q, fm_A K s.heap.size q → fm_A K s.heap.size q := fun _ h => h
  have hl : lv_has ls 4 [(0, .int x0), (1, .int x1), (2, .int x2), (3, .ref (K.2.2.2 q3))] := hl
  generalize hQ : MQ below _ args s _ _ _ = Q
  rw [mX4_handOver] at h
  refine lv_aload_n hx hb dX4_handOver_0 rfl (lv_at hl 3 rfl) ?_
  refine lv_iload_n hx hb dX4_handOver_1 rfl (lv_at hl 1 rfl) ?_
  refine lv_dup2_11 hx hb dX4_handOver_2 rfl rfl ?_
  obtain ⟨hi1, h⟩ := mi_chk h
  refine fm_ild hx hb hst.1 hH q3 hq3 ht3 rfl hi1 dX4_handOver_3 ?_
  refine lv_iload_n hx hb dX4_handOver_4 rfl (lv_at hl 0 rfl) ?_
  refine lv_isub hx hb dX4_handOver_5 ?_
  refine fm_ist hx hb hst.1 hH q3 hq3 ht3 rfl hi1 dX4_handOver_6 (fun H locs hH => ?_)
  refine lv_aload_n hx hb dX4_handOver_7 rfl (lv_at hl 3 rfl) ?_
  refine lv_iload_n hx hb dX4_handOver_8 rfl (lv_at hl 2 rfl) ?_
  refine lv_dup2_11 hx hb dX4_handOver_9 rfl rfl ?_
  obtain ⟨hi2, h⟩ := mi_chk h
  refine fm_ild hx hb hst.1 hH q3 hq3 ht3 rfl hi2 dX4_handOver_10 ?_
  refine lv_iload_n hx hb dX4_handOver_11 rfl (lv_at hl 0 rfl) ?_
  refine lv_iadd hx hb dX4_handOver_12 ?_
  refine fm_ist hx hb hst.1 hH q3 hq3 ht3 rfl hi2 dX4_handOver_13 (fun H locs hH => ?_)
  cases h
  subst hQ
  exact fm_vret hx hb hr hlk hst hH dX4_handOver_14
/-! RX4.handHalves()I -/
abbrev rmX4_handHalves : Room := { frames := 3, cells := 0, slots := 0, locals := 66 }
def mX4_handHalves_L20 : Nat → Int32 → Int32 → fm_S → Option (Int32 × fm_S)
  | 0, _, _, _ => none
  | n + 1, x1, x2, σ =>
    if (σ.1 60 0) ≤ x2 then
      some (x1, σ)
    else
      mb1 (mX4_nextReceiver x2 σ) fun r30 =>
      if r30 < 0 then
        mX4_handHalves_L20 n x1 (x2 + 1) σ
      else
        if (x2 < 0 ∨ 8 ≤ x2.toNatClampNeg) then none else
        mb1 (mX4_handOver 22 ((rI σ 6 x2) / (2 : Int32)) x2 r30 σ) fun σ52 =>
        mb1 (mX4_handOver 23 ((rI σ52 7 x2) / (2 : Int32)) x2 r30 σ52) fun σ69 =>
        mX4_handHalves_L20 n (x1 + 1) (x2 + 1) (sI σ69 8 x2 r30)
set_option maxHeartbeats 4000000 in
set_option maxRecDepth 100000 in
theorem wX4_handHalves_L20 {p : Program} {l : Launch} {e : Env} {s : State} {m : MethodId} {args : Array Value} {below : List Frame} {meth : Method} {c : Code} {Q : State → Prop} {K : fm_K} {A : Nat → Prop} (C : CallFix p m c cX4_handHalves 4 s args wsX4_handHalves RX4) (hst : fm_st K A s s.heap) (hA : ∀ q, fm_A K s.heap.size q → A q) :
    ∀ (n : Nat) (x1 : Int32) (x2 : Int32) (σ : fm_S) (o1 : Int32) (σo : fm_S), mX4_handHalves_L20 n x1 x2 σ = some (o1, σo) → (∀ (ls : Array Slot) (H : Heap) (locs : List Loc), lv_has ls 4 [(0, .ref (K.2.2.2 0)), (1, .int o1)] → fm_H K σo A s H locs → W p l e rmX4_handHalves s m args below meth c H locs 0 0 Q (F0 m 88 ls [])) → ∀ (ls : Array Slot) (H : Heap) (locs : List Loc), lv_has ls 4 [(0, .ref (K.2.2.2 0)), (1, .int x1), (2, .int x2)] → fm_H K σ A s H locs → W p l e rmX4_handHalves s m args below meth c H locs 0 0 Q (F0 m 20 ls []) := by
  obtain ⟨hx, hb, hml, hown, hts⟩ := id C
  intro n
  induction n with
  | zero => intro x1 x2 σ o1 σo h; simp [mX4_handHalves_L20] at h
  | succ n ih =>
    intro x1 x2 σ o1 σo h kk ls H locs hl hH
    rw [mX4_handHalves_L20] at h
    refine lv_iload_n hx hb dX4_handHalves_20 rfl (lv_at hl 2 rfl) ?_
    refine lv_aload_n hx hb dX4_handHalves_21 rfl (lv_at hl 0 rfl) ?_
    refine fm_getf (T := TX4) (N := 18) hx hb hts (fun _ h => List.mem_cons_of_mem _ (List.mem_append_left _ (List.mem_append_right _ h))) hown hst.1 hH 0 (fm_inb (by decide)) rfl (fm_ob_0 _ _) rfl 10 (by decide) (List.mem_of_getElem? (i := 3) rfl) rfl rfl dX4_handHalves_22 ?_
    refine lv_icmp_ge (tgt := 88) hx hb dX4_handHalves_25 (by decide) (fun hc => ?_) (fun hc => ?_)
    · replace h := mi_pos hc h
      cases h
      exact kk _ _ _ (lv_sub hl [0, 1] rfl) hH
    · replace h := mi_neg hc h
      refine lv_aload_n hx hb dX4_handHalves_28 rfl (lv_at hl 0 rfl) ?_
      refine lv_iload_n hx hb dX4_handHalves_29 rfl (lv_at hl 2 rfl) ?_
      obtain ⟨r30, h30, h⟩ := mi_b1 h
      refine fm_ci (va_runV (As := [.int x2]) (rest := []) C (kX4_nextReceiver l K h30 _) (cwV 1 hts gX4_handHalves_X4_nextReceiver rfl rfl rfl (by decide +kernel) ⟨(Nat.le_of_ble_eq_true rfl), (Nat.le_of_ble_eq_true rfl)⟩) ⟨fm_blind, fm_recv hst hH (q := 0) (fm_inb (by decide)) rfl (fm_ob_0 _ _) rfl, fm_pre hst hA hH⟩ rfl rfl hl.1 rfl (lv_room (Nat.le_of_ble_eq_true rfl)) dX4_handHalves_30 ⟨(Nat.le_of_ble_eq_true rfl), (Nat.le_of_ble_eq_true rfl)⟩) hA hH (fun H locs hH => ?_)
      refine lv_istore_n (lv' := [(3, .int r30), (0, .ref (K.2.2.2 0)), (1, .int x1), (2, .int x2)]) hx hb dX4_handHalves_33 rfl hl (by decide) rfl (fun ls hl => ?_)
      refine lv_iload_n hx hb dX4_handHalves_34 rfl (lv_at hl 0 rfl) ?_
      refine lv_if_lt (tgt := 82) hx hb dX4_handHalves_35 (by decide) (fun hc => ?_) (fun hc => ?_)
      · replace h := mi_pos hc h
        refine lv_iinc (v := (x2 + 1)) (lv' := [(2, .int (x2 + 1)), (3, .int r30), (0, .ref (K.2.2.2 0)), (1, .int x1)]) hx hb dX4_handHalves_82 hl (k := 3) rfl rfl (by decide) rfl (fun ls hl => ?_)
        refine lv_goto (tgt := 20) hx hb dX4_handHalves_85 (by decide) ?_
        exact ih _ _ _ _ _ h kk _ _ _ (lv_sub hl [2, 3, 0] rfl) hH
      · replace h := mi_neg hc h
        refine lv_aload_n hx hb dX4_handHalves_38 rfl (lv_at hl 1 rfl) ?_
        refine fm_getf (T := TX4) (N := 18) hx hb hts (fun _ h => List.mem_cons_of_mem _ (List.mem_append_left _ (List.mem_append_right _ h))) hown hst.1 hH 0 (fm_inb (by decide)) rfl (fm_ob_0 _ _) rfl 5 (by decide) (List.mem_of_getElem? (i := 4) rfl) rfl rfl dX4_handHalves_39 ?_
        refine lv_iload_n hx hb dX4_handHalves_42 rfl (lv_at hl 3 rfl) ?_
        obtain ⟨hi1, h⟩ := mi_chk h
        refine fm_ild hx hb hst.1 hH 6 (fm_inb (by decide)) rfl rfl hi1 dX4_handHalves_43 ?_
        refine lv_iconst (v := 2) hx hb dX4_handHalves_44 (by decide) ?_
        refine lv_idiv hx hb dX4_handHalves_45 (by decide) ?_
        refine lv_iload_n hx hb dX4_handHalves_46 rfl (lv_at hl 3 rfl) ?_
        refine lv_iload_n hx hb dX4_handHalves_47 rfl (lv_at hl 0 rfl) ?_
        refine lv_aload_n hx hb dX4_handHalves_48 rfl (lv_at hl 1 rfl) ?_
        refine fm_getf (T := TX4) (N := 18) hx hb hts (fun _ h => List.mem_cons_of_mem _ (List.mem_append_left _ (List.mem_append_right _ h))) hown hst.1 hH 0 (fm_inb (by decide)) rfl (fm_ob_0 _ _) rfl 13 (by decide) (List.mem_of_getElem? (i := 1) rfl) rfl rfl dX4_handHalves_49 ?_
        obtain ⟨σ52, h52, h⟩ := mi_b1 h
        refine fm_cv (va_runS (As := [.int ((rI σ 6 x2) / (2 : Int32)), .int x2, .int r30, .ref (K.2.2.2 22)]) (rest := []) C (kX4_handOver l K (fm_inb (by decide)) rfl h52 _) (va_cwS 4 hts gX4_handHalves_X4_handOver rfl rfl rfl (by decide +kernel) ⟨(Nat.le_of_ble_eq_true rfl), (Nat.le_of_ble_eq_true rfl)⟩) ⟨fm_blind, fm_pre hst hA hH⟩ rfl rfl hl.1 rfl (lv_room (Nat.le_of_ble_eq_true rfl)) dX4_handHalves_52 ⟨(Nat.le_of_ble_eq_true rfl), (Nat.le_of_ble_eq_true rfl)⟩) hA hH (fun H locs hH => ?_)
        refine lv_aload_n hx hb dX4_handHalves_55 rfl (lv_at hl 1 rfl) ?_
        refine fm_getf (T := TX4) (N := 18) hx hb hts (fun _ h => List.mem_cons_of_mem _ (List.mem_append_left _ (List.mem_append_right _ h))) hown hst.1 hH 0 (fm_inb (by decide)) rfl (fm_ob_0 _ _) rfl 6 (by decide) (List.mem_of_getElem? (i := 5) rfl) rfl rfl dX4_handHalves_56 ?_
        refine lv_iload_n hx hb dX4_handHalves_59 rfl (lv_at hl 3 rfl) ?_
        refine fm_ild hx hb hst.1 hH 7 (fm_inb (by decide)) rfl rfl hi1 dX4_handHalves_60 ?_
        refine lv_iconst (v := 2) hx hb dX4_handHalves_61 (by decide) ?_
        refine lv_idiv hx hb dX4_handHalves_62 (by decide) ?_
        refine lv_iload_n hx hb dX4_handHalves_63 rfl (lv_at hl 3 rfl) ?_
        refine lv_iload_n hx hb dX4_handHalves_64 rfl (lv_at hl 0 rfl) ?_
        refine lv_aload_n hx hb dX4_handHalves_65 rfl (lv_at hl 1 rfl) ?_
        refine fm_getf (T := TX4) (N := 18) hx hb hts (fun _ h => List.mem_cons_of_mem _ (List.mem_append_left _ (List.mem_append_right _ h))) hown hst.1 hH 0 (fm_inb (by decide)) rfl (fm_ob_0 _ _) rfl 14 (by decide) (List.mem_of_getElem? (i := 2) rfl) rfl rfl dX4_handHalves_66 ?_
        obtain ⟨σ69, h69, h⟩ := mi_b1 h
        refine fm_cv (va_runS (As := [.int ((rI σ52 7 x2) / (2 : Int32)), .int x2, .int r30, .ref (K.2.2.2 23)]) (rest := []) C (kX4_handOver l K (fm_inb (by decide)) rfl h69 _) (va_cwS 4 hts gX4_handHalves_X4_handOver rfl rfl rfl (by decide +kernel) ⟨(Nat.le_of_ble_eq_true rfl), (Nat.le_of_ble_eq_true rfl)⟩) ⟨fm_blind, fm_pre hst hA hH⟩ rfl rfl hl.1 rfl (lv_room (Nat.le_of_ble_eq_true rfl)) dX4_handHalves_69 ⟨(Nat.le_of_ble_eq_true rfl), (Nat.le_of_ble_eq_true rfl)⟩) hA hH (fun H locs hH => ?_)
        refine lv_aload_n hx hb dX4_handHalves_72 rfl (lv_at hl 1 rfl) ?_
        refine fm_getf (T := TX4) (N := 18) hx hb hts (fun _ h => List.mem_cons_of_mem _ (List.mem_append_left _ (List.mem_append_right _ h))) hown hst.1 hH 0 (fm_inb (by decide)) rfl (fm_ob_0 _ _) rfl 7 (by decide) (List.mem_of_getElem? (i := 6) rfl) rfl rfl dX4_handHalves_73 ?_
        refine lv_iload_n hx hb dX4_handHalves_76 rfl (lv_at hl 3 rfl) ?_
        refine lv_iload_n hx hb dX4_handHalves_77 rfl (lv_at hl 0 rfl) ?_
        refine fm_ist hx hb hst.1 hH 8 (fm_inb (by decide)) rfl rfl hi1 dX4_handHalves_78 (fun H locs hH => ?_)
        refine lv_iinc (v := (x1 + 1)) (lv' := [(1, .int (x1 + 1)), (3, .int r30), (0, .ref (K.2.2.2 0)), (2, .int x2)]) hx hb dX4_handHalves_79 hl (k := 2) rfl rfl (by decide) rfl (fun ls hl => ?_)
        refine lv_iinc (v := (x2 + 1)) (lv' := [(2, .int (x2 + 1)), (1, .int (x1 + 1)), (3, .int r30), (0, .ref (K.2.2.2 0))]) hx hb dX4_handHalves_82 hl (k := 3) rfl rfl (by decide) rfl (fun ls hl => ?_)
        refine lv_goto (tgt := 20) hx hb dX4_handHalves_85 (by decide) ?_
        exact ih _ _ _ _ _ h kk _ _ _ (lv_sub hl [3, 1, 0] rfl) hH
def mX4_handHalves (σ : fm_S) : Option (Int32 × fm_S) :=
  mb1 (mJ7_fill_53178 22 (0 : Int32) σ) fun σ5 =>
  mb1 (mJ7_fill_53178 23 (0 : Int32) σ5) fun σ13 =>
  mb2 (mX4_handHalves_L20 fF (0 : Int32) (0 : Int32) σ13) fun y20_1 σ20 =>
  mb1 (mX4_addChanges 6 22 σ20) fun σ97 =>
  mb1 (mX4_addChanges 7 23 σ97) fun σ109 =>
  some (y20_1, σ109)
set_option maxHeartbeats 4000000 in
set_option maxRecDepth 100000 in
theorem kX4_handHalves (l : Launch) (K : fm_K) {σ : fm_S} {r : Int32} {σ' : fm_S} (h : mX4_handHalves σ = some (r, σ')) : fm_CI l yX4_handHalves wsX4_handHalves rmX4_handHalves K [.ref (K.2.2.2 0)] σ r σ' := by
  intro sz
  refine fm_start (Qc := fun sz => fm_QI K r σ' sz) (cc := cX4_handHalves) (maxL := 4) (ret := (some .int)) (by decide) rfl (Nat.le_of_ble_eq_true rfl) ?_
  intro p e s m args below meth c C hr hlk hst hH ls hl
  have C : CallFix p m c cX4_handHalves 4 s args wsX4_handHalves RX4 := C
  obtain ⟨hx, hb, hml, hown, hts⟩ := id C
  have hA : ∀ q, fm_A K s.heap.size q → fm_A K s.heap.size q := fun _ h => h
  have hl : lv_has ls 4 [(0, .ref (K.2.2.2 0))] := hl
  generalize hQ : MQ below _ args s _ _ _ = Q
  rw [mX4_handHalves] at h
  refine lv_aload_n hx hb dX4_handHalves_0 rfl (lv_at hl 0 rfl) ?_
  refine fm_getf (T := TX4) (N := 18) hx hb hts (fun _ h => List.mem_cons_of_mem _ (List.mem_append_left _ (List.mem_append_right _ h))) hown hst.1 hH 0 (fm_inb (by decide)) rfl (fm_ob_0 _ _) rfl 13 (by decide) (List.mem_of_getElem? (i := 1) rfl) rfl rfl dX4_handHalves_1 ?_
  refine lv_iconst (v := 0) hx hb dX4_handHalves_4 (by decide) ?_
  obtain ⟨σ5, h5, h⟩ := mi_b1 h
  refine fm_cv (va_runS (As := [.ref (K.2.2.2 22), .int (0 : Int32)]) (rest := []) C (kJ7_fill_53178 l K (fm_inb (by decide)) rfl h5 _) (va_cwS 2 hts gX4_handHalves_J7_fill_53178 rfl rfl rfl (by decide +kernel) ⟨(Nat.le_of_ble_eq_true rfl), (Nat.le_of_ble_eq_true rfl)⟩) ⟨fm_blind, fm_pre hst hA hH⟩ rfl rfl hl.1 rfl (lv_room (Nat.le_of_ble_eq_true rfl)) dX4_handHalves_5 ⟨(Nat.le_of_ble_eq_true rfl), (Nat.le_of_ble_eq_true rfl)⟩) hA hH (fun H locs hH => ?_)
  refine lv_aload_n hx hb dX4_handHalves_8 rfl (lv_at hl 0 rfl) ?_
  refine fm_getf (T := TX4) (N := 18) hx hb hts (fun _ h => List.mem_cons_of_mem _ (List.mem_append_left _ (List.mem_append_right _ h))) hown hst.1 hH 0 (fm_inb (by decide)) rfl (fm_ob_0 _ _) rfl 14 (by decide) (List.mem_of_getElem? (i := 2) rfl) rfl rfl dX4_handHalves_9 ?_
  refine lv_iconst (v := 0) hx hb dX4_handHalves_12 (by decide) ?_
  obtain ⟨σ13, h13, h⟩ := mi_b1 h
  refine fm_cv (va_runS (As := [.ref (K.2.2.2 23), .int (0 : Int32)]) (rest := []) C (kJ7_fill_53178 l K (fm_inb (by decide)) rfl h13 _) (va_cwS 2 hts gX4_handHalves_J7_fill_53178 rfl rfl rfl (by decide +kernel) ⟨(Nat.le_of_ble_eq_true rfl), (Nat.le_of_ble_eq_true rfl)⟩) ⟨fm_blind, fm_pre hst hA hH⟩ rfl rfl hl.1 rfl (lv_room (Nat.le_of_ble_eq_true rfl)) dX4_handHalves_13 ⟨(Nat.le_of_ble_eq_true rfl), (Nat.le_of_ble_eq_true rfl)⟩) hA hH (fun H locs hH => ?_)
  refine lv_iconst (v := 0) hx hb dX4_handHalves_16 (by decide) ?_
  refine lv_istore_n (lv' := [(1, .int (0 : Int32)), (0, .ref (K.2.2.2 0))]) hx hb dX4_handHalves_17 rfl hl (by decide) rfl (fun ls hl => ?_)
  refine lv_iconst (v := 0) hx hb dX4_handHalves_18 (by decide) ?_
  refine lv_istore_n (lv' := [(2, .int (0 : Int32)), (1, .int (0 : Int32)), (0, .ref (K.2.2.2 0))]) hx hb dX4_handHalves_19 rfl hl (by decide) rfl (fun ls hl => ?_)
  obtain ⟨y20_1, σ20, h20, h⟩ := mi_b2 h
  refine wX4_handHalves_L20 C hst hA _ _ _ _ _ _ h20 (fun ls H locs hl hH => ?_) _ _ _ (lv_sub hl [2, 1, 0] rfl) hH
  refine lv_aload_n hx hb dX4_handHalves_88 rfl (lv_at hl 0 rfl) ?_
  refine lv_aload_n hx hb dX4_handHalves_89 rfl (lv_at hl 0 rfl) ?_
  refine fm_getf (T := TX4) (N := 18) hx hb hts (fun _ h => List.mem_cons_of_mem _ (List.mem_append_left _ (List.mem_append_right _ h))) hown hst.1 hH 0 (fm_inb (by decide)) rfl (fm_ob_0 _ _) rfl 5 (by decide) (List.mem_of_getElem? (i := 4) rfl) rfl rfl dX4_handHalves_90 ?_
  refine lv_aload_n hx hb dX4_handHalves_93 rfl (lv_at hl 0 rfl) ?_
  refine fm_getf (T := TX4) (N := 18) hx hb hts (fun _ h => List.mem_cons_of_mem _ (List.mem_append_left _ (List.mem_append_right _ h))) hown hst.1 hH 0 (fm_inb (by decide)) rfl (fm_ob_0 _ _) rfl 13 (by decide) (List.mem_of_getElem? (i := 1) rfl) rfl rfl dX4_handHalves_94 ?_
  obtain ⟨σ97, h97, h⟩ := mi_b1 h
  refine fm_cv (va_runV (As := [.ref (K.2.2.2 6), .ref (K.2.2.2 22)]) (rest := []) C (kX4_addChanges l K (fm_inb (by decide)) rfl (fm_inb (by decide)) rfl h97 _) (cwV 2 hts gX4_handHalves_X4_addChanges rfl rfl rfl (by decide +kernel) ⟨(Nat.le_of_ble_eq_true rfl), (Nat.le_of_ble_eq_true rfl)⟩) ⟨fm_blind, fm_recv hst hH (q := 0) (fm_inb (by decide)) rfl (fm_ob_0 _ _) rfl, fm_pre hst hA hH⟩ rfl rfl hl.1 rfl (lv_room (Nat.le_of_ble_eq_true rfl)) dX4_handHalves_97 ⟨(Nat.le_of_ble_eq_true rfl), (Nat.le_of_ble_eq_true rfl)⟩) hA hH (fun H locs hH => ?_)
  refine lv_aload_n hx hb dX4_handHalves_100 rfl (lv_at hl 0 rfl) ?_
  refine lv_aload_n hx hb dX4_handHalves_101 rfl (lv_at hl 0 rfl) ?_
  refine fm_getf (T := TX4) (N := 18) hx hb hts (fun _ h => List.mem_cons_of_mem _ (List.mem_append_left _ (List.mem_append_right _ h))) hown hst.1 hH 0 (fm_inb (by decide)) rfl (fm_ob_0 _ _) rfl 6 (by decide) (List.mem_of_getElem? (i := 5) rfl) rfl rfl dX4_handHalves_102 ?_
  refine lv_aload_n hx hb dX4_handHalves_105 rfl (lv_at hl 0 rfl) ?_
  refine fm_getf (T := TX4) (N := 18) hx hb hts (fun _ h => List.mem_cons_of_mem _ (List.mem_append_left _ (List.mem_append_right _ h))) hown hst.1 hH 0 (fm_inb (by decide)) rfl (fm_ob_0 _ _) rfl 14 (by decide) (List.mem_of_getElem? (i := 2) rfl) rfl rfl dX4_handHalves_106 ?_
  obtain ⟨σ109, h109, h⟩ := mi_b1 h
  refine fm_cv (va_runV (As := [.ref (K.2.2.2 7), .ref (K.2.2.2 23)]) (rest := []) C (kX4_addChanges l K (fm_inb (by decide)) rfl (fm_inb (by decide)) rfl h109 _) (cwV 2 hts gX4_handHalves_X4_addChanges rfl rfl rfl (by decide +kernel) ⟨(Nat.le_of_ble_eq_true rfl), (Nat.le_of_ble_eq_true rfl)⟩) ⟨fm_blind, fm_recv hst hH (q := 0) (fm_inb (by decide)) rfl (fm_ob_0 _ _) rfl, fm_pre hst hA hH⟩ rfl rfl hl.1 rfl (lv_room (Nat.le_of_ble_eq_true rfl)) dX4_handHalves_109 ⟨(Nat.le_of_ble_eq_true rfl), (Nat.le_of_ble_eq_true rfl)⟩) hA hH (fun H locs hH => ?_)
  refine lv_iload_n hx hb dX4_handHalves_112 rfl (lv_at hl 1 rfl) ?_
  cases h
  subst hQ
  exact fm_iret hx hb hr hlk hst hH dX4_handHalves_113
/-! RX4.spread(I)I -/
abbrev rmX4_spread : Room := { frames := 4, cells := 0, slots := 0, locals := 89 }
def mX4_spread_L12 : Nat → Int32 → Int32 → Int32 → fm_S → Option (Int32 × fm_S)
  | 0, _, _, _, _ => none
  | n + 1, x1, x2, x3, σ =>
    if x1 ≤ x3 then
      some (x2, σ)
    else
      mb2 (mX4_handHalves σ) fun r19 σ19 =>
      mX4_spread_L12 n x1 (x2 + r19) (x3 + 1) σ19
set_option maxHeartbeats 4000000 in
set_option maxRecDepth 100000 in
theorem wX4_spread_L12 {p : Program} {l : Launch} {e : Env} {s : State} {m : MethodId} {args : Array Value} {below : List Frame} {meth : Method} {c : Code} {Q : State → Prop} {K : fm_K} {A : Nat → Prop} (C : CallFix p m c cX4_spread 4 s args wsX4_spread RX4) (hst : fm_st K A s s.heap) (hA : ∀ q, fm_A K s.heap.size q → A q) :
    ∀ (n : Nat) (x1 : Int32) (x2 : Int32) (x3 : Int32) (σ : fm_S) (o2 : Int32) (σo : fm_S), mX4_spread_L12 n x1 x2 x3 σ = some (o2, σo) → (∀ (ls : Array Slot) (H : Heap) (locs : List Loc), lv_has ls 4 [(2, .int o2)] → fm_H K σo A s H locs → W p l e rmX4_spread s m args below meth c H locs 0 0 Q (F0 m 30 ls [])) → ∀ (ls : Array Slot) (H : Heap) (locs : List Loc), lv_has ls 4 [(0, .ref (K.2.2.2 0)), (1, .int x1), (2, .int x2), (3, .int x3)] → fm_H K σ A s H locs → W p l e rmX4_spread s m args below meth c H locs 0 0 Q (F0 m 12 ls []) := by
  obtain ⟨hx, hb, hml, hown, hts⟩ := id C
  intro n
  induction n with
  | zero => intro x1 x2 x3 σ o2 σo h; simp [mX4_spread_L12] at h
  | succ n ih =>
    intro x1 x2 x3 σ o2 σo h kk ls H locs hl hH
    rw [mX4_spread_L12] at h
    refine lv_iload_n hx hb dX4_spread_12 rfl (lv_at hl 3 rfl) ?_
    refine lv_iload_n hx hb dX4_spread_13 rfl (lv_at hl 1 rfl) ?_
    refine lv_icmp_ge (tgt := 30) hx hb dX4_spread_14 (by decide) (fun hc => ?_) (fun hc => ?_)
    · replace h := mi_pos hc h
      cases h
      exact kk _ _ _ (lv_sub hl [2] rfl) hH
    · replace h := mi_neg hc h
      refine lv_iload_n hx hb dX4_spread_17 rfl (lv_at hl 2 rfl) ?_
      refine lv_aload_n hx hb dX4_spread_18 rfl (lv_at hl 0 rfl) ?_
      obtain ⟨r19, σ19, h19, h⟩ := mi_b2 h
      refine fm_ci (va_runV (As := []) (rest := [.int x2]) C (kX4_handHalves l K h19 _) (cwV 0 hts gX4_spread_X4_handHalves rfl rfl rfl (by decide +kernel) ⟨(Nat.le_of_ble_eq_true rfl), (Nat.le_of_ble_eq_true rfl)⟩) ⟨fm_blind, fm_recv hst hH (q := 0) (fm_inb (by decide)) rfl (fm_ob_0 _ _) rfl, fm_pre hst hA hH⟩ rfl rfl hl.1 rfl (lv_room (Nat.le_of_ble_eq_true rfl)) dX4_spread_19 ⟨(Nat.le_of_ble_eq_true rfl), (Nat.le_of_ble_eq_true rfl)⟩) hA hH (fun H locs hH => ?_)
      refine lv_iadd hx hb dX4_spread_22 ?_
      refine lv_istore_n (lv' := [(2, .int (x2 + r19)), (0, .ref (K.2.2.2 0)), (1, .int x1), (3, .int x3)]) hx hb dX4_spread_23 rfl hl (by decide) rfl (fun ls hl => ?_)
      refine lv_iinc (v := (x3 + 1)) (lv' := [(3, .int (x3 + 1)), (2, .int (x2 + r19)), (0, .ref (K.2.2.2 0)), (1, .int x1)]) hx hb dX4_spread_24 hl (k := 3) rfl rfl (by decide) rfl (fun ls hl => ?_)
      refine lv_goto (tgt := 12) hx hb dX4_spread_27 (by decide) ?_
      exact ih _ _ _ _ _ _ h kk _ _ _ (lv_sub hl [2, 3, 1, 0] rfl) hH
def mX4_spread (x1 : Int32) (σ : fm_S) : Option (Int32 × fm_S) :=
  mb1 (mX4_requireRounds x1 σ) fun σ1 =>
  mb1 (mX4_drawNet σ1) fun σ5 =>
  mb2 (mX4_spread_L12 fF x1 (0 : Int32) (0 : Int32) σ5) fun y12_2 σ12 =>
  some (y12_2, σ12)
set_option maxHeartbeats 4000000 in
set_option maxRecDepth 100000 in
theorem kX4_spread (l : Launch) (K : fm_K) {x1 : Int32} {σ : fm_S} {r : Int32} {σ' : fm_S} (h : mX4_spread x1 σ = some (r, σ')) : fm_CI l yX4_spread wsX4_spread rmX4_spread K [.ref (K.2.2.2 0), .int x1] σ r σ' := by
  intro sz
  refine fm_start (Qc := fun sz => fm_QI K r σ' sz) (cc := cX4_spread) (maxL := 4) (ret := (some .int)) (by decide) rfl (Nat.le_of_ble_eq_true rfl) ?_
  intro p e s m args below meth c C hr hlk hst hH ls hl
  have C : CallFix p m c cX4_spread 4 s args wsX4_spread RX4 := C
  obtain ⟨hx, hb, hml, hown, hts⟩ := id C
  have hA : ∀ q, fm_A K s.heap.size q → fm_A K s.heap.size q := fun _ h => h
  have hl : lv_has ls 4 [(0, .ref (K.2.2.2 0)), (1, .int x1)] := hl
  generalize hQ : MQ below _ args s _ _ _ = Q
  rw [mX4_spread] at h
  refine lv_iload_n hx hb dX4_spread_0 rfl (lv_at hl 1 rfl) ?_
  obtain ⟨σ1, h1, h⟩ := mi_b1 h
  refine fm_cv (va_runS (As := [.int x1]) (rest := []) C (kX4_requireRounds l K h1 _) (va_cwS 1 hts gX4_spread_X4_requireRounds rfl rfl rfl (by decide +kernel) ⟨(Nat.le_of_ble_eq_true rfl), (Nat.le_of_ble_eq_true rfl)⟩) ⟨fm_blind, fm_pre hst hA hH⟩ rfl rfl hl.1 rfl (lv_room (Nat.le_of_ble_eq_true rfl)) dX4_spread_1 ⟨(Nat.le_of_ble_eq_true rfl), (Nat.le_of_ble_eq_true rfl)⟩) hA hH (fun H locs hH => ?_)
  refine lv_aload_n hx hb dX4_spread_4 rfl (lv_at hl 0 rfl) ?_
  obtain ⟨σ5, h5, h⟩ := mi_b1 h
  refine fm_cv (va_runV (As := []) (rest := []) C (kX4_drawNet l K h5 _) (cwV 0 hts gX4_spread_X4_drawNet rfl rfl rfl (by decide +kernel) ⟨(Nat.le_of_ble_eq_true rfl), (Nat.le_of_ble_eq_true rfl)⟩) ⟨fm_blind, fm_recv hst hH (q := 0) (fm_inb (by decide)) rfl (fm_ob_0 _ _) rfl, fm_pre hst hA hH⟩ rfl rfl hl.1 rfl (lv_room (Nat.le_of_ble_eq_true rfl)) dX4_spread_5 ⟨(Nat.le_of_ble_eq_true rfl), (Nat.le_of_ble_eq_true rfl)⟩) hA hH (fun H locs hH => ?_)
  refine lv_iconst (v := 0) hx hb dX4_spread_8 (by decide) ?_
  refine lv_istore_n (lv' := [(2, .int (0 : Int32)), (0, .ref (K.2.2.2 0)), (1, .int x1)]) hx hb dX4_spread_9 rfl hl (by decide) rfl (fun ls hl => ?_)
  refine lv_iconst (v := 0) hx hb dX4_spread_10 (by decide) ?_
  refine lv_istore_n (lv' := [(3, .int (0 : Int32)), (2, .int (0 : Int32)), (0, .ref (K.2.2.2 0)), (1, .int x1)]) hx hb dX4_spread_11 rfl hl (by decide) rfl (fun ls hl => ?_)
  obtain ⟨y12_2, σ12, h12, h⟩ := mi_b2 h
  refine wX4_spread_L12 C hst hA _ _ _ _ _ _ _ h12 (fun ls H locs hl hH => ?_) _ _ _ (lv_sub hl [2, 3, 1, 0] rfl) hH
  refine lv_iload_n hx hb dX4_spread_30 rfl (lv_at hl 0 rfl) ?_
  cases h
  subst hQ
  exact fm_iret hx hb hr hlk hst hH dX4_spread_31
/-! RX4.want(III)I -/
abbrev rmX4_want : Room := { frames := 2, cells := 0, slots := 0, locals := 43 }
def mX4_want (x1 : Int32) (x2 : Int32) (x3 : Int32) (σ : fm_S) : Option (Int32 × fm_S) :=
  mb1 (mX4_requireUnlike x1 x2 σ) fun σ3 =>
  mb1 (show Option (fm_S) from
    if x3 = (-1 : Int32) then
      some σ3
    else
      mb1 (mX4_requireWithin x3 (1 : Int32) (8000000 : Int32) σ3) fun σ15 =>
      some σ15) fun σ1 =>
  if (x1 < 0 ∨ 8 ≤ x1.toNatClampNeg) then none else
  if (x2 < 0 ∨ 8 ≤ x2.toNatClampNeg) then none else
  some ((rI σ1 (9 + 1 + x1.toNatClampNeg) x2), (sI (sI σ1 (9 + 1 + x1.toNatClampNeg) x2 x3) (9 + 1 + x2.toNatClampNeg) x1 x3))
set_option maxHeartbeats 4000000 in
set_option maxRecDepth 100000 in
theorem kX4_want (l : Launch) (K : fm_K) {x1 : Int32} {x2 : Int32} {x3 : Int32} {σ : fm_S} {r : Int32} {σ' : fm_S} (h : mX4_want x1 x2 x3 σ = some (r, σ')) : fm_CI l yX4_want wsX4_want rmX4_want K [.ref (K.2.2.2 0), .int x1, .int x2, .int x3] σ r σ' := by
  intro sz
  refine fm_start (Qc := fun sz => fm_QI K r σ' sz) (cc := cX4_want) (maxL := 5) (ret := (some .int)) (by decide) rfl (Nat.le_of_ble_eq_true rfl) ?_
  intro p e s m args below meth c C hr hlk hst hH ls hl
  have C : CallFix p m c cX4_want 5 s args wsX4_want RX4 := C
  obtain ⟨hx, hb, hml, hown, hts⟩ := id C
  have hA : ∀ q, fm_A K s.heap.size q → fm_A K s.heap.size q := fun _ h => h
  have hl : lv_has ls 5 [(0, .ref (K.2.2.2 0)), (1, .int x1), (2, .int x2), (3, .int x3)] := hl
  generalize hQ : MQ below _ args s _ _ _ = Q
  rw [mX4_want] at h
  refine lv_aload_n hx hb dX4_want_0 rfl (lv_at hl 0 rfl) ?_
  refine lv_iload_n hx hb dX4_want_1 rfl (lv_at hl 1 rfl) ?_
  refine lv_iload_n hx hb dX4_want_2 rfl (lv_at hl 2 rfl) ?_
  obtain ⟨σ3, h3, h⟩ := mi_b1 h
  refine fm_cv (va_runV (As := [.int x1, .int x2]) (rest := []) C (kX4_requireUnlike l K h3 _) (cwV 2 hts gX4_want_X4_requireUnlike rfl rfl rfl (by decide +kernel) ⟨(Nat.le_of_ble_eq_true rfl), (Nat.le_of_ble_eq_true rfl)⟩) ⟨fm_blind, fm_recv hst hH (q := 0) (fm_inb (by decide)) rfl (fm_ob_0 _ _) rfl, fm_pre hst hA hH⟩ rfl rfl hl.1 rfl (lv_room (Nat.le_of_ble_eq_true rfl)) dX4_want_3 ⟨(Nat.le_of_ble_eq_true rfl), (Nat.le_of_ble_eq_true rfl)⟩) hA hH (fun H locs hH => ?_)
  refine lv_iload_n hx hb dX4_want_6 rfl (lv_at hl 3 rfl) ?_
  refine lv_iconst (v := -1) hx hb dX4_want_7 (by decide) ?_
  obtain ⟨σ1, hd, h2⟩ := mi_b1 h
  have kj : ∀ (ls : Array Slot) (H : Heap) (locs : List Loc), lv_has ls 5 [(0, .ref (K.2.2.2 0)), (1, .int x1), (2, .int x2), (3, .int x3)] → fm_H K σ1 (fm_A K s.heap.size) s H locs → W p l e rmX4_want s m args below meth c H locs 0 0 Q (F0 m 18 ls []) := by
    clear h hd
    intro ls H locs hl hH
    have h := h2
    clear h2
    refine lv_aload_n hx hb dX4_want_18 rfl (lv_at hl 0 rfl) ?_
    refine fm_getf (T := TX4) (N := 18) hx hb hts (fun _ h => List.mem_cons_of_mem _ (List.mem_append_left _ (List.mem_append_left _ (List.mem_append_right _ h)))) hown hst.1 hH 0 (fm_inb (by decide)) rfl (fm_ob_0 _ _) rfl 8 (by decide) (List.mem_of_getElem? (i := 2) rfl) rfl rfl dX4_want_19 ?_
    refine lv_iload_n hx hb dX4_want_22 rfl (lv_at hl 1 rfl) ?_
    obtain ⟨hi2, h⟩ := mi_chk h
    refine fm_ald4 hx hb hst.1 hH 9 (fm_inb (by decide)) rfl hi2 dX4_want_23 ?_
    refine lv_iload_n hx hb dX4_want_24 rfl (lv_at hl 2 rfl) ?_
    obtain ⟨hi3, h⟩ := mi_chk h
    refine fm_ild hx hb hst.1 hH (9 + 1 + x1.toNatClampNeg) (fm_r4 (K := K) hi2).1 (fm_r4 (K := K) hi2).2.1 (fm_r4 (K := K) hi2).2.2 hi3 dX4_want_25 ?_
    refine lv_istore (lv' := [(4, .int (rI σ1 (9 + 1 + x1.toNatClampNeg) x2)), (0, .ref (K.2.2.2 0)), (1, .int x1), (2, .int x2), (3, .int x3)]) hx hb dX4_want_26 hl (by decide) rfl (fun ls hl => ?_)
    refine lv_aload_n hx hb dX4_want_28 rfl (lv_at hl 1 rfl) ?_
    refine fm_getf (T := TX4) (N := 18) hx hb hts (fun _ h => List.mem_cons_of_mem _ (List.mem_append_left _ (List.mem_append_left _ (List.mem_append_right _ h)))) hown hst.1 hH 0 (fm_inb (by decide)) rfl (fm_ob_0 _ _) rfl 8 (by decide) (List.mem_of_getElem? (i := 2) rfl) rfl rfl dX4_want_29 ?_
    refine lv_iload_n hx hb dX4_want_32 rfl (lv_at hl 2 rfl) ?_
    refine fm_ald4 hx hb hst.1 hH 9 (fm_inb (by decide)) rfl hi2 dX4_want_33 ?_
    refine lv_iload_n hx hb dX4_want_34 rfl (lv_at hl 3 rfl) ?_
    refine lv_iload_n hx hb dX4_want_35 rfl (lv_at hl 4 rfl) ?_
    refine fm_ist hx hb hst.1 hH (9 + 1 + x1.toNatClampNeg) (fm_r4 (K := K) hi2).1 (fm_r4 (K := K) hi2).2.1 (fm_r4 (K := K) hi2).2.2 hi3 dX4_want_36 (fun H locs hH => ?_)
    refine lv_aload_n hx hb dX4_want_37 rfl (lv_at hl 1 rfl) ?_
    refine fm_getf (T := TX4) (N := 18) hx hb hts (fun _ h => List.mem_cons_of_mem _ (List.mem_append_left _ (List.mem_append_left _ (List.mem_append_right _ h)))) hown hst.1 hH 0 (fm_inb (by decide)) rfl (fm_ob_0 _ _) rfl 8 (by decide) (List.mem_of_getElem? (i := 2) rfl) rfl rfl dX4_want_38 ?_
    refine lv_iload_n hx hb dX4_want_41 rfl (lv_at hl 3 rfl) ?_
    refine fm_ald4 hx hb hst.1 hH 9 (fm_inb (by decide)) rfl hi3 dX4_want_42 ?_
    refine lv_iload_n hx hb dX4_want_43 rfl (lv_at hl 2 rfl) ?_
    refine lv_iload_n hx hb dX4_want_44 rfl (lv_at hl 4 rfl) ?_
    refine fm_ist hx hb hst.1 hH (9 + 1 + x2.toNatClampNeg) (fm_r4 (K := K) hi3).1 (fm_r4 (K := K) hi3).2.1 (fm_r4 (K := K) hi3).2.2 hi2 dX4_want_45 (fun H locs hH => ?_)
    refine lv_iload hx hb dX4_want_46 (lv_at hl 0 rfl) ?_
    cases h
    subst hQ
    exact fm_iret hx hb hr hlk hst hH dX4_want_48
  replace h := hd
  clear h2 hd
  refine lv_icmp_eq (tgt := 18) hx hb dX4_want_8 (by decide) (fun hc => ?_) (fun hc => ?_)
  · replace h := mi_pos hc h
    cases h
    exact kj _ _ _ (lv_sub hl [0, 1, 2, 3] rfl) hH
  · replace h := mi_neg hc h
    refine lv_iload_n hx hb dX4_want_11 rfl (lv_at hl 3 rfl) ?_
    refine lv_iconst (v := 1) hx hb dX4_want_12 (by decide) ?_
    refine lv_ldc (v := 8000000) hx hb hown (hts (.constant RX4 170 (8000000)) (List.mem_of_getElem? (i := 1) rfl)) dX4_want_13 ?_
    obtain ⟨σ15, h15, h⟩ := mi_b1 h
    refine fm_cv (va_runS (As := [.int x3, .int (1 : Int32), .int (8000000 : Int32)]) (rest := []) C (kX4_requireWithin l K h15 _) (va_cwS 3 hts gX4_want_X4_requireWithin rfl rfl rfl (by decide +kernel) ⟨(Nat.le_of_ble_eq_true rfl), (Nat.le_of_ble_eq_true rfl)⟩) ⟨fm_blind, fm_pre hst hA hH⟩ rfl rfl hl.1 rfl (lv_room (Nat.le_of_ble_eq_true rfl)) dX4_want_15 ⟨(Nat.le_of_ble_eq_true rfl), (Nat.le_of_ble_eq_true rfl)⟩) hA hH (fun H locs hH => ?_)
    cases h
    exact kj _ _ _ (lv_sub hl [0, 1, 2, 3] rfl) hH
/-! RX4.excessOf(II)I -/
abbrev rmX4_excessOf : Room := { frames := 2, cells := 0, slots := 0, locals := 43 }
def mX4_excessOf (x1 : Int32) (x2 : Int32) (σ : fm_S) : Option Int32 :=
  mb1 (mX1_joins20 x1 x2 σ) fun r6 =>
  if r6 = 0 then
    some (0 : Int32)
  else
    if (x1 < 0 ∨ 8 ≤ x1.toNatClampNeg) then none else
    if (x2 < 0 ∨ 8 ≤ x2.toNatClampNeg) then none else
    if (rI σ (9 + 1 + x1.toNatClampNeg) x2) = (-1 : Int32) then
      some (0 : Int32)
    else
      mb1 (mX4_squareBetween x1 x2 σ) fun r29 =>
      some (r29 - (rI σ (9 + 1 + x1.toNatClampNeg) x2))
set_option maxHeartbeats 4000000 in
set_option maxRecDepth 100000 in
theorem kX4_excessOf (l : Launch) (K : fm_K) {x1 : Int32} {x2 : Int32} {σ : fm_S} {r : Int32} (h : mX4_excessOf x1 x2 σ = some r) : fm_CI l yX4_excessOf wsX4_excessOf rmX4_excessOf K [.ref (K.2.2.2 0), .int x1, .int x2] σ r σ := by
  intro sz
  refine fm_start (Qc := fun sz => fm_QI K r σ sz) (cc := cX4_excessOf) (maxL := 3) (ret := (some .int)) (by decide) rfl (Nat.le_of_ble_eq_true rfl) ?_
  intro p e s m args below meth c C hr hlk hst hH ls hl
  have C : CallFix p m c cX4_excessOf 3 s args wsX4_excessOf RX4 := C
  obtain ⟨hx, hb, hml, hown, hts⟩ := id C
  have hA : ∀ q, fm_A K s.heap.size q → fm_A K s.heap.size q := fun _ h => h
  have hl : lv_has ls 3 [(0, .ref (K.2.2.2 0)), (1, .int x1), (2, .int x2)] := hl
  generalize hQ : MQ below _ args s _ _ _ = Q
  rw [mX4_excessOf] at h
  refine lv_aload_n hx hb dX4_excessOf_0 rfl (lv_at hl 0 rfl) ?_
  refine fm_getf (T := TX4) (N := 18) hx hb hts (fun _ h => List.mem_cons_of_mem _ (List.mem_append_left _ (List.mem_append_right _ h))) hown hst.1 hH 0 (fm_inb (by decide)) rfl (fm_ob_0 _ _) rfl 12 (by decide) (List.mem_of_getElem? (i := 1) rfl) rfl rfl dX4_excessOf_1 ?_
  refine lv_iload_n hx hb dX4_excessOf_4 rfl (lv_at hl 1 rfl) ?_
  refine lv_iload_n hx hb dX4_excessOf_5 rfl (lv_at hl 2 rfl) ?_
  obtain ⟨r6, h6, h⟩ := mi_b1 h
  refine fm_ci (va_runVN (As := [.int x1, .int x2]) (rest := []) C (kX1_joins20 l K h6 _) ⟨va_cnB 2 hts gX4_excessOf_X1_joins_n112 rfl rfl rfl (hst.2.1 (RX4, 112, yX1_joins) (List.mem_of_getElem? (i := 1) rfl)) (hts (.initialized RX1) (List.mem_of_getElem? (i := 4) rfl)) (by decide +kernel) ⟨(Nat.le_of_ble_eq_true rfl), (Nat.le_of_ble_eq_true rfl)⟩, (hts (.instanceMethod yX1_joins) (List.mem_of_getElem? (i := 3) rfl)), (hts (.selects RX1 yX1_joins yX1_joins) (List.mem_of_getElem? (i := 5) rfl))⟩ ⟨fm_blind, fm_recv hst hH (q := 20) (fm_inb (by decide)) rfl (fm_ob_20 _ _) rfl, fm_pre hst hA hH⟩ rfl rfl hl.1 rfl (lv_room (Nat.le_of_ble_eq_true rfl)) dX4_excessOf_6 ⟨(Nat.le_of_ble_eq_true rfl), (Nat.le_of_ble_eq_true rfl)⟩) hA hH (fun H locs hH => ?_)
  refine lv_if_eq (tgt := 24) hx hb dX4_excessOf_9 (by decide) (fun hc => ?_) (fun hc => ?_)
  · replace h := mi_pos hc h
    refine lv_iconst (v := 0) hx hb dX4_excessOf_24 (by decide) ?_
    cases h
    subst hQ
    exact fm_iret hx hb hr hlk hst hH dX4_excessOf_25
  · replace h := mi_neg hc h
    refine lv_aload_n hx hb dX4_excessOf_12 rfl (lv_at hl 0 rfl) ?_
    refine fm_getf (T := TX4) (N := 18) hx hb hts (fun _ h => List.mem_cons_of_mem _ (List.mem_append_left _ (List.mem_append_right _ h))) hown hst.1 hH 0 (fm_inb (by decide)) rfl (fm_ob_0 _ _) rfl 8 (by decide) (List.mem_of_getElem? (i := 2) rfl) rfl rfl dX4_excessOf_13 ?_
    refine lv_iload_n hx hb dX4_excessOf_16 rfl (lv_at hl 1 rfl) ?_
    obtain ⟨hi1, h⟩ := mi_chk h
    refine fm_ald4 hx hb hst.1 hH 9 (fm_inb (by decide)) rfl hi1 dX4_excessOf_17 ?_
    refine lv_iload_n hx hb dX4_excessOf_18 rfl (lv_at hl 2 rfl) ?_
    obtain ⟨hi2, h⟩ := mi_chk h
    refine fm_ild hx hb hst.1 hH (9 + 1 + x1.toNatClampNeg) (fm_r4 (K := K) hi1).1 (fm_r4 (K := K) hi1).2.1 (fm_r4 (K := K) hi1).2.2 hi2 dX4_excessOf_19 ?_
    refine lv_iconst (v := -1) hx hb dX4_excessOf_20 (by decide) ?_
    refine lv_icmp_ne (tgt := 26) hx hb dX4_excessOf_21 (by decide) (fun hc => ?_) (fun hc => ?_)
    · replace h := mi_neg hc h
      refine lv_aload_n hx hb dX4_excessOf_26 rfl (lv_at hl 0 rfl) ?_
      refine lv_iload_n hx hb dX4_excessOf_27 rfl (lv_at hl 1 rfl) ?_
      refine lv_iload_n hx hb dX4_excessOf_28 rfl (lv_at hl 2 rfl) ?_
      obtain ⟨r29, h29, h⟩ := mi_b1 h
      refine fm_ci (va_runV (As := [.int x1, .int x2]) (rest := []) C (kX4_squareBetween l K h29 _) (cwV 2 hts gX4_excessOf_X4_squareBetween rfl rfl rfl (by decide +kernel) ⟨(Nat.le_of_ble_eq_true rfl), (Nat.le_of_ble_eq_true rfl)⟩) ⟨fm_blind, fm_recv hst hH (q := 0) (fm_inb (by decide)) rfl (fm_ob_0 _ _) rfl, fm_pre hst hA hH⟩ rfl rfl hl.1 rfl (lv_room (Nat.le_of_ble_eq_true rfl)) dX4_excessOf_29 ⟨(Nat.le_of_ble_eq_true rfl), (Nat.le_of_ble_eq_true rfl)⟩) hA hH (fun H locs hH => ?_)
      refine lv_aload_n hx hb dX4_excessOf_32 rfl (lv_at hl 0 rfl) ?_
      refine fm_getf (T := TX4) (N := 18) hx hb hts (fun _ h => List.mem_cons_of_mem _ (List.mem_append_left _ (List.mem_append_right _ h))) hown hst.1 hH 0 (fm_inb (by decide)) rfl (fm_ob_0 _ _) rfl 8 (by decide) (List.mem_of_getElem? (i := 2) rfl) rfl rfl dX4_excessOf_33 ?_
      refine lv_iload_n hx hb dX4_excessOf_36 rfl (lv_at hl 1 rfl) ?_
      refine fm_ald4 hx hb hst.1 hH 9 (fm_inb (by decide)) rfl hi1 dX4_excessOf_37 ?_
      refine lv_iload_n hx hb dX4_excessOf_38 rfl (lv_at hl 2 rfl) ?_
      refine fm_ild hx hb hst.1 hH (9 + 1 + x1.toNatClampNeg) (fm_r4 (K := K) hi1).1 (fm_r4 (K := K) hi1).2.1 (fm_r4 (K := K) hi1).2.2 hi2 dX4_excessOf_39 ?_
      refine lv_isub hx hb dX4_excessOf_40 ?_
      cases h
      subst hQ
      exact fm_iret hx hb hr hlk hst hH dX4_excessOf_41
    · replace h := mi_pos hc h
      refine lv_iconst (v := 0) hx hb dX4_excessOf_24 (by decide) ?_
      cases h
      subst hQ
      exact fm_iret hx hb hr hlk hst hH dX4_excessOf_25
/-! RX4.error()I -/
abbrev rmX4_error : Room := { frames := 4, cells := 0, slots := 0, locals := 87 }
def mX4_error_L18 : Nat → Int32 → Int32 → Int32 → fm_S → Option (Int32)
  | 0, _, _, _, _ => none
  | n + 1, x1, x2, x3, σ =>
    if x2 ≤ x3 then
      some x1
    else
      mb1 (mX4_excessOf x2 x3 σ) fun r27 =>
      mX4_error_L18 n (x1 + (if 0 ≤ r27 then r27 else 0 - r27)) x2 (x3 + 1) σ
set_option maxHeartbeats 4000000 in
set_option maxRecDepth 100000 in
theorem wX4_error_L18 {p : Program} {l : Launch} {e : Env} {s : State} {m : MethodId} {args : Array Value} {below : List Frame} {meth : Method} {c : Code} {Q : State → Prop} {K : fm_K} {A : Nat → Prop} (C : CallFix p m c cX4_error 4 s args wsX4_error RX4) (hst : fm_st K A s s.heap) (hA : ∀ q, fm_A K s.heap.size q → A q) :
    ∀ (n : Nat) (x1 : Int32) (x2 : Int32) (x3 : Int32) (σ : fm_S) (o1 : Int32), mX4_error_L18 n x1 x2 x3 σ = some o1 → (∀ (ls : Array Slot) (H : Heap) (locs : List Loc), lv_has ls 4 [(0, .ref (K.2.2.2 0)), (1, .int o1), (2, .int x2)] → fm_H K σ A s H locs → W p l e rmX4_error s m args below meth c H locs 0 0 Q (F0 m 41 ls [])) → ∀ (ls : Array Slot) (H : Heap) (locs : List Loc), lv_has ls 4 [(0, .ref (K.2.2.2 0)), (1, .int x1), (2, .int x2), (3, .int x3)] → fm_H K σ A s H locs → W p l e rmX4_error s m args below meth c H locs 0 0 Q (F0 m 18 ls []) := by
  obtain ⟨hx, hb, hml, hown, hts⟩ := id C
  intro n
  induction n with
  | zero => intro x1 x2 x3 σ o1 h; simp [mX4_error_L18] at h
  | succ n ih =>
    intro x1 x2 x3 σ o1 h kk ls H locs hl hH
    rw [mX4_error_L18] at h
    refine lv_iload_n hx hb dX4_error_18 rfl (lv_at hl 3 rfl) ?_
    refine lv_iload_n hx hb dX4_error_19 rfl (lv_at hl 2 rfl) ?_
    refine lv_icmp_ge (tgt := 41) hx hb dX4_error_20 (by decide) (fun hc => ?_) (fun hc => ?_)
    · replace h := mi_pos hc h
      cases h
      exact kk _ _ _ (lv_sub hl [0, 1, 2] rfl) hH
    · replace h := mi_neg hc h
      refine lv_iload_n hx hb dX4_error_23 rfl (lv_at hl 1 rfl) ?_
      refine lv_aload_n hx hb dX4_error_24 rfl (lv_at hl 0 rfl) ?_
      refine lv_iload_n hx hb dX4_error_25 rfl (lv_at hl 2 rfl) ?_
      refine lv_iload_n hx hb dX4_error_26 rfl (lv_at hl 3 rfl) ?_
      obtain ⟨r27, h27, h⟩ := mi_b1 h
      refine fm_ci (va_runV (As := [.int x2, .int x3]) (rest := [.int x1]) C (kX4_excessOf l K h27 _) (cwV 2 hts gX4_error_X4_excessOf rfl rfl rfl (by decide +kernel) ⟨(Nat.le_of_ble_eq_true rfl), (Nat.le_of_ble_eq_true rfl)⟩) ⟨fm_blind, fm_recv hst hH (q := 0) (fm_inb (by decide)) rfl (fm_ob_0 _ _) rfl, fm_pre hst hA hH⟩ rfl rfl hl.1 rfl (lv_room (Nat.le_of_ble_eq_true rfl)) dX4_error_27 ⟨(Nat.le_of_ble_eq_true rfl), (Nat.le_of_ble_eq_true rfl)⟩) hA hH (fun H locs hH => ?_)
      refine va_mabs hx hb (hml.trans hl.1.symm) hown (hts (.methodLink RX4 175 Lib.Math.abs.name) (List.mem_of_getElem? (i := 2) rfl)) (hts (.static Lib.Math.abs.name) (List.mem_of_getElem? (i := 3) rfl)) (hts (.initialized "java/lang/Math") (List.mem_of_getElem? (i := 4) rfl)) (hts (.code Lib.Math.abs.name Lib.Math.abs.code 1 (some .int)) (List.mem_of_getElem? (i := 5) rfl)) (Nat.le_of_ble_eq_true rfl) (Nat.le_of_ble_eq_true rfl) (Nat.le_of_ble_eq_true rfl) (Nat.le_of_ble_eq_true rfl) dX4_error_30 ?_
      refine lv_iadd hx hb dX4_error_33 ?_
      refine lv_istore_n (lv' := [(1, .int (x1 + (if 0 ≤ r27 then r27 else 0 - r27))), (0, .ref (K.2.2.2 0)), (2, .int x2), (3, .int x3)]) hx hb dX4_error_34 rfl hl (by decide) rfl (fun ls hl => ?_)
      refine lv_iinc (v := (x3 + 1)) (lv' := [(3, .int (x3 + 1)), (1, .int (x1 + (if 0 ≤ r27 then r27 else 0 - r27))), (0, .ref (K.2.2.2 0)), (2, .int x2)]) hx hb dX4_error_35 hl (k := 3) rfl rfl (by decide) rfl (fun ls hl => ?_)
      refine lv_goto (tgt := 18) hx hb dX4_error_38 (by decide) ?_
      exact ih _ _ _ _ _ h kk _ _ _ (lv_sub hl [2, 1, 3, 0] rfl) hH
def mX4_error_L8 : Nat → Int32 → Int32 → fm_S → Option (Int32)
  | 0, _, _, _ => none
  | n + 1, x1, x2, σ =>
    if (σ.1 60 0) ≤ x2 then
      some x1
    else
      mb1 (mX4_error_L18 fF x1 x2 (0 : Int32) σ) fun y18_1 =>
      mX4_error_L8 n y18_1 (x2 + 1) σ
set_option maxHeartbeats 4000000 in
set_option maxRecDepth 100000 in
theorem wX4_error_L8 {p : Program} {l : Launch} {e : Env} {s : State} {m : MethodId} {args : Array Value} {below : List Frame} {meth : Method} {c : Code} {Q : State → Prop} {K : fm_K} {A : Nat → Prop} (C : CallFix p m c cX4_error 4 s args wsX4_error RX4) (hst : fm_st K A s s.heap) (hA : ∀ q, fm_A K s.heap.size q → A q) :
    ∀ (n : Nat) (x1 : Int32) (x2 : Int32) (σ : fm_S) (o1 : Int32), mX4_error_L8 n x1 x2 σ = some o1 → (∀ (ls : Array Slot) (H : Heap) (locs : List Loc), lv_has ls 4 [(1, .int o1)] → fm_H K σ A s H locs → W p l e rmX4_error s m args below meth c H locs 0 0 Q (F0 m 47 ls [])) → ∀ (ls : Array Slot) (H : Heap) (locs : List Loc), lv_has ls 4 [(0, .ref (K.2.2.2 0)), (1, .int x1), (2, .int x2)] → fm_H K σ A s H locs → W p l e rmX4_error s m args below meth c H locs 0 0 Q (F0 m 8 ls []) := by
  obtain ⟨hx, hb, hml, hown, hts⟩ := id C
  intro n
  induction n with
  | zero => intro x1 x2 σ o1 h; simp [mX4_error_L8] at h
  | succ n ih =>
    intro x1 x2 σ o1 h kk ls H locs hl hH
    rw [mX4_error_L8] at h
    refine lv_iload_n hx hb dX4_error_8 rfl (lv_at hl 2 rfl) ?_
    refine lv_aload_n hx hb dX4_error_9 rfl (lv_at hl 0 rfl) ?_
    refine fm_getf (T := TX4) (N := 18) hx hb hts (fun _ h => List.mem_cons_of_mem _ (List.mem_append_left _ (List.mem_append_right _ h))) hown hst.1 hH 0 (fm_inb (by decide)) rfl (fm_ob_0 _ _) rfl 10 (by decide) (List.mem_of_getElem? (i := 1) rfl) rfl rfl dX4_error_10 ?_
    refine lv_icmp_ge (tgt := 47) hx hb dX4_error_13 (by decide) (fun hc => ?_) (fun hc => ?_)
    · replace h := mi_pos hc h
      cases h
      exact kk _ _ _ (lv_sub hl [1] rfl) hH
    · replace h := mi_neg hc h
      refine lv_iconst (v := 0) hx hb dX4_error_16 (by decide) ?_
      refine lv_istore_n (lv' := [(3, .int (0 : Int32)), (0, .ref (K.2.2.2 0)), (1, .int x1), (2, .int x2)]) hx hb dX4_error_17 rfl hl (by decide) rfl (fun ls hl => ?_)
      obtain ⟨y18_1, h18, h⟩ := mi_b1 h
      refine wX4_error_L18 C hst hA _ _ _ _ _ _ h18 (fun ls H locs hl hH => ?_) _ _ _ (lv_sub hl [1, 2, 3, 0] rfl) hH
      refine lv_iinc (v := (x2 + 1)) (lv' := [(2, .int (x2 + 1)), (0, .ref (K.2.2.2 0)), (1, .int y18_1)]) hx hb dX4_error_41 hl (k := 2) rfl rfl (by decide) rfl (fun ls hl => ?_)
      refine lv_goto (tgt := 8) hx hb dX4_error_44 (by decide) ?_
      exact ih _ _ _ _ h kk _ _ _ (lv_sub hl [1, 2, 0] rfl) hH
def mX4_error (σ : fm_S) : Option (Int32 × fm_S) :=
  mb1 (mX4_drawNet σ) fun σ1 =>
  mb1 (mX4_error_L8 fF (0 : Int32) (0 : Int32) σ1) fun y8_1 =>
  some (y8_1, σ1)
set_option maxHeartbeats 4000000 in
set_option maxRecDepth 100000 in
theorem kX4_error (l : Launch) (K : fm_K) {σ : fm_S} {r : Int32} {σ' : fm_S} (h : mX4_error σ = some (r, σ')) : fm_CI l yX4_error wsX4_error rmX4_error K [.ref (K.2.2.2 0)] σ r σ' := by
  intro sz
  refine fm_start (Qc := fun sz => fm_QI K r σ' sz) (cc := cX4_error) (maxL := 4) (ret := (some .int)) (by decide) rfl (Nat.le_of_ble_eq_true rfl) ?_
  intro p e s m args below meth c C hr hlk hst hH ls hl
  have C : CallFix p m c cX4_error 4 s args wsX4_error RX4 := C
  obtain ⟨hx, hb, hml, hown, hts⟩ := id C
  have hA : ∀ q, fm_A K s.heap.size q → fm_A K s.heap.size q := fun _ h => h
  have hl : lv_has ls 4 [(0, .ref (K.2.2.2 0))] := hl
  generalize hQ : MQ below _ args s _ _ _ = Q
  rw [mX4_error] at h
  refine lv_aload_n hx hb dX4_error_0 rfl (lv_at hl 0 rfl) ?_
  obtain ⟨σ1, h1, h⟩ := mi_b1 h
  refine fm_cv (va_runV (As := []) (rest := []) C (kX4_drawNet l K h1 _) (cwV 0 hts gX4_error_X4_drawNet rfl rfl rfl (by decide +kernel) ⟨(Nat.le_of_ble_eq_true rfl), (Nat.le_of_ble_eq_true rfl)⟩) ⟨fm_blind, fm_recv hst hH (q := 0) (fm_inb (by decide)) rfl (fm_ob_0 _ _) rfl, fm_pre hst hA hH⟩ rfl rfl hl.1 rfl (lv_room (Nat.le_of_ble_eq_true rfl)) dX4_error_1 ⟨(Nat.le_of_ble_eq_true rfl), (Nat.le_of_ble_eq_true rfl)⟩) hA hH (fun H locs hH => ?_)
  refine lv_iconst (v := 0) hx hb dX4_error_4 (by decide) ?_
  refine lv_istore_n (lv' := [(1, .int (0 : Int32)), (0, .ref (K.2.2.2 0))]) hx hb dX4_error_5 rfl hl (by decide) rfl (fun ls hl => ?_)
  refine lv_iconst (v := 0) hx hb dX4_error_6 (by decide) ?_
  refine lv_istore_n (lv' := [(2, .int (0 : Int32)), (1, .int (0 : Int32)), (0, .ref (K.2.2.2 0))]) hx hb dX4_error_7 rfl hl (by decide) rfl (fun ls hl => ?_)
  obtain ⟨y8_1, h8, h⟩ := mi_b1 h
  refine wX4_error_L8 C hst hA _ _ _ _ _ h8 (fun ls H locs hl hH => ?_) _ _ _ (lv_sub hl [2, 1, 0] rfl) hH
  refine lv_iload_n hx hb dX4_error_47 rfl (lv_at hl 0 rfl) ?_
  cases h
  subst hQ
  exact fm_iret hx hb hr hlk hst hH dX4_error_48
/-! RX4.stepOf(I[I)I -/
abbrev rmX4_stepOf : Room := { frames := 3, cells := 0, slots := 0, locals := 65 }
def mX4_stepOf_L5 (q2 : Nat) : Nat → Int32 → Int64 → Int32 → fm_S → Option (Int64)
  | 0, _, _, _, _ => none
  | n + 1, x1, x3, x5, σ =>
    if (σ.1 60 0) ≤ x5 then
      some x3
    else
      if (x1 < 0 ∨ (fm_len q2) ≤ x1.toNatClampNeg) then none else
      if (x5 < 0 ∨ (fm_len q2) ≤ x5.toNatClampNeg) then none else
      mb1 (mX4_excessOf x1 x5 σ) fun r30 =>
      mX4_stepOf_L5 q2 n x1 (x3 + ((r30.toInt64) * (((rI σ q2 x1) - (rI σ q2 x5)).toInt64))) (x5 + 1) σ
set_option maxHeartbeats 4000000 in
set_option maxRecDepth 100000 in
theorem wX4_stepOf_L5 {p : Program} {l : Launch} {e : Env} {s : State} {m : MethodId} {args : Array Value} {below : List Frame} {meth : Method} {c : Code} {Q : State → Prop} {K : fm_K} {A : Nat → Prop} {q2 : Nat} (hq2 : fm_in K q2) (ht2 : fm_ty q2 = 1) (C : CallFix p m c cX4_stepOf 8 s args wsX4_stepOf RX4) (hst : fm_st K A s s.heap) (hA : ∀ q, fm_A K s.heap.size q → A q) :
    ∀ (n : Nat) (x1 : Int32) (x3 : Int64) (x5 : Int32) (σ : fm_S) (o3 : Int64), mX4_stepOf_L5 q2 n x1 x3 x5 σ = some o3 → (∀ (ls : Array Slot) (H : Heap) (locs : List Loc), lv_has ls 8 [(3, .long o3)] → fm_H K σ A s H locs → W p l e rmX4_stepOf s m args below meth c H locs 0 0 Q (F0 m 45 ls [])) → ∀ (ls : Array Slot) (H : Heap) (locs : List Loc), lv_has ls 8 [(0, .ref (K.2.2.2 0)), (1, .int x1), (2, .ref (K.2.2.2 q2)), (3, .long x3), (5, .int x5)] → fm_H K σ A s H locs → W p l e rmX4_stepOf s m args below meth c H locs 0 0 Q (F0 m 5 ls []) := by
  obtain ⟨hx, hb, hml, hown, hts⟩ := id C
  intro n
  induction n with
  | zero => intro x1 x3 x5 σ o3 h; simp [mX4_stepOf_L5] at h
  | succ n ih =>
    intro x1 x3 x5 σ o3 h kk ls H locs hl hH
    rw [mX4_stepOf_L5] at h
    refine lv_iload hx hb dX4_stepOf_5 (lv_at hl 4 rfl) ?_
    refine lv_aload_n hx hb dX4_stepOf_7 rfl (lv_at hl 0 rfl) ?_
    refine fm_getf (T := TX4) (N := 18) hx hb hts (fun _ h => List.mem_cons_of_mem _ (List.mem_append_left _ (List.mem_append_right _ h))) hown hst.1 hH 0 (fm_inb (by decide)) rfl (fm_ob_0 _ _) rfl 10 (by decide) (List.mem_of_getElem? (i := 1) rfl) rfl rfl dX4_stepOf_8 ?_
    refine lv_icmp_ge (tgt := 45) hx hb dX4_stepOf_11 (by decide) (fun hc => ?_) (fun hc => ?_)
    · replace h := mi_pos hc h
      cases h
      exact kk _ _ _ (lv_sub hl [3] rfl) hH
    · replace h := mi_neg hc h
      refine lv_aload_n hx hb dX4_stepOf_14 rfl (lv_at hl 2 rfl) ?_
      refine lv_iload_n hx hb dX4_stepOf_15 rfl (lv_at hl 1 rfl) ?_
      obtain ⟨hi1, h⟩ := mi_chk h
      refine fm_ild hx hb hst.1 hH q2 hq2 ht2 rfl hi1 dX4_stepOf_16 ?_
      refine lv_aload_n hx hb dX4_stepOf_17 rfl (lv_at hl 2 rfl) ?_
      refine lv_iload hx hb dX4_stepOf_18 (lv_at hl 4 rfl) ?_
      obtain ⟨hi2, h⟩ := mi_chk h
      refine fm_ild hx hb hst.1 hH q2 hq2 ht2 rfl hi2 dX4_stepOf_20 ?_
      refine lv_isub hx hb dX4_stepOf_21 ?_
      refine lv_i2l (v := ((rI σ q2 x1) - (rI σ q2 x5)).toInt64) hx hb dX4_stepOf_22 rfl ?_
      refine lv_lstore (lv' := [(6, .long (((rI σ q2 x1) - (rI σ q2 x5)).toInt64)), (0, .ref (K.2.2.2 0)), (1, .int x1), (2, .ref (K.2.2.2 q2)), (3, .long x3), (5, .int x5)]) hx hb dX4_stepOf_23 hl (by decide) rfl (fun ls hl => ?_)
      refine lv_lload_n hx hb dX4_stepOf_25 rfl (lv_at hl 4 rfl) ?_
      refine lv_aload_n hx hb dX4_stepOf_26 rfl (lv_at hl 1 rfl) ?_
      refine lv_iload_n hx hb dX4_stepOf_27 rfl (lv_at hl 2 rfl) ?_
      refine lv_iload hx hb dX4_stepOf_28 (lv_at hl 5 rfl) ?_
      obtain ⟨r30, h30, h⟩ := mi_b1 h
      refine fm_ci (va_runV (As := [.int x1, .int x5]) (rest := [.long x3]) C (kX4_excessOf l K h30 _) (cwV 2 hts gX4_stepOf_X4_excessOf rfl rfl rfl (by decide +kernel) ⟨(Nat.le_of_ble_eq_true rfl), (Nat.le_of_ble_eq_true rfl)⟩) ⟨fm_blind, fm_recv hst hH (q := 0) (fm_inb (by decide)) rfl (fm_ob_0 _ _) rfl, fm_pre hst hA hH⟩ rfl rfl hl.1 rfl (lv_room (Nat.le_of_ble_eq_true rfl)) dX4_stepOf_30 ⟨(Nat.le_of_ble_eq_true rfl), (Nat.le_of_ble_eq_true rfl)⟩) hA hH (fun H locs hH => ?_)
      refine lv_i2l (v := r30.toInt64) hx hb dX4_stepOf_33 rfl ?_
      refine lv_lload hx hb dX4_stepOf_34 (lv_at hl 0 rfl) ?_
      refine lv_lmul hx hb dX4_stepOf_36 ?_
      refine lv_ladd hx hb dX4_stepOf_37 ?_
      refine lv_lstore_n (lv' := [(3, .long (x3 + ((r30.toInt64) * (((rI σ q2 x1) - (rI σ q2 x5)).toInt64)))), (6, .long (((rI σ q2 x1) - (rI σ q2 x5)).toInt64)), (0, .ref (K.2.2.2 0)), (1, .int x1), (2, .ref (K.2.2.2 q2)), (5, .int x5)]) hx hb dX4_stepOf_38 rfl hl (by decide) rfl (fun ls hl => ?_)
      refine lv_iinc (v := (x5 + 1)) (lv' := [(5, .int (x5 + 1)), (3, .long (x3 + ((r30.toInt64) * (((rI σ q2 x1) - (rI σ q2 x5)).toInt64)))), (6, .long (((rI σ q2 x1) - (rI σ q2 x5)).toInt64)), (0, .ref (K.2.2.2 0)), (1, .int x1), (2, .ref (K.2.2.2 q2))]) hx hb dX4_stepOf_39 hl (k := 5) rfl rfl (by decide) rfl (fun ls hl => ?_)
      refine lv_goto (tgt := 5) hx hb dX4_stepOf_42 (by decide) ?_
      exact ih _ _ _ _ _ h kk _ _ _ (lv_sub hl [3, 4, 5, 1, 0] rfl) hH
def mX4_stepOf (q2 : Nat) (x1 : Int32) (σ : fm_S) : Option Int32 :=
  mb1 (mX4_stepOf_L5 q2 fF x1 (0 : Int64) (0 : Int32) σ) fun y5_3 =>
  some ((if (if (y5_3 / (1000000 : Int64)) < (50 : Int64) then (y5_3 / (1000000 : Int64)) else (50 : Int64)) < (-50 : Int64) then (-50 : Int64) else (if (y5_3 / (1000000 : Int64)) < (50 : Int64) then (y5_3 / (1000000 : Int64)) else (50 : Int64))).toInt32)
set_option maxHeartbeats 4000000 in
set_option maxRecDepth 100000 in
theorem kX4_stepOf (l : Launch) (K : fm_K) {q2 : Nat} (hq2 : fm_in K q2) (ht2 : fm_ty q2 = 1) {x1 : Int32} {σ : fm_S} {r : Int32} (h : mX4_stepOf q2 x1 σ = some r) : fm_CI l yX4_stepOf wsX4_stepOf rmX4_stepOf K [.ref (K.2.2.2 0), .int x1, .ref (K.2.2.2 q2)] σ r σ := by
  intro sz
  refine fm_start (Qc := fun sz => fm_QI K r σ sz) (cc := cX4_stepOf) (maxL := 8) (ret := (some .int)) (by decide) rfl (Nat.le_of_ble_eq_true rfl) ?_
  intro p e s m args below meth c C hr hlk hst hH ls hl
  have C : CallFix p m c cX4_stepOf 8 s args wsX4_stepOf RX4 := C
  obtain ⟨hx, hb, hml, hown, hts⟩ := id C
  have hA : ∀ q, fm_A K s.heap.size q → fm_A K s.heap.size q := fun _ h => h
  have hl : lv_has ls 8 [(0, .ref (K.2.2.2 0)), (1, .int x1), (2, .ref (K.2.2.2 q2))] := hl
  generalize hQ : MQ below _ args s _ _ _ = Q
  rw [mX4_stepOf] at h
  refine lv_lconst (v := 0) hx hb dX4_stepOf_0 (by decide) ?_
  refine lv_lstore_n (lv' := [(3, .long (0 : Int64)), (0, .ref (K.2.2.2 0)), (1, .int x1), (2, .ref (K.2.2.2 q2))]) hx hb dX4_stepOf_1 rfl hl (by decide) rfl (fun ls hl => ?_)
  refine lv_iconst (v := 0) hx hb dX4_stepOf_2 (by decide) ?_
  refine lv_istore (lv' := [(5, .int (0 : Int32)), (3, .long (0 : Int64)), (0, .ref (K.2.2.2 0)), (1, .int x1), (2, .ref (K.2.2.2 q2))]) hx hb dX4_stepOf_3 hl (by decide) rfl (fun ls hl => ?_)
  obtain ⟨y5_3, h5, h⟩ := mi_b1 h
  refine wX4_stepOf_L5 hq2 ht2 C hst hA _ _ _ _ _ _ h5 (fun ls H locs hl hH => ?_) _ _ _ (lv_sub hl [2, 3, 4, 1, 0] rfl) hH
  refine lv_lload_n hx hb dX4_stepOf_45 rfl (lv_at hl 0 rfl) ?_
  refine lv_ldc2 (v := 1000000) hx hb hown (hts (.constantLong RX4 251 (1000000)) (List.mem_of_getElem? (i := 2) rfl)) dX4_stepOf_46 ?_
  refine lv_ldiv hx hb dX4_stepOf_49 (by decide) ?_
  refine lv_lstore (lv' := [(5, .long (y5_3 / (1000000 : Int64))), (3, .long y5_3)]) hx hb dX4_stepOf_50 hl (by decide) rfl (fun ls hl => ?_)
  refine lv_ldc2 (v := -50) hx hb hown (hts (.constantLong RX4 253 (-50)) (List.mem_of_getElem? (i := 3) rfl)) dX4_stepOf_52 ?_
  refine lv_ldc2 (v := 50) hx hb hown (hts (.constantLong RX4 255 (50)) (List.mem_of_getElem? (i := 4) rfl)) dX4_stepOf_55 ?_
  refine lv_lload hx hb dX4_stepOf_58 (lv_at hl 0 rfl) ?_
  refine va_mmin_long hx hb (hml.trans hl.1.symm) hown (hts (.methodLink RX4 257 Lib.MathLoose.min_long.x) (List.mem_of_getElem? (i := 5) rfl)) (hts (.static Lib.MathLoose.min_long.x) (List.mem_of_getElem? (i := 6) rfl)) (hts (.initialized "java/lang/Math") (List.mem_of_getElem? (i := 7) rfl)) (hts (.code Lib.MathLoose.min_long.x Lib.MathLoose.min_long.code 4 (some .long)) (List.mem_of_getElem? (i := 8) rfl)) (Nat.le_of_ble_eq_true rfl) (Nat.le_of_ble_eq_true rfl) (Nat.le_of_ble_eq_true rfl) (Nat.le_of_ble_eq_true rfl) dX4_stepOf_60 ?_
  refine va_mmax_long hx hb (hml.trans hl.1.symm) hown (hts (.methodLink RX4 260 Lib.MathLoose.max_long.x) (List.mem_of_getElem? (i := 9) rfl)) (hts (.static Lib.MathLoose.max_long.x) (List.mem_of_getElem? (i := 10) rfl)) (hts (.initialized "java/lang/Math") (List.mem_of_getElem? (i := 7) rfl)) (hts (.code Lib.MathLoose.max_long.x Lib.MathLoose.max_long.code 4 (some .long)) (List.mem_of_getElem? (i := 11) rfl)) (Nat.le_of_ble_eq_true rfl) (Nat.le_of_ble_eq_true rfl) (Nat.le_of_ble_eq_true rfl) (Nat.le_of_ble_eq_true rfl) dX4_stepOf_63 ?_
  refine lv_l2i (v := (if (if (y5_3 / (1000000 : Int64)) < (50 : Int64) then (y5_3 / (1000000 : Int64)) else (50 : Int64)) < (-50 : Int64) then (-50 : Int64) else (if (y5_3 / (1000000 : Int64)) < (50 : Int64) then (y5_3 / (1000000 : Int64)) else (50 : Int64))).toInt32) hx hb dX4_stepOf_66 rfl ?_
  cases h
  subst hQ
  exact fm_iret hx hb hr hlk hst hH dX4_stepOf_67
/-! RX4.keptOnPlane(I)I -/
abbrev rmX4_keptOnPlane : Room := { frames := 1, cells := 0, slots := 0, locals := 24 }
def mX4_keptOnPlane (x0 : Int32) : Option Int32 :=
  some (if (-1000 : Int32) < (if x0 < (1000 : Int32) then x0 else (1000 : Int32)) then (if x0 < (1000 : Int32) then x0 else (1000 : Int32)) else (-1000 : Int32))
set_option maxHeartbeats 4000000 in
set_option maxRecDepth 100000 in
theorem kX4_keptOnPlane (l : Launch) (K : fm_K) {x0 : Int32} {σ : fm_S} {r : Int32} (h : mX4_keptOnPlane x0 = some r) : fm_CI l yX4_keptOnPlane wsX4_keptOnPlane rmX4_keptOnPlane K [.int x0] σ r σ := by
  intro sz
  refine fm_start (Qc := fun sz => fm_QI K r σ sz) (cc := cX4_keptOnPlane) (maxL := 1) (ret := (some .int)) (by decide) rfl (Nat.le_of_ble_eq_true rfl) ?_
  intro p e s m args below meth c C hr hlk hst hH ls hl
  have C : CallFix p m c cX4_keptOnPlane 1 s args wsX4_keptOnPlane RX4 := C
  obtain ⟨hx, hb, hml, hown, hts⟩ := id C
  have hA : ∀ q, fm_A K s.heap.size q → fm_A K s.heap.size q := fun _ h => h
  have hl : lv_has ls 1 [(0, .int x0)] := hl
  generalize hQ : MQ below _ args s _ _ _ = Q
  rw [mX4_keptOnPlane] at h
  refine lv_sipush (v := -1000) hx hb dX4_keptOnPlane_0 (by decide) ?_
  refine lv_sipush (v := 1000) hx hb dX4_keptOnPlane_3 (by decide) ?_
  refine lv_iload_n hx hb dX4_keptOnPlane_6 rfl (lv_at hl 0 rfl) ?_
  refine va_mmin hx hb (hml.trans hl.1.symm) hown (hts (.methodLink RX4 234 Lib.Math.min.name) (List.mem_of_getElem? (i := 1) rfl)) (hts (.static Lib.Math.min.name) (List.mem_of_getElem? (i := 2) rfl)) (hts (.initialized "java/lang/Math") (List.mem_of_getElem? (i := 3) rfl)) (hts (.code Lib.Math.min.name Lib.Math.min.code 2 (some .int)) (List.mem_of_getElem? (i := 4) rfl)) (Nat.le_of_ble_eq_true rfl) (Nat.le_of_ble_eq_true rfl) (Nat.le_of_ble_eq_true rfl) (Nat.le_of_ble_eq_true rfl) dX4_keptOnPlane_7 ?_
  refine va_mmax hx hb (hml.trans hl.1.symm) hown (hts (.methodLink RX4 231 Lib.Math.max.name) (List.mem_of_getElem? (i := 5) rfl)) (hts (.static Lib.Math.max.name) (List.mem_of_getElem? (i := 6) rfl)) (hts (.initialized "java/lang/Math") (List.mem_of_getElem? (i := 3) rfl)) (hts (.code Lib.Math.max.name Lib.Math.max.code 2 (some .int)) (List.mem_of_getElem? (i := 7) rfl)) (Nat.le_of_ble_eq_true rfl) (Nat.le_of_ble_eq_true rfl) (Nat.le_of_ble_eq_true rfl) (Nat.le_of_ble_eq_true rfl) dX4_keptOnPlane_10 ?_
  cases h
  subst hQ
  exact fm_iret hx hb hr hlk hst hH dX4_keptOnPlane_13
/-! RX4.stepTogether()V -/
abbrev rmX4_stepTogether : Room := { frames := 4, cells := 0, slots := 0, locals := 92 }
def mX4_stepTogether_L6 : Nat → Int32 → fm_S → Option (fm_S)
  | 0, _, _ => none
  | n + 1, x1, σ =>
    if (σ.1 60 0) ≤ x1 then
      some σ
    else
      mb1 (mX4_stepOf 1 x1 σ) fun r25 =>
      if (x1 < 0 ∨ 8 ≤ x1.toNatClampNeg) then none else
      mb1 (mX4_stepOf 2 x1 (sI σ 22 x1 r25)) fun r40 =>
      mX4_stepTogether_L6 n (x1 + 1) (sI (sI σ 22 x1 r25) 23 x1 r40)
set_option maxHeartbeats 4000000 in
set_option maxRecDepth 100000 in
theorem wX4_stepTogether_L6 {p : Program} {l : Launch} {e : Env} {s : State} {m : MethodId} {args : Array Value} {below : List Frame} {meth : Method} {c : Code} {Q : State → Prop} {K : fm_K} {A : Nat → Prop} (C : CallFix p m c cX4_stepTogether 2 s args wsX4_stepTogether RX4) (hst : fm_st K A s s.heap) (hA : ∀ q, fm_A K s.heap.size q → A q) :
    ∀ (n : Nat) (x1 : Int32) (σ : fm_S) (σo : fm_S), mX4_stepTogether_L6 n x1 σ = some σo → (∀ (ls : Array Slot) (H : Heap) (locs : List Loc), lv_has ls 2 [(0, .ref (K.2.2.2 0))] → fm_H K σo A s H locs → W p l e rmX4_stepTogether s m args below meth c H locs 0 0 Q (F0 m 50 ls [])) → ∀ (ls : Array Slot) (H : Heap) (locs : List Loc), lv_has ls 2 [(0, .ref (K.2.2.2 0)), (1, .int x1)] → fm_H K σ A s H locs → W p l e rmX4_stepTogether s m args below meth c H locs 0 0 Q (F0 m 6 ls []) := by
  obtain ⟨hx, hb, hml, hown, hts⟩ := id C
  intro n
  induction n with
  | zero => intro x1 σ σo h; simp [mX4_stepTogether_L6] at h
  | succ n ih =>
    intro x1 σ σo h kk ls H locs hl hH
    rw [mX4_stepTogether_L6] at h
    refine lv_iload_n hx hb dX4_stepTogether_6 rfl (lv_at hl 1 rfl) ?_
    refine lv_aload_n hx hb dX4_stepTogether_7 rfl (lv_at hl 0 rfl) ?_
    refine fm_getf (T := TX4) (N := 18) hx hb hts (fun _ h => List.mem_cons_of_mem _ (List.mem_append_left _ (List.mem_append_right _ h))) hown hst.1 hH 0 (fm_inb (by decide)) rfl (fm_ob_0 _ _) rfl 10 (by decide) (List.mem_of_getElem? (i := 1) rfl) rfl rfl dX4_stepTogether_8 ?_
    refine lv_icmp_ge (tgt := 50) hx hb dX4_stepTogether_11 (by decide) (fun hc => ?_) (fun hc => ?_)
    · replace h := mi_pos hc h
      cases h
      exact kk _ _ _ (lv_sub hl [0] rfl) hH
    · replace h := mi_neg hc h
      refine lv_aload_n hx hb dX4_stepTogether_14 rfl (lv_at hl 0 rfl) ?_
      refine fm_getf (T := TX4) (N := 18) hx hb hts (fun _ h => List.mem_cons_of_mem _ (List.mem_append_left _ (List.mem_append_right _ h))) hown hst.1 hH 0 (fm_inb (by decide)) rfl (fm_ob_0 _ _) rfl 13 (by decide) (List.mem_of_getElem? (i := 2) rfl) rfl rfl dX4_stepTogether_15 ?_
      refine lv_iload_n hx hb dX4_stepTogether_18 rfl (lv_at hl 1 rfl) ?_
      refine lv_aload_n hx hb dX4_stepTogether_19 rfl (lv_at hl 0 rfl) ?_
      refine lv_iload_n hx hb dX4_stepTogether_20 rfl (lv_at hl 1 rfl) ?_
      refine lv_aload_n hx hb dX4_stepTogether_21 rfl (lv_at hl 0 rfl) ?_
      refine fm_getf (T := TX4) (N := 18) hx hb hts (fun _ h => List.mem_cons_of_mem _ (List.mem_append_left _ (List.mem_append_right _ h))) hown hst.1 hH 0 (fm_inb (by decide)) rfl (fm_ob_0 _ _) rfl 0 (by decide) (List.mem_of_getElem? (i := 3) rfl) rfl rfl dX4_stepTogether_22 ?_
      obtain ⟨r25, h25, h⟩ := mi_b1 h
      refine fm_ci (va_runV (As := [.int x1, .ref (K.2.2.2 1)]) (rest := [.int x1, .ref (K.2.2.2 22)]) C (kX4_stepOf l K (fm_inb (by decide)) rfl h25 _) (cwV 2 hts gX4_stepTogether_X4_stepOf rfl rfl rfl (by decide +kernel) ⟨(Nat.le_of_ble_eq_true rfl), (Nat.le_of_ble_eq_true rfl)⟩) ⟨fm_blind, fm_recv hst hH (q := 0) (fm_inb (by decide)) rfl (fm_ob_0 _ _) rfl, fm_pre hst hA hH⟩ rfl rfl hl.1 rfl (lv_room (Nat.le_of_ble_eq_true rfl)) dX4_stepTogether_25 ⟨(Nat.le_of_ble_eq_true rfl), (Nat.le_of_ble_eq_true rfl)⟩) hA hH (fun H locs hH => ?_)
      obtain ⟨hi1, h⟩ := mi_chk h
      refine fm_ist hx hb hst.1 hH 22 (fm_inb (by decide)) rfl rfl hi1 dX4_stepTogether_28 (fun H locs hH => ?_)
      refine lv_aload_n hx hb dX4_stepTogether_29 rfl (lv_at hl 0 rfl) ?_
      refine fm_getf (T := TX4) (N := 18) hx hb hts (fun _ h => List.mem_cons_of_mem _ (List.mem_append_left _ (List.mem_append_right _ h))) hown hst.1 hH 0 (fm_inb (by decide)) rfl (fm_ob_0 _ _) rfl 14 (by decide) (List.mem_of_getElem? (i := 4) rfl) rfl rfl dX4_stepTogether_30 ?_
      refine lv_iload_n hx hb dX4_stepTogether_33 rfl (lv_at hl 1 rfl) ?_
      refine lv_aload_n hx hb dX4_stepTogether_34 rfl (lv_at hl 0 rfl) ?_
      refine lv_iload_n hx hb dX4_stepTogether_35 rfl (lv_at hl 1 rfl) ?_
      refine lv_aload_n hx hb dX4_stepTogether_36 rfl (lv_at hl 0 rfl) ?_
      refine fm_getf (T := TX4) (N := 18) hx hb hts (fun _ h => List.mem_cons_of_mem _ (List.mem_append_left _ (List.mem_append_right _ h))) hown hst.1 hH 0 (fm_inb (by decide)) rfl (fm_ob_0 _ _) rfl 1 (by decide) (List.mem_of_getElem? (i := 5) rfl) rfl rfl dX4_stepTogether_37 ?_
      obtain ⟨r40, h40, h⟩ := mi_b1 h
      refine fm_ci (va_runV (As := [.int x1, .ref (K.2.2.2 2)]) (rest := [.int x1, .ref (K.2.2.2 23)]) C (kX4_stepOf l K (fm_inb (by decide)) rfl h40 _) (cwV 2 hts gX4_stepTogether_X4_stepOf rfl rfl rfl (by decide +kernel) ⟨(Nat.le_of_ble_eq_true rfl), (Nat.le_of_ble_eq_true rfl)⟩) ⟨fm_blind, fm_recv hst hH (q := 0) (fm_inb (by decide)) rfl (fm_ob_0 _ _) rfl, fm_pre hst hA hH⟩ rfl rfl hl.1 rfl (lv_room (Nat.le_of_ble_eq_true rfl)) dX4_stepTogether_40 ⟨(Nat.le_of_ble_eq_true rfl), (Nat.le_of_ble_eq_true rfl)⟩) hA hH (fun H locs hH => ?_)
      refine fm_ist hx hb hst.1 hH 23 (fm_inb (by decide)) rfl rfl hi1 dX4_stepTogether_43 (fun H locs hH => ?_)
      refine lv_iinc (v := (x1 + 1)) (lv' := [(1, .int (x1 + 1)), (0, .ref (K.2.2.2 0))]) hx hb dX4_stepTogether_44 hl (k := 1) rfl rfl (by decide) rfl (fun ls hl => ?_)
      refine lv_goto (tgt := 6) hx hb dX4_stepTogether_47 (by decide) ?_
      exact ih _ _ _ h kk _ _ _ (lv_sub hl [1, 0] rfl) hH
def mX4_stepTogether_L52 : Nat → Int32 → fm_S → Option (fm_S)
  | 0, _, _ => none
  | n + 1, x1, σ =>
    if (σ.1 60 0) ≤ x1 then
      some σ
    else
      if (x1 < 0 ∨ 8 ≤ x1.toNatClampNeg) then none else
      mb1 (mX4_keptOnPlane ((rI σ 1 x1) - (rI σ 22 x1))) fun r78 =>
      mb1 (mX4_keptOnPlane ((rI (sI σ 1 x1 r78) 2 x1) - (rI (sI σ 1 x1 r78) 23 x1))) fun r100 =>
      mX4_stepTogether_L52 n (x1 + 1) (sI (sI σ 1 x1 r78) 2 x1 r100)
set_option maxHeartbeats 4000000 in
set_option maxRecDepth 100000 in
theorem wX4_stepTogether_L52 {p : Program} {l : Launch} {e : Env} {s : State} {m : MethodId} {args : Array Value} {below : List Frame} {meth : Method} {c : Code} {Q : State → Prop} {K : fm_K} {A : Nat → Prop} (C : CallFix p m c cX4_stepTogether 2 s args wsX4_stepTogether RX4) (hst : fm_st K A s s.heap) (hA : ∀ q, fm_A K s.heap.size q → A q) :
    ∀ (n : Nat) (x1 : Int32) (σ : fm_S) (σo : fm_S), mX4_stepTogether_L52 n x1 σ = some σo → (∀ (ls : Array Slot) (H : Heap) (locs : List Loc), lv_has ls 2 [] → fm_H K σo A s H locs → W p l e rmX4_stepTogether s m args below meth c H locs 0 0 Q (F0 m 110 ls [])) → ∀ (ls : Array Slot) (H : Heap) (locs : List Loc), lv_has ls 2 [(0, .ref (K.2.2.2 0)), (1, .int x1)] → fm_H K σ A s H locs → W p l e rmX4_stepTogether s m args below meth c H locs 0 0 Q (F0 m 52 ls []) := by
  obtain ⟨hx, hb, hml, hown, hts⟩ := id C
  intro n
  induction n with
  | zero => intro x1 σ σo h; simp [mX4_stepTogether_L52] at h
  | succ n ih =>
    intro x1 σ σo h kk ls H locs hl hH
    rw [mX4_stepTogether_L52] at h
    refine lv_iload_n hx hb dX4_stepTogether_52 rfl (lv_at hl 1 rfl) ?_
    refine lv_aload_n hx hb dX4_stepTogether_53 rfl (lv_at hl 0 rfl) ?_
    refine fm_getf (T := TX4) (N := 18) hx hb hts (fun _ h => List.mem_cons_of_mem _ (List.mem_append_left _ (List.mem_append_right _ h))) hown hst.1 hH 0 (fm_inb (by decide)) rfl (fm_ob_0 _ _) rfl 10 (by decide) (List.mem_of_getElem? (i := 1) rfl) rfl rfl dX4_stepTogether_54 ?_
    refine lv_icmp_ge (tgt := 110) hx hb dX4_stepTogether_57 (by decide) (fun hc => ?_) (fun hc => ?_)
    · replace h := mi_pos hc h
      cases h
      exact kk _ _ _ (lv_sub hl [] rfl) hH
    · replace h := mi_neg hc h
      refine lv_aload_n hx hb dX4_stepTogether_60 rfl (lv_at hl 0 rfl) ?_
      refine fm_getf (T := TX4) (N := 18) hx hb hts (fun _ h => List.mem_cons_of_mem _ (List.mem_append_left _ (List.mem_append_right _ h))) hown hst.1 hH 0 (fm_inb (by decide)) rfl (fm_ob_0 _ _) rfl 0 (by decide) (List.mem_of_getElem? (i := 3) rfl) rfl rfl dX4_stepTogether_61 ?_
      refine lv_iload_n hx hb dX4_stepTogether_64 rfl (lv_at hl 1 rfl) ?_
      refine lv_aload_n hx hb dX4_stepTogether_65 rfl (lv_at hl 0 rfl) ?_
      refine fm_getf (T := TX4) (N := 18) hx hb hts (fun _ h => List.mem_cons_of_mem _ (List.mem_append_left _ (List.mem_append_right _ h))) hown hst.1 hH 0 (fm_inb (by decide)) rfl (fm_ob_0 _ _) rfl 0 (by decide) (List.mem_of_getElem? (i := 3) rfl) rfl rfl dX4_stepTogether_66 ?_
      refine lv_iload_n hx hb dX4_stepTogether_69 rfl (lv_at hl 1 rfl) ?_
      obtain ⟨hi2, h⟩ := mi_chk h
      refine fm_ild hx hb hst.1 hH 1 (fm_inb (by decide)) rfl rfl hi2 dX4_stepTogether_70 ?_
      refine lv_aload_n hx hb dX4_stepTogether_71 rfl (lv_at hl 0 rfl) ?_
      refine fm_getf (T := TX4) (N := 18) hx hb hts (fun _ h => List.mem_cons_of_mem _ (List.mem_append_left _ (List.mem_append_right _ h))) hown hst.1 hH 0 (fm_inb (by decide)) rfl (fm_ob_0 _ _) rfl 13 (by decide) (List.mem_of_getElem? (i := 2) rfl) rfl rfl dX4_stepTogether_72 ?_
      refine lv_iload_n hx hb dX4_stepTogether_75 rfl (lv_at hl 1 rfl) ?_
      refine fm_ild hx hb hst.1 hH 22 (fm_inb (by decide)) rfl rfl hi2 dX4_stepTogether_76 ?_
      refine lv_isub hx hb dX4_stepTogether_77 ?_
      obtain ⟨r78, h78, h⟩ := mi_b1 h
      refine fm_ci (va_runS (As := [.int ((rI σ 1 x1) - (rI σ 22 x1))]) (rest := [.int x1, .ref (K.2.2.2 1)]) C (kX4_keptOnPlane l K h78 _) (va_cwS 1 hts gX4_stepTogether_X4_keptOnPlane rfl rfl rfl (by decide +kernel) ⟨(Nat.le_of_ble_eq_true rfl), (Nat.le_of_ble_eq_true rfl)⟩) ⟨fm_blind, fm_pre hst hA hH⟩ rfl rfl hl.1 rfl (lv_room (Nat.le_of_ble_eq_true rfl)) dX4_stepTogether_78 ⟨(Nat.le_of_ble_eq_true rfl), (Nat.le_of_ble_eq_true rfl)⟩) hA hH (fun H locs hH => ?_)
      refine fm_ist hx hb hst.1 hH 1 (fm_inb (by decide)) rfl rfl hi2 dX4_stepTogether_81 (fun H locs hH => ?_)
      refine lv_aload_n hx hb dX4_stepTogether_82 rfl (lv_at hl 0 rfl) ?_
      refine fm_getf (T := TX4) (N := 18) hx hb hts (fun _ h => List.mem_cons_of_mem _ (List.mem_append_left _ (List.mem_append_right _ h))) hown hst.1 hH 0 (fm_inb (by decide)) rfl (fm_ob_0 _ _) rfl 1 (by decide) (List.mem_of_getElem? (i := 5) rfl) rfl rfl dX4_stepTogether_83 ?_
      refine lv_iload_n hx hb dX4_stepTogether_86 rfl (lv_at hl 1 rfl) ?_
      refine lv_aload_n hx hb dX4_stepTogether_87 rfl (lv_at hl 0 rfl) ?_
      refine fm_getf (T := TX4) (N := 18) hx hb hts (fun _ h => List.mem_cons_of_mem _ (List.mem_append_left _ (List.mem_append_right _ h))) hown hst.1 hH 0 (fm_inb (by decide)) rfl (fm_ob_0 _ _) rfl 1 (by decide) (List.mem_of_getElem? (i := 5) rfl) rfl rfl dX4_stepTogether_88 ?_
      refine lv_iload_n hx hb dX4_stepTogether_91 rfl (lv_at hl 1 rfl) ?_
      refine fm_ild hx hb hst.1 hH 2 (fm_inb (by decide)) rfl rfl hi2 dX4_stepTogether_92 ?_
      refine lv_aload_n hx hb dX4_stepTogether_93 rfl (lv_at hl 0 rfl) ?_
      refine fm_getf (T := TX4) (N := 18) hx hb hts (fun _ h => List.mem_cons_of_mem _ (List.mem_append_left _ (List.mem_append_right _ h))) hown hst.1 hH 0 (fm_inb (by decide)) rfl (fm_ob_0 _ _) rfl 14 (by decide) (List.mem_of_getElem? (i := 4) rfl) rfl rfl dX4_stepTogether_94 ?_
      refine lv_iload_n hx hb dX4_stepTogether_97 rfl (lv_at hl 1 rfl) ?_
      refine fm_ild hx hb hst.1 hH 23 (fm_inb (by decide)) rfl rfl hi2 dX4_stepTogether_98 ?_
      refine lv_isub hx hb dX4_stepTogether_99 ?_
      obtain ⟨r100, h100, h⟩ := mi_b1 h
      refine fm_ci (va_runS (As := [.int ((rI (sI σ 1 x1 r78) 2 x1) - (rI (sI σ 1 x1 r78) 23 x1))]) (rest := [.int x1, .ref (K.2.2.2 2)]) C (kX4_keptOnPlane l K h100 _) (va_cwS 1 hts gX4_stepTogether_X4_keptOnPlane rfl rfl rfl (by decide +kernel) ⟨(Nat.le_of_ble_eq_true rfl), (Nat.le_of_ble_eq_true rfl)⟩) ⟨fm_blind, fm_pre hst hA hH⟩ rfl rfl hl.1 rfl (lv_room (Nat.le_of_ble_eq_true rfl)) dX4_stepTogether_100 ⟨(Nat.le_of_ble_eq_true rfl), (Nat.le_of_ble_eq_true rfl)⟩) hA hH (fun H locs hH => ?_)
      refine fm_ist hx hb hst.1 hH 2 (fm_inb (by decide)) rfl rfl hi2 dX4_stepTogether_103 (fun H locs hH => ?_)
      refine lv_iinc (v := (x1 + 1)) (lv' := [(1, .int (x1 + 1)), (0, .ref (K.2.2.2 0))]) hx hb dX4_stepTogether_104 hl (k := 1) rfl rfl (by decide) rfl (fun ls hl => ?_)
      refine lv_goto (tgt := 52) hx hb dX4_stepTogether_107 (by decide) ?_
      exact ih _ _ _ h kk _ _ _ (lv_sub hl [1, 0] rfl) hH
def mX4_stepTogether (σ : fm_S) : Option fm_S :=
  mb1 (mX4_drawNet σ) fun σ1 =>
  mb1 (mX4_stepTogether_L6 fF (0 : Int32) σ1) fun σ6 =>
  mb1 (mX4_stepTogether_L52 fF (0 : Int32) σ6) fun σ52 =>
  some σ52
set_option maxHeartbeats 4000000 in
set_option maxRecDepth 100000 in
theorem kX4_stepTogether (l : Launch) (K : fm_K) {σ : fm_S} {σ' : fm_S} (h : mX4_stepTogether σ = some σ') : fm_CV l yX4_stepTogether wsX4_stepTogether rmX4_stepTogether K [.ref (K.2.2.2 0)] σ σ' := by
  intro sz
  refine fm_start (Qc := fun sz => fm_QV K σ' sz) (cc := cX4_stepTogether) (maxL := 2) (ret := none) (by decide) rfl (Nat.le_of_ble_eq_true rfl) ?_
  intro p e s m args below meth c C hr hlk hst hH ls hl
  have C : CallFix p m c cX4_stepTogether 2 s args wsX4_stepTogether RX4 := C
  obtain ⟨hx, hb, hml, hown, hts⟩ := id C
  have hA : ∀ q, fm_A K s.heap.size q → fm_A K s.heap.size q := fun _ h => h
  have hl : lv_has ls 2 [(0, .ref (K.2.2.2 0))] := hl
  generalize hQ : MQ below _ args s _ _ _ = Q
  rw [mX4_stepTogether] at h
  refine lv_aload_n hx hb dX4_stepTogether_0 rfl (lv_at hl 0 rfl) ?_
  obtain ⟨σ1, h1, h⟩ := mi_b1 h
  refine fm_cv (va_runV (As := []) (rest := []) C (kX4_drawNet l K h1 _) (cwV 0 hts gX4_stepTogether_X4_drawNet rfl rfl rfl (by decide +kernel) ⟨(Nat.le_of_ble_eq_true rfl), (Nat.le_of_ble_eq_true rfl)⟩) ⟨fm_blind, fm_recv hst hH (q := 0) (fm_inb (by decide)) rfl (fm_ob_0 _ _) rfl, fm_pre hst hA hH⟩ rfl rfl hl.1 rfl (lv_room (Nat.le_of_ble_eq_true rfl)) dX4_stepTogether_1 ⟨(Nat.le_of_ble_eq_true rfl), (Nat.le_of_ble_eq_true rfl)⟩) hA hH (fun H locs hH => ?_)
  refine lv_iconst (v := 0) hx hb dX4_stepTogether_4 (by decide) ?_
  refine lv_istore_n (lv' := [(1, .int (0 : Int32)), (0, .ref (K.2.2.2 0))]) hx hb dX4_stepTogether_5 rfl hl (by decide) rfl (fun ls hl => ?_)
  obtain ⟨σ6, h6, h⟩ := mi_b1 h
  refine wX4_stepTogether_L6 C hst hA _ _ _ _ h6 (fun ls H locs hl hH => ?_) _ _ _ (lv_sub hl [1, 0] rfl) hH
  refine lv_iconst (v := 0) hx hb dX4_stepTogether_50 (by decide) ?_
  refine lv_istore_n (lv' := [(1, .int (0 : Int32)), (0, .ref (K.2.2.2 0))]) hx hb dX4_stepTogether_51 rfl hl (by decide) rfl (fun ls hl => ?_)
  obtain ⟨σ52, h52, h⟩ := mi_b1 h
  refine wX4_stepTogether_L52 C hst hA _ _ _ _ h52 (fun ls H locs hl hH => ?_) _ _ _ (lv_sub hl [1, 0] rfl) hH
  cases h
  subst hQ
  exact fm_vret hx hb hr hlk hst hH dX4_stepTogether_110
/-! RX4.settle(I)I -/
abbrev rmX4_settle : Room := { frames := 5, cells := 0, slots := 0, locals := 113 }
def mX4_settle_L6 : Nat → Int32 → Int32 → fm_S → Option (fm_S)
  | 0, _, _, _ => none
  | n + 1, x1, x2, σ =>
    if x1 ≤ x2 then
      some σ
    else
      mb1 (mX4_stepTogether σ) fun σ12 =>
      mX4_settle_L6 n x1 (x2 + 1) σ12
set_option maxHeartbeats 4000000 in
set_option maxRecDepth 100000 in
theorem wX4_settle_L6 {p : Program} {l : Launch} {e : Env} {s : State} {m : MethodId} {args : Array Value} {below : List Frame} {meth : Method} {c : Code} {Q : State → Prop} {K : fm_K} {A : Nat → Prop} (C : CallFix p m c cX4_settle 3 s args wsX4_settle RX4) (hst : fm_st K A s s.heap) (hA : ∀ q, fm_A K s.heap.size q → A q) :
    ∀ (n : Nat) (x1 : Int32) (x2 : Int32) (σ : fm_S) (σo : fm_S), mX4_settle_L6 n x1 x2 σ = some σo → (∀ (ls : Array Slot) (H : Heap) (locs : List Loc), lv_has ls 3 [(0, .ref (K.2.2.2 0))] → fm_H K σo A s H locs → W p l e rmX4_settle s m args below meth c H locs 0 0 Q (F0 m 21 ls [])) → ∀ (ls : Array Slot) (H : Heap) (locs : List Loc), lv_has ls 3 [(0, .ref (K.2.2.2 0)), (1, .int x1), (2, .int x2)] → fm_H K σ A s H locs → W p l e rmX4_settle s m args below meth c H locs 0 0 Q (F0 m 6 ls []) := by
  obtain ⟨hx, hb, hml, hown, hts⟩ := id C
  intro n
  induction n with
  | zero => intro x1 x2 σ σo h; simp [mX4_settle_L6] at h
  | succ n ih =>
    intro x1 x2 σ σo h kk ls H locs hl hH
    rw [mX4_settle_L6] at h
    refine lv_iload_n hx hb dX4_settle_6 rfl (lv_at hl 2 rfl) ?_
    refine lv_iload_n hx hb dX4_settle_7 rfl (lv_at hl 1 rfl) ?_
    refine lv_icmp_ge (tgt := 21) hx hb dX4_settle_8 (by decide) (fun hc => ?_) (fun hc => ?_)
    · replace h := mi_pos hc h
      cases h
      exact kk _ _ _ (lv_sub hl [0] rfl) hH
    · replace h := mi_neg hc h
      refine lv_aload_n hx hb dX4_settle_11 rfl (lv_at hl 0 rfl) ?_
      obtain ⟨σ12, h12, h⟩ := mi_b1 h
      refine fm_cv (va_runV (As := []) (rest := []) C (kX4_stepTogether l K h12 _) (cwV 0 hts gX4_settle_X4_stepTogether rfl rfl rfl (by decide +kernel) ⟨(Nat.le_of_ble_eq_true rfl), (Nat.le_of_ble_eq_true rfl)⟩) ⟨fm_blind, fm_recv hst hH (q := 0) (fm_inb (by decide)) rfl (fm_ob_0 _ _) rfl, fm_pre hst hA hH⟩ rfl rfl hl.1 rfl (lv_room (Nat.le_of_ble_eq_true rfl)) dX4_settle_12 ⟨(Nat.le_of_ble_eq_true rfl), (Nat.le_of_ble_eq_true rfl)⟩) hA hH (fun H locs hH => ?_)
      refine lv_iinc (v := (x2 + 1)) (lv' := [(2, .int (x2 + 1)), (0, .ref (K.2.2.2 0)), (1, .int x1)]) hx hb dX4_settle_15 hl (k := 2) rfl rfl (by decide) rfl (fun ls hl => ?_)
      refine lv_goto (tgt := 6) hx hb dX4_settle_18 (by decide) ?_
      exact ih _ _ _ _ h kk _ _ _ (lv_sub hl [1, 2, 0] rfl) hH
def mX4_settle (x1 : Int32) (σ : fm_S) : Option (Int32 × fm_S) :=
  mb1 (mX4_requireRounds x1 σ) fun σ1 =>
  mb1 (mX4_settle_L6 fF x1 (0 : Int32) σ1) fun σ6 =>
  mb2 (mX4_error σ6) fun r22 σ22 =>
  some (r22, σ22)
set_option maxHeartbeats 4000000 in
set_option maxRecDepth 100000 in
theorem kX4_settle (l : Launch) (K : fm_K) {x1 : Int32} {σ : fm_S} {r : Int32} {σ' : fm_S} (h : mX4_settle x1 σ = some (r, σ')) : fm_CI l yX4_settle wsX4_settle rmX4_settle K [.ref (K.2.2.2 0), .int x1] σ r σ' := by
  intro sz
  refine fm_start (Qc := fun sz => fm_QI K r σ' sz) (cc := cX4_settle) (maxL := 3) (ret := (some .int)) (by decide) rfl (Nat.le_of_ble_eq_true rfl) ?_
  intro p e s m args below meth c C hr hlk hst hH ls hl
  have C : CallFix p m c cX4_settle 3 s args wsX4_settle RX4 := C
  obtain ⟨hx, hb, hml, hown, hts⟩ := id C
  have hA : ∀ q, fm_A K s.heap.size q → fm_A K s.heap.size q := fun _ h => h
  have hl : lv_has ls 3 [(0, .ref (K.2.2.2 0)), (1, .int x1)] := hl
  generalize hQ : MQ below _ args s _ _ _ = Q
  rw [mX4_settle] at h
  refine lv_iload_n hx hb dX4_settle_0 rfl (lv_at hl 1 rfl) ?_
  obtain ⟨σ1, h1, h⟩ := mi_b1 h
  refine fm_cv (va_runS (As := [.int x1]) (rest := []) C (kX4_requireRounds l K h1 _) (va_cwS 1 hts gX4_settle_X4_requireRounds rfl rfl rfl (by decide +kernel) ⟨(Nat.le_of_ble_eq_true rfl), (Nat.le_of_ble_eq_true rfl)⟩) ⟨fm_blind, fm_pre hst hA hH⟩ rfl rfl hl.1 rfl (lv_room (Nat.le_of_ble_eq_true rfl)) dX4_settle_1 ⟨(Nat.le_of_ble_eq_true rfl), (Nat.le_of_ble_eq_true rfl)⟩) hA hH (fun H locs hH => ?_)
  refine lv_iconst (v := 0) hx hb dX4_settle_4 (by decide) ?_
  refine lv_istore_n (lv' := [(2, .int (0 : Int32)), (0, .ref (K.2.2.2 0)), (1, .int x1)]) hx hb dX4_settle_5 rfl hl (by decide) rfl (fun ls hl => ?_)
  obtain ⟨σ6, h6, h⟩ := mi_b1 h
  refine wX4_settle_L6 C hst hA _ _ _ _ _ h6 (fun ls H locs hl hH => ?_) _ _ _ (lv_sub hl [1, 2, 0] rfl) hH
  refine lv_aload_n hx hb dX4_settle_21 rfl (lv_at hl 0 rfl) ?_
  obtain ⟨r22, σ22, h22, h⟩ := mi_b2 h
  refine fm_ci (va_runV (As := []) (rest := []) C (kX4_error l K h22 _) (cwV 0 hts gX4_settle_X4_error rfl rfl rfl (by decide +kernel) ⟨(Nat.le_of_ble_eq_true rfl), (Nat.le_of_ble_eq_true rfl)⟩) ⟨fm_blind, fm_recv hst hH (q := 0) (fm_inb (by decide)) rfl (fm_ob_0 _ _) rfl, fm_pre hst hA hH⟩ rfl rfl hl.1 rfl (lv_room (Nat.le_of_ble_eq_true rfl)) dX4_settle_22 ⟨(Nat.le_of_ble_eq_true rfl), (Nat.le_of_ble_eq_true rfl)⟩) hA hH (fun H locs hH => ?_)
  cases h
  subst hQ
  exact fm_iret hx hb hr hlk hst hH dX4_settle_25
/-! RX4.rank()I -/
abbrev rmX4_rank : Room := { frames := 6, cells := 0, slots := 0, locals := 142 }
def mX4_rank (σ : fm_S) : Option (Int32 × fm_S) :=
  mb1 (mX4_drawNet σ) fun σ1 =>
  mb2 (mX2_rankOf σ1) fun r12 σ12 =>
  some (r12, σ12)
set_option maxHeartbeats 4000000 in
set_option maxRecDepth 100000 in
theorem kX4_rank (l : Launch) (K : fm_K) {σ : fm_S} {r : Int32} {σ' : fm_S} (h : mX4_rank σ = some (r, σ')) : fm_CI l yX4_rank wsX4_rank rmX4_rank K [.ref (K.2.2.2 0)] σ r σ' := by
  intro sz
  refine fm_start (Qc := fun sz => fm_QI K r σ' sz) (cc := cX4_rank) (maxL := 1) (ret := (some .int)) (by decide) rfl (Nat.le_of_ble_eq_true rfl) ?_
  intro p e s m args below meth c C hr hlk hst hH ls hl
  have C : CallFix p m c cX4_rank 1 s args wsX4_rank RX4 := C
  obtain ⟨hx, hb, hml, hown, hts⟩ := id C
  have hA : ∀ q, fm_A K s.heap.size q → fm_A K s.heap.size q := fun _ h => h
  have hl : lv_has ls 1 [(0, .ref (K.2.2.2 0))] := hl
  generalize hQ : MQ below _ args s _ _ _ = Q
  rw [mX4_rank] at h
  refine lv_aload_n hx hb dX4_rank_0 rfl (lv_at hl 0 rfl) ?_
  obtain ⟨σ1, h1, h⟩ := mi_b1 h
  refine fm_cv (va_runV (As := []) (rest := []) C (kX4_drawNet l K h1 _) (cwV 0 hts gX4_rank_X4_drawNet rfl rfl rfl (by decide +kernel) ⟨(Nat.le_of_ble_eq_true rfl), (Nat.le_of_ble_eq_true rfl)⟩) ⟨fm_blind, fm_recv hst hH (q := 0) (fm_inb (by decide)) rfl (fm_ob_0 _ _) rfl, fm_pre hst hA hH⟩ rfl rfl hl.1 rfl (lv_room (Nat.le_of_ble_eq_true rfl)) dX4_rank_1 ⟨(Nat.le_of_ble_eq_true rfl), (Nat.le_of_ble_eq_true rfl)⟩) hA hH (fun H locs hH => ?_)
  refine lv_aload_n hx hb dX4_rank_4 rfl (lv_at hl 0 rfl) ?_
  refine fm_getf (T := TX4) (N := 18) hx hb hts (fun _ h => List.mem_cons_of_mem _ (List.mem_append_left _ (List.mem_append_left _ (List.mem_append_right _ h)))) hown hst.1 hH 0 (fm_inb (by decide)) rfl (fm_ob_0 _ _) rfl 15 (by decide) (List.mem_of_getElem? (i := 1) rfl) rfl rfl dX4_rank_5 ?_
  refine lv_aload_n hx hb dX4_rank_8 rfl (lv_at hl 0 rfl) ?_
  refine fm_getf (T := TX4) (N := 18) hx hb hts (fun _ h => List.mem_cons_of_mem _ (List.mem_append_left _ (List.mem_append_left _ (List.mem_append_right _ h)))) hown hst.1 hH 0 (fm_inb (by decide)) rfl (fm_ob_0 _ _) rfl 12 (by decide) (List.mem_of_getElem? (i := 2) rfl) rfl rfl dX4_rank_9 ?_
  obtain ⟨r12, σ12, h12, h⟩ := mi_b2 h
  refine fm_ci (va_runVN (As := [.ref (K.2.2.2 20)]) (rest := []) C (kX2_rankOf l K h12 _) ⟨va_cnB 1 hts gX4_rank_X2_rankOf_n186 rfl rfl rfl (hst.2.1 (RX4, 186, yX2_rankOf) (List.mem_of_getElem? (i := 12) rfl)) (hts (.initialized RX2) (List.mem_of_getElem? (i := 44) rfl)) (by decide +kernel) ⟨(Nat.le_of_ble_eq_true rfl), (Nat.le_of_ble_eq_true rfl)⟩, (hts (.instanceMethod yX2_rankOf) (List.mem_of_getElem? (i := 43) rfl)), (hts (.selects RX2 yX2_rankOf yX2_rankOf) (List.mem_of_getElem? (i := 45) rfl))⟩ ⟨fm_blind, fm_recv hst hH (q := 24) (fm_inb (by decide)) rfl (fm_ob_24 _ _) rfl, fm_pre hst hA hH⟩ rfl rfl hl.1 rfl (lv_room (Nat.le_of_ble_eq_true rfl)) dX4_rank_12 ⟨(Nat.le_of_ble_eq_true rfl), (Nat.le_of_ble_eq_true rfl)⟩) hA hH (fun H locs hH => ?_)
  cases h
  subst hQ
  exact fm_iret hx hb hr hlk hst hH dX4_rank_15
/-! RX4.rankByCounting()I -/
abbrev rmX4_rankByCounting : Room := { frames := 4, cells := 0, slots := 0, locals := 87 }
def mX4_rankByCounting (σ : fm_S) : Option (Int32 × fm_S) :=
  mb1 (mX4_drawNet σ) fun σ1 =>
  mb2 (mX0_rankOf σ1) fun r12 σ12 =>
  some (r12, σ12)
set_option maxHeartbeats 4000000 in
set_option maxRecDepth 100000 in
theorem kX4_rankByCounting (l : Launch) (K : fm_K) {σ : fm_S} {r : Int32} {σ' : fm_S} (h : mX4_rankByCounting σ = some (r, σ')) : fm_CI l yX4_rankByCounting wsX4_rankByCounting rmX4_rankByCounting K [.ref (K.2.2.2 0)] σ r σ' := by
  intro sz
  refine fm_start (Qc := fun sz => fm_QI K r σ' sz) (cc := cX4_rankByCounting) (maxL := 1) (ret := (some .int)) (by decide) rfl (Nat.le_of_ble_eq_true rfl) ?_
  intro p e s m args below meth c C hr hlk hst hH ls hl
  have C : CallFix p m c cX4_rankByCounting 1 s args wsX4_rankByCounting RX4 := C
  obtain ⟨hx, hb, hml, hown, hts⟩ := id C
  have hA : ∀ q, fm_A K s.heap.size q → fm_A K s.heap.size q := fun _ h => h
  have hl : lv_has ls 1 [(0, .ref (K.2.2.2 0))] := hl
  generalize hQ : MQ below _ args s _ _ _ = Q
  rw [mX4_rankByCounting] at h
  refine lv_aload_n hx hb dX4_rankByCounting_0 rfl (lv_at hl 0 rfl) ?_
  obtain ⟨σ1, h1, h⟩ := mi_b1 h
  refine fm_cv (va_runV (As := []) (rest := []) C (kX4_drawNet l K h1 _) (cwV 0 hts gX4_rankByCounting_X4_drawNet rfl rfl rfl (by decide +kernel) ⟨(Nat.le_of_ble_eq_true rfl), (Nat.le_of_ble_eq_true rfl)⟩) ⟨fm_blind, fm_recv hst hH (q := 0) (fm_inb (by decide)) rfl (fm_ob_0 _ _) rfl, fm_pre hst hA hH⟩ rfl rfl hl.1 rfl (lv_room (Nat.le_of_ble_eq_true rfl)) dX4_rankByCounting_1 ⟨(Nat.le_of_ble_eq_true rfl), (Nat.le_of_ble_eq_true rfl)⟩) hA hH (fun H locs hH => ?_)
  refine lv_aload_n hx hb dX4_rankByCounting_4 rfl (lv_at hl 0 rfl) ?_
  refine fm_getf (T := TX4) (N := 18) hx hb hts (fun _ h => List.mem_cons_of_mem _ (List.mem_append_left _ (List.mem_append_left _ (List.mem_append_right _ h)))) hown hst.1 hH 0 (fm_inb (by decide)) rfl (fm_ob_0 _ _) rfl 16 (by decide) (List.mem_of_getElem? (i := 1) rfl) rfl rfl dX4_rankByCounting_5 ?_
  refine lv_aload_n hx hb dX4_rankByCounting_8 rfl (lv_at hl 0 rfl) ?_
  refine fm_getf (T := TX4) (N := 18) hx hb hts (fun _ h => List.mem_cons_of_mem _ (List.mem_append_left _ (List.mem_append_left _ (List.mem_append_right _ h)))) hown hst.1 hH 0 (fm_inb (by decide)) rfl (fm_ob_0 _ _) rfl 12 (by decide) (List.mem_of_getElem? (i := 2) rfl) rfl rfl dX4_rankByCounting_9 ?_
  obtain ⟨r12, σ12, h12, h⟩ := mi_b2 h
  refine fm_ci (va_runVN (As := [.ref (K.2.2.2 20)]) (rest := []) C (kX0_rankOf l K h12 _) ⟨va_cnB 1 hts gX4_rankByCounting_X0_rankOf_n190 rfl rfl rfl (hst.2.1 (RX4, 190, yX0_rankOf) (List.mem_of_getElem? (i := 17) rfl)) (hts (.initialized RX0) (List.mem_of_getElem? (i := 44) rfl)) (by decide +kernel) ⟨(Nat.le_of_ble_eq_true rfl), (Nat.le_of_ble_eq_true rfl)⟩, (hts (.instanceMethod yX0_rankOf) (List.mem_of_getElem? (i := 43) rfl)), (hts (.selects RX0 yX0_rankOf yX0_rankOf) (List.mem_of_getElem? (i := 45) rfl))⟩ ⟨fm_blind, fm_recv hst hH (q := 28) (fm_inb (by decide)) rfl (fm_ob_28 _ _) rfl, fm_pre hst hA hH⟩ rfl rfl hl.1 rfl (lv_room (Nat.le_of_ble_eq_true rfl)) dX4_rankByCounting_12 ⟨(Nat.le_of_ble_eq_true rfl), (Nat.le_of_ble_eq_true rfl)⟩) hA hH (fun H locs hH => ?_)
  cases h
  subst hQ
  exact fm_iret hx hb hr hlk hst hH dX4_rankByCounting_15
/-! RX4.isRigid()Z -/
abbrev rmX4_isRigid : Room := { frames := 6, cells := 0, slots := 0, locals := 142 }
def mX4_isRigid (σ : fm_S) : Option (Int32 × fm_S) :=
  mb1 (mX4_drawNet σ) fun σ1 =>
  mb1 (mX4_upSet σ1) fun r5 =>
  mb1 (mJ6_bitCount_0f7a4 r5) fun r8 =>
  if r8 < (2 : Int32) then
    some ((0 : Int32), σ1)
  else
    mb1 (mX4_countGroups σ1) fun r18 =>
    if r18 = (1 : Int32) then
      mb2 (mX2_rankOf σ1) fun r33 σ33 =>
      if r33 = (((2 : Int32) * r8) - (3 : Int32)) then
        some ((1 : Int32), σ33)
      else
        some ((0 : Int32), σ33)
    else
      some ((0 : Int32), σ1)
set_option maxHeartbeats 4000000 in
set_option maxRecDepth 100000 in
theorem kX4_isRigid (l : Launch) (K : fm_K) {σ : fm_S} {r : Int32} {σ' : fm_S} (h : mX4_isRigid σ = some (r, σ')) : fm_CI l yX4_isRigid wsX4_isRigid rmX4_isRigid K [.ref (K.2.2.2 0)] σ r σ' := by
  intro sz
  refine fm_start (Qc := fun sz => fm_QI K r σ' sz) (cc := cX4_isRigid) (maxL := 2) (ret := (some .boolean)) (by decide) rfl (Nat.le_of_ble_eq_true rfl) ?_
  intro p e s m args below meth c C hr hlk hst hH ls hl
  have C : CallFix p m c cX4_isRigid 2 s args wsX4_isRigid RX4 := C
  obtain ⟨hx, hb, hml, hown, hts⟩ := id C
  have hA : ∀ q, fm_A K s.heap.size q → fm_A K s.heap.size q := fun _ h => h
  have hl : lv_has ls 2 [(0, .ref (K.2.2.2 0))] := hl
  generalize hQ : MQ below _ args s _ _ _ = Q
  rw [mX4_isRigid] at h
  refine lv_aload_n hx hb dX4_isRigid_0 rfl (lv_at hl 0 rfl) ?_
  obtain ⟨σ1, h1, h⟩ := mi_b1 h
  refine fm_cv (va_runV (As := []) (rest := []) C (kX4_drawNet l K h1 _) (cwV 0 hts gX4_isRigid_X4_drawNet rfl rfl rfl (by decide +kernel) ⟨(Nat.le_of_ble_eq_true rfl), (Nat.le_of_ble_eq_true rfl)⟩) ⟨fm_blind, fm_recv hst hH (q := 0) (fm_inb (by decide)) rfl (fm_ob_0 _ _) rfl, fm_pre hst hA hH⟩ rfl rfl hl.1 rfl (lv_room (Nat.le_of_ble_eq_true rfl)) dX4_isRigid_1 ⟨(Nat.le_of_ble_eq_true rfl), (Nat.le_of_ble_eq_true rfl)⟩) hA hH (fun H locs hH => ?_)
  refine lv_aload_n hx hb dX4_isRigid_4 rfl (lv_at hl 0 rfl) ?_
  obtain ⟨r5, h5, h⟩ := mi_b1 h
  refine fm_ci (va_runV (As := []) (rest := []) C (kX4_upSet l K h5 _) (cwV 0 hts gX4_isRigid_X4_upSet rfl rfl rfl (by decide +kernel) ⟨(Nat.le_of_ble_eq_true rfl), (Nat.le_of_ble_eq_true rfl)⟩) ⟨fm_blind, fm_recv hst hH (q := 0) (fm_inb (by decide)) rfl (fm_ob_0 _ _) rfl, fm_pre hst hA hH⟩ rfl rfl hl.1 rfl (lv_room (Nat.le_of_ble_eq_true rfl)) dX4_isRigid_5 ⟨(Nat.le_of_ble_eq_true rfl), (Nat.le_of_ble_eq_true rfl)⟩) hA hH (fun H locs hH => ?_)
  obtain ⟨r8, h8, h⟩ := mi_b1 h
  refine fm_ci (va_runS (As := [.int r5]) (rest := []) C (kJ6_bitCount_0f7a4 l K h8 _) (va_cwS 1 hts gX4_isRigid_J6_bitCount_0f7a4 rfl rfl rfl (by decide +kernel) ⟨(Nat.le_of_ble_eq_true rfl), (Nat.le_of_ble_eq_true rfl)⟩) ⟨fm_blind, fm_pre hst hA hH⟩ rfl rfl hl.1 rfl (lv_room (Nat.le_of_ble_eq_true rfl)) dX4_isRigid_8 ⟨(Nat.le_of_ble_eq_true rfl), (Nat.le_of_ble_eq_true rfl)⟩) hA hH (fun H locs hH => ?_)
  refine lv_istore_n (lv' := [(1, .int r8), (0, .ref (K.2.2.2 0))]) hx hb dX4_isRigid_11 rfl hl (by decide) rfl (fun ls hl => ?_)
  refine lv_iload_n hx hb dX4_isRigid_12 rfl (lv_at hl 0 rfl) ?_
  refine lv_iconst (v := 2) hx hb dX4_isRigid_13 (by decide) ?_
  refine lv_icmp_lt (tgt := 48) hx hb dX4_isRigid_14 (by decide) (fun hc => ?_) (fun hc => ?_)
  · replace h := mi_pos hc h
    refine lv_iconst (v := 0) hx hb dX4_isRigid_48 (by decide) ?_
    cases h
    subst hQ
    exact fm_zret hx hb hr rfl hlk hst hH dX4_isRigid_49
  · replace h := mi_neg hc h
    refine lv_aload_n hx hb dX4_isRigid_17 rfl (lv_at hl 1 rfl) ?_
    obtain ⟨r18, h18, h⟩ := mi_b1 h
    refine fm_ci (va_runV (As := []) (rest := []) C (kX4_countGroups l K h18 _) (cwV 0 hts gX4_isRigid_X4_countGroups rfl rfl rfl (by decide +kernel) ⟨(Nat.le_of_ble_eq_true rfl), (Nat.le_of_ble_eq_true rfl)⟩) ⟨fm_blind, fm_recv hst hH (q := 0) (fm_inb (by decide)) rfl (fm_ob_0 _ _) rfl, fm_pre hst hA hH⟩ rfl rfl hl.1 rfl (lv_room (Nat.le_of_ble_eq_true rfl)) dX4_isRigid_18 ⟨(Nat.le_of_ble_eq_true rfl), (Nat.le_of_ble_eq_true rfl)⟩) hA hH (fun H locs hH => ?_)
    refine lv_iconst (v := 1) hx hb dX4_isRigid_21 (by decide) ?_
    refine lv_icmp_ne (tgt := 48) hx hb dX4_isRigid_22 (by decide) (fun hc => ?_) (fun hc => ?_)
    · replace h := mi_neg hc h
      refine lv_iconst (v := 0) hx hb dX4_isRigid_48 (by decide) ?_
      cases h
      subst hQ
      exact fm_zret hx hb hr rfl hlk hst hH dX4_isRigid_49
    · replace h := mi_pos hc h
      refine lv_aload_n hx hb dX4_isRigid_25 rfl (lv_at hl 1 rfl) ?_
      refine fm_getf (T := TX4) (N := 18) hx hb hts (fun _ h => List.mem_cons_of_mem _ (List.mem_append_left _ (List.mem_append_left _ (List.mem_append_right _ h)))) hown hst.1 hH 0 (fm_inb (by decide)) rfl (fm_ob_0 _ _) rfl 15 (by decide) (List.mem_of_getElem? (i := 1) rfl) rfl rfl dX4_isRigid_26 ?_
      refine lv_aload_n hx hb dX4_isRigid_29 rfl (lv_at hl 1 rfl) ?_
      refine fm_getf (T := TX4) (N := 18) hx hb hts (fun _ h => List.mem_cons_of_mem _ (List.mem_append_left _ (List.mem_append_left _ (List.mem_append_right _ h)))) hown hst.1 hH 0 (fm_inb (by decide)) rfl (fm_ob_0 _ _) rfl 12 (by decide) (List.mem_of_getElem? (i := 2) rfl) rfl rfl dX4_isRigid_30 ?_
      obtain ⟨r33, σ33, h33, h⟩ := mi_b2 h
      refine fm_ci (va_runVN (As := [.ref (K.2.2.2 20)]) (rest := []) C (kX2_rankOf l K h33 _) ⟨va_cnB 1 hts gX4_isRigid_X2_rankOf_n186 rfl rfl rfl (hst.2.1 (RX4, 186, yX2_rankOf) (List.mem_of_getElem? (i := 12) rfl)) (hts (.initialized RX2) (List.mem_of_getElem? (i := 62) rfl)) (by decide +kernel) ⟨(Nat.le_of_ble_eq_true rfl), (Nat.le_of_ble_eq_true rfl)⟩, (hts (.instanceMethod yX2_rankOf) (List.mem_of_getElem? (i := 61) rfl)), (hts (.selects RX2 yX2_rankOf yX2_rankOf) (List.mem_of_getElem? (i := 63) rfl))⟩ ⟨fm_blind, fm_recv hst hH (q := 24) (fm_inb (by decide)) rfl (fm_ob_24 _ _) rfl, fm_pre hst hA hH⟩ rfl rfl hl.1 rfl (lv_room (Nat.le_of_ble_eq_true rfl)) dX4_isRigid_33 ⟨(Nat.le_of_ble_eq_true rfl), (Nat.le_of_ble_eq_true rfl)⟩) hA hH (fun H locs hH => ?_)
      refine lv_iconst (v := 2) hx hb dX4_isRigid_36 (by decide) ?_
      refine lv_iload_n hx hb dX4_isRigid_37 rfl (lv_at hl 0 rfl) ?_
      refine lv_imul hx hb dX4_isRigid_38 ?_
      refine lv_iconst (v := 3) hx hb dX4_isRigid_39 (by decide) ?_
      refine lv_isub hx hb dX4_isRigid_40 ?_
      refine lv_icmp_ne (tgt := 48) hx hb dX4_isRigid_41 (by decide) (fun hc => ?_) (fun hc => ?_)
      · replace h := mi_neg hc h
        refine lv_iconst (v := 0) hx hb dX4_isRigid_48 (by decide) ?_
        cases h
        subst hQ
        exact fm_zret hx hb hr rfl hlk hst hH dX4_isRigid_49
      · replace h := mi_pos hc h
        refine lv_iconst (v := 1) hx hb dX4_isRigid_44 (by decide) ?_
        refine lv_goto (tgt := 49) hx hb dX4_isRigid_45 (by decide) ?_
        cases h
        subst hQ
        exact fm_zret hx hb hr rfl hlk hst hH dX4_isRigid_49
