/-! RL.addMember(LFormationist;II[J)I -/
abbrev rmL_addMember : Room := { frames := 9, cells := 3, slots := 18, locals := 148 }
def mL_addMember (x1 : Int32) (x2 : Int32) (σ : fm_S) : Option (Int32 × fm_S) :=
  mh2 (mX4_addMember x1 x2 σ) (fun r5 σ5 =>
    if ((0 : Int32) < 0 ∨ 1 ≤ (0 : Int32).toNatClampNeg) then none else
    some ((0 : Int32), (sL σ5 55 (0 : Int32) (r5.toInt64)))) (fun E σx5 =>
    if E = "java/lang/IllegalArgumentException" then
      some ((1 : Int32), σx5)
    else
      if E = "java/lang/IllegalStateException" then
        some ((2 : Int32), σx5)
      else
        none)
set_option maxHeartbeats 4000000 in
set_option maxRecDepth 100000 in
theorem kL_addMember (l : Launch) (K : fm_K) (hfl : l.stackTraces = false) {x1 : Int32} {x2 : Int32} {σ : fm_S} {r : Int32} {σ' : fm_S} (h : mL_addMember x1 x2 σ = some (r, σ')) : fm_WI l yL_addMember wsL_addMember rmL_addMember K [.ref (K.2.2.2 0), .int x1, .int x2, .ref (K.2.2.2 55)] σ r σ' 3 := by
  intro sz
  refine fm_startW (hh := [(0, 10, 13, 13), (0, 10, 17, 15)]) (Qc := fun sz => fm_QI K r σ' sz) (cc := cL_addMember) (maxL := 5) (ret := (some .int)) (by decide) rfl (Nat.le_of_ble_eq_true rfl) ?_
  intro p e s m args below meth c C hr hlk htab hst hH ls hl
  have C : CallFix p m c cL_addMember 5 s args wsL_addMember RL := C
  obtain ⟨hx, hb, hml, hown, hts⟩ := id C
  have hA : ∀ q, fm_A K s.heap.size q → fm_A K s.heap.size q := fun _ h => h
  have hl : lv_has ls 5 [(0, .ref (K.2.2.2 0)), (1, .int x1), (2, .int x2), (3, .ref (K.2.2.2 55))] := hl
  generalize hQ : MQ below _ args s _ _ _ = Q
  rw [mL_addMember] at h
  refine lv_aload_n hx hb dL_addMember_0 rfl (lv_at hl 3 rfl) ?_
  refine lv_iconst (v := 0) hx hb dL_addMember_1 (by decide) ?_
  refine lv_aload_n hx hb dL_addMember_2 rfl (lv_at hl 0 rfl) ?_
  refine lv_iload_n hx hb dL_addMember_3 rfl (lv_at hl 1 rfl) ?_
  refine lv_iload_n hx hb dL_addMember_4 rfl (lv_at hl 2 rfl) ?_
  obtain ⟨x5_, h5, hok, her⟩ := mi_h2 h
  refine fm_cxi (vx_runV (As := [.int x1, .int x2]) (rest := [.int (0 : Int32), .ref (K.2.2.2 55)]) C (kX4_addMember l K hfl h5 _) (cwV 2 hts gL_addMember_X4_addMember rfl rfl rfl (by decide +kernel) ⟨(Nat.le_of_ble_eq_true rfl), (Nat.le_of_ble_eq_true rfl)⟩) ⟨fm_blind, fm_recv hst hH (q := 0) (by decide) rfl (fm_ob_0 _ _) rfl, fm_pre hst hA hH⟩ rfl rfl hl.1 rfl (lv_room (Nat.le_of_ble_eq_true rfl)) dL_addMember_5 ⟨(Nat.le_of_ble_eq_true rfl), (Nat.le_of_ble_eq_true rfl)⟩) hA hH (fun E σx5 ce q9 H locs hx1 hH hce hcv hcl => ?_) (fun r5 σ5 H locs hx1 hH => ?_)
  · replace h := her _ _ hx1
    clear hok her
    refine vx_widen (k := 3) (n := 18) (Nat.le_of_ble_eq_true rfl) (Nat.le_of_ble_eq_true rfl) ?_
    by_cases hE : E = "java/lang/IllegalArgumentException"
    · subst hE
      replace h := mi_pos rfl h
      refine vx_catch (own := RL) (name := "java/lang/IllegalArgumentException") hown [] ⟨0, 10, 13, 13⟩ [⟨0, 10, 17, 15⟩] htab (fun z hz => nomatch hz) (by decide) (by decide) (hts (.classLink RL 13 "java/lang/IllegalArgumentException") (List.mem_of_getElem? (i := 1) rfl)) (va_Nw.use rfl (hst.2.2.2.2.2.1 _ (List.mem_of_getElem? (i := 1) rfl))) hce hcv hcl ?_
      refine lv_astore (lv' := [(4, .ref q9), (0, .ref (K.2.2.2 0)), (1, .int x1), (2, .int x2), (3, .ref (K.2.2.2 55))]) hx hb dL_addMember_13 hl (by decide) rfl (fun ls hl => ?_)
      refine lv_iconst (v := 1) hx hb dL_addMember_15 (by decide) ?_
      cases h
      subst hQ
      exact fm_iretW hx hb hr hlk hst hH (Nat.le_of_ble_eq_true rfl) (Nat.le_of_ble_eq_true rfl) dL_addMember_16
    · replace h := mi_neg hE h
      by_cases hE : E = "java/lang/IllegalStateException"
      · subst hE
        replace h := mi_pos rfl h
        refine vx_catch (own := RL) (name := "java/lang/IllegalStateException") hown [⟨0, 10, 13, 13⟩] ⟨0, 10, 17, 15⟩ [] htab (fun z hz => by rcases List.mem_cons.mp hz with rfl | hz; exact Or.inr ⟨by decide, "java/lang/IllegalArgumentException", (hts (.classLink RL 13 "java/lang/IllegalArgumentException") (List.mem_of_getElem? (i := 1) rfl)), hst.2.2.2.2.2.2.1 _ (List.mem_of_getElem? (i := 0) rfl)⟩; exact nomatch hz) (by decide) (by decide) (hts (.classLink RL 15 "java/lang/IllegalStateException") (List.mem_of_getElem? (i := 2) rfl)) (va_Nw.use rfl (hst.2.2.2.2.2.1 _ (List.mem_of_getElem? (i := 2) rfl))) hce hcv hcl ?_
        refine lv_astore (lv' := [(4, .ref q9), (0, .ref (K.2.2.2 0)), (1, .int x1), (2, .int x2), (3, .ref (K.2.2.2 55))]) hx hb dL_addMember_17 hl (by decide) rfl (fun ls hl => ?_)
        refine lv_iconst (v := 2) hx hb dL_addMember_19 (by decide) ?_
        cases h
        subst hQ
        exact fm_iretW hx hb hr hlk hst hH (Nat.le_of_ble_eq_true rfl) (Nat.le_of_ble_eq_true rfl) dL_addMember_20
      · replace h := mi_neg hE h
        cases h
  · replace h := hok _ _ hx1
    clear hok her
    refine W.widen (k := 3) (n := 18) (Nat.le_of_ble_eq_true rfl) (Nat.le_of_ble_eq_true rfl) ?_
    refine lv_i2l (v := r5.toInt64) hx hb dL_addMember_8 rfl ?_
    obtain ⟨hi1, h⟩ := mi_chk h
    refine fm_lst hx hb hst.1 hH 55 (by decide) rfl rfl hi1 dL_addMember_9 (fun H locs hH => ?_)
    refine lv_goto (tgt := 21) hx hb dL_addMember_10 (by decide) ?_
    refine lv_iconst (v := 0) hx hb dL_addMember_21 (by decide) ?_
    cases h
    subst hQ
    exact fm_iretW hx hb hr hlk hst hH (Nat.le_of_ble_eq_true rfl) (Nat.le_of_ble_eq_true rfl) dL_addMember_22
/-! RL.move(LFormationist;III)I -/
abbrev rmL_move : Room := { frames := 9, cells := 3, slots := 18, locals := 148 }
def mL_move (x1 : Int32) (x2 : Int32) (x3 : Int32) (σ : fm_S) : Option (Int32 × fm_S) :=
  mh1 (mX4_move x1 x2 x3 σ) (fun σ4 =>
    some ((0 : Int32), σ4)) (fun E σx4 =>
    if E = "java/lang/IndexOutOfBoundsException" then
      some ((1 : Int32), σx4)
    else
      if E = "java/lang/IllegalArgumentException" then
        some ((2 : Int32), σx4)
      else
        none)
set_option maxHeartbeats 4000000 in
set_option maxRecDepth 100000 in
theorem kL_move (l : Launch) (K : fm_K) (hfl : l.stackTraces = false) {x1 : Int32} {x2 : Int32} {x3 : Int32} {σ : fm_S} {r : Int32} {σ' : fm_S} (h : mL_move x1 x2 x3 σ = some (r, σ')) : fm_WI l yL_move wsL_move rmL_move K [.ref (K.2.2.2 0), .int x1, .int x2, .int x3] σ r σ' 3 := by
  intro sz
  refine fm_startW (hh := [(0, 7, 10, 21), (0, 7, 14, 13)]) (Qc := fun sz => fm_QI K r σ' sz) (cc := cL_move) (maxL := 5) (ret := (some .int)) (by decide) rfl (Nat.le_of_ble_eq_true rfl) ?_
  intro p e s m args below meth c C hr hlk htab hst hH ls hl
  have C : CallFix p m c cL_move 5 s args wsL_move RL := C
  obtain ⟨hx, hb, hml, hown, hts⟩ := id C
  have hA : ∀ q, fm_A K s.heap.size q → fm_A K s.heap.size q := fun _ h => h
  have hl : lv_has ls 5 [(0, .ref (K.2.2.2 0)), (1, .int x1), (2, .int x2), (3, .int x3)] := hl
  generalize hQ : MQ below _ args s _ _ _ = Q
  rw [mL_move] at h
  refine lv_aload_n hx hb dL_move_0 rfl (lv_at hl 0 rfl) ?_
  refine lv_iload_n hx hb dL_move_1 rfl (lv_at hl 1 rfl) ?_
  refine lv_iload_n hx hb dL_move_2 rfl (lv_at hl 2 rfl) ?_
  refine lv_iload_n hx hb dL_move_3 rfl (lv_at hl 3 rfl) ?_
  obtain ⟨x4_, h4, hok, her⟩ := mi_h1 h
  refine fm_cxv (vx_runV (As := [.int x1, .int x2, .int x3]) (rest := []) C (kX4_move l K hfl h4 _) (cwV 3 hts gL_move_X4_move rfl rfl rfl (by decide +kernel) ⟨(Nat.le_of_ble_eq_true rfl), (Nat.le_of_ble_eq_true rfl)⟩) ⟨fm_blind, fm_recv hst hH (q := 0) (by decide) rfl (fm_ob_0 _ _) rfl, fm_pre hst hA hH⟩ rfl rfl hl.1 rfl (lv_room (Nat.le_of_ble_eq_true rfl)) dL_move_4 ⟨(Nat.le_of_ble_eq_true rfl), (Nat.le_of_ble_eq_true rfl)⟩) hA hH (fun E σx4 ce q9 H locs hx1 hH hce hcv hcl => ?_) (fun σ4 H locs hx1 hH => ?_)
  · replace h := her _ _ hx1
    clear hok her
    refine vx_widen (k := 3) (n := 18) (Nat.le_of_ble_eq_true rfl) (Nat.le_of_ble_eq_true rfl) ?_
    by_cases hE : E = "java/lang/IndexOutOfBoundsException"
    · subst hE
      replace h := mi_pos rfl h
      refine vx_catch (own := RL) (name := "java/lang/IndexOutOfBoundsException") hown [] ⟨0, 7, 10, 21⟩ [⟨0, 7, 14, 13⟩] htab (fun z hz => nomatch hz) (by decide) (by decide) (hts (.classLink RL 21 "java/lang/IndexOutOfBoundsException") (List.mem_of_getElem? (i := 1) rfl)) (va_Nw.use rfl (hst.2.2.2.2.2.1 _ (List.mem_of_getElem? (i := 0) rfl))) hce hcv hcl ?_
      refine lv_astore (lv' := [(4, .ref q9), (0, .ref (K.2.2.2 0)), (1, .int x1), (2, .int x2), (3, .int x3)]) hx hb dL_move_10 hl (by decide) rfl (fun ls hl => ?_)
      refine lv_iconst (v := 1) hx hb dL_move_12 (by decide) ?_
      cases h
      subst hQ
      exact fm_iretW hx hb hr hlk hst hH (Nat.le_of_ble_eq_true rfl) (Nat.le_of_ble_eq_true rfl) dL_move_13
    · replace h := mi_neg hE h
      by_cases hE : E = "java/lang/IllegalArgumentException"
      · subst hE
        replace h := mi_pos rfl h
        refine vx_catch (own := RL) (name := "java/lang/IllegalArgumentException") hown [⟨0, 7, 10, 21⟩] ⟨0, 7, 14, 13⟩ [] htab (fun z hz => by rcases List.mem_cons.mp hz with rfl | hz; exact Or.inr ⟨by decide, "java/lang/IndexOutOfBoundsException", (hts (.classLink RL 21 "java/lang/IndexOutOfBoundsException") (List.mem_of_getElem? (i := 1) rfl)), hst.2.2.2.2.2.2.1 _ (List.mem_of_getElem? (i := 1) rfl)⟩; exact nomatch hz) (by decide) (by decide) (hts (.classLink RL 13 "java/lang/IllegalArgumentException") (List.mem_of_getElem? (i := 2) rfl)) (va_Nw.use rfl (hst.2.2.2.2.2.1 _ (List.mem_of_getElem? (i := 1) rfl))) hce hcv hcl ?_
        refine lv_astore (lv' := [(4, .ref q9), (0, .ref (K.2.2.2 0)), (1, .int x1), (2, .int x2), (3, .int x3)]) hx hb dL_move_14 hl (by decide) rfl (fun ls hl => ?_)
        refine lv_iconst (v := 2) hx hb dL_move_16 (by decide) ?_
        cases h
        subst hQ
        exact fm_iretW hx hb hr hlk hst hH (Nat.le_of_ble_eq_true rfl) (Nat.le_of_ble_eq_true rfl) dL_move_17
      · replace h := mi_neg hE h
        cases h
  · replace h := hok _ hx1
    clear hok her
    refine W.widen (k := 3) (n := 18) (Nat.le_of_ble_eq_true rfl) (Nat.le_of_ble_eq_true rfl) ?_
    refine lv_goto (tgt := 18) hx hb dL_move_7 (by decide) ?_
    refine lv_iconst (v := 0) hx hb dL_move_18 (by decide) ?_
    cases h
    subst hQ
    exact fm_iretW hx hb hr hlk hst hH (Nat.le_of_ble_eq_true rfl) (Nat.le_of_ble_eq_true rfl) dL_move_19
/-! RL.toggle(LFormationist;I[J)I -/
abbrev rmL_toggle : Room := { frames := 8, cells := 1, slots := 6, locals := 124 }
def mL_toggle (x1 : Int32) (σ : fm_S) : Option (Int32 × fm_S) :=
  mh2 (mX4_toggle x1 σ) (fun r4 σ4 =>
    mb1 (show Option (Int64) from
      if r4 = 0 then
        some ((0 : Int64))
      else
        some ((1 : Int64))) fun v1_0 =>
    if ((0 : Int32) < 0 ∨ 1 ≤ (0 : Int32).toNatClampNeg) then none else
    some ((0 : Int32), (sL σ4 55 (0 : Int32) v1_0))) (fun E σx4 =>
    if E = "java/lang/IndexOutOfBoundsException" then
      some ((1 : Int32), σx4)
    else
      none)
set_option maxHeartbeats 4000000 in
set_option maxRecDepth 100000 in
theorem kL_toggle (l : Launch) (K : fm_K) (hfl : l.stackTraces = false) {x1 : Int32} {σ : fm_S} {r : Int32} {σ' : fm_S} (h : mL_toggle x1 σ = some (r, σ')) : fm_WI l yL_toggle wsL_toggle rmL_toggle K [.ref (K.2.2.2 0), .int x1, .ref (K.2.2.2 55)] σ r σ' 1 := by
  intro sz
  refine fm_startW (hh := [(0, 16, 19, 21)]) (Qc := fun sz => fm_QI K r σ' sz) (cc := cL_toggle) (maxL := 4) (ret := (some .int)) (by decide) rfl (Nat.le_of_ble_eq_true rfl) ?_
  intro p e s m args below meth c C hr hlk htab hst hH ls hl
  have C : CallFix p m c cL_toggle 4 s args wsL_toggle RL := C
  obtain ⟨hx, hb, hml, hown, hts⟩ := id C
  have hA : ∀ q, fm_A K s.heap.size q → fm_A K s.heap.size q := fun _ h => h
  have hl : lv_has ls 4 [(0, .ref (K.2.2.2 0)), (1, .int x1), (2, .ref (K.2.2.2 55))] := hl
  generalize hQ : MQ below _ args s _ _ _ = Q
  rw [mL_toggle] at h
  refine lv_aload_n hx hb dL_toggle_0 rfl (lv_at hl 2 rfl) ?_
  refine lv_iconst (v := 0) hx hb dL_toggle_1 (by decide) ?_
  refine lv_aload_n hx hb dL_toggle_2 rfl (lv_at hl 0 rfl) ?_
  refine lv_iload_n hx hb dL_toggle_3 rfl (lv_at hl 1 rfl) ?_
  obtain ⟨x4_, h4, hok, her⟩ := mi_h2 h
  refine fm_cxi (vx_runV (As := [.int x1]) (rest := [.int (0 : Int32), .ref (K.2.2.2 55)]) C (kX4_toggle l K hfl h4 _) (cwV 1 hts gL_toggle_X4_toggle rfl rfl rfl (by decide +kernel) ⟨(Nat.le_of_ble_eq_true rfl), (Nat.le_of_ble_eq_true rfl)⟩) ⟨fm_blind, fm_recv hst hH (q := 0) (by decide) rfl (fm_ob_0 _ _) rfl, fm_pre hst hA hH⟩ rfl rfl hl.1 rfl (lv_room (Nat.le_of_ble_eq_true rfl)) dL_toggle_4 ⟨(Nat.le_of_ble_eq_true rfl), (Nat.le_of_ble_eq_true rfl)⟩) hA hH (fun E σx4 ce q9 H locs hx1 hH hce hcv hcl => ?_) (fun r4 σ4 H locs hx1 hH => ?_)
  · replace h := her _ _ hx1
    clear hok her
    refine vx_widen (k := 1) (n := 6) (Nat.le_of_ble_eq_true rfl) (Nat.le_of_ble_eq_true rfl) ?_
    by_cases hE : E = "java/lang/IndexOutOfBoundsException"
    · subst hE
      replace h := mi_pos rfl h
      refine vx_catch (own := RL) (name := "java/lang/IndexOutOfBoundsException") hown [] ⟨0, 16, 19, 21⟩ [] htab (fun z hz => nomatch hz) (by decide) (by decide) (hts (.classLink RL 21 "java/lang/IndexOutOfBoundsException") (List.mem_of_getElem? (i := 1) rfl)) (va_Nw.use rfl (hst.2.2.2.2.2.1 _ (List.mem_of_getElem? (i := 0) rfl))) hce hcv hcl ?_
      refine lv_astore_n (lv' := [(3, .ref q9), (0, .ref (K.2.2.2 0)), (1, .int x1), (2, .ref (K.2.2.2 55))]) hx hb dL_toggle_19 rfl hl (by decide) rfl (fun ls hl => ?_)
      refine lv_iconst (v := 1) hx hb dL_toggle_20 (by decide) ?_
      cases h
      subst hQ
      exact fm_iretW hx hb hr hlk hst hH (Nat.le_of_ble_eq_true rfl) (Nat.le_of_ble_eq_true rfl) dL_toggle_21
    · replace h := mi_neg hE h
      cases h
  · replace h := hok _ _ hx1
    clear hok her
    refine W.widen (k := 1) (n := 6) (Nat.le_of_ble_eq_true rfl) (Nat.le_of_ble_eq_true rfl) ?_
    obtain ⟨v1_0, hd, h2⟩ := mi_b1 h
    have kj : ∀ (ls : Array Slot) (H : Heap) (locs : List Loc), lv_has ls 4 [] → fm_H K σ4 (fm_A K s.heap.size) s H locs → W p l e rmL_toggle s m args below meth c H locs 1 6 Q (F0 m 15 ls [.long v1_0, .int (0 : Int32), .ref (K.2.2.2 55)]) := by
      clear h hd
      intro ls H locs hl hH
      have h := h2
      clear h2
      obtain ⟨hi2, h⟩ := mi_chk h
      refine fm_lst hx hb hst.1 hH 55 (by decide) rfl rfl hi2 dL_toggle_15 (fun H locs hH => ?_)
      refine lv_goto (tgt := 22) hx hb dL_toggle_16 (by decide) ?_
      refine lv_iconst (v := 0) hx hb dL_toggle_22 (by decide) ?_
      cases h
      subst hQ
      exact fm_iretW hx hb hr hlk hst hH (Nat.le_of_ble_eq_true rfl) (Nat.le_of_ble_eq_true rfl) dL_toggle_23
    replace h := hd
    clear h2 hd
    refine lv_if_eq (tgt := 14) hx hb dL_toggle_7 (by decide) (fun hc => ?_) (fun hc => ?_)
    · replace h := mi_pos hc h
      refine lv_lconst (v := 0) hx hb dL_toggle_14 (by decide) ?_
      cases h
      exact kj _ _ _ (lv_sub hl [] rfl) hH
    · replace h := mi_neg hc h
      refine lv_lconst (v := 1) hx hb dL_toggle_10 (by decide) ?_
      refine lv_goto (tgt := 15) hx hb dL_toggle_11 (by decide) ?_
      cases h
      exact kj _ _ _ (lv_sub hl [] rfl) hH
/-! RL.setPriority(LFormationist;II[J)I -/
abbrev rmL_setPriority : Room := { frames := 8, cells := 2, slots := 12, locals := 127 }
def mL_setPriority (x1 : Int32) (x2 : Int32) (σ : fm_S) : Option (Int32 × fm_S) :=
  mh2 (mX4_setPriority x1 x2 σ) (fun r5 σ5 =>
    if ((0 : Int32) < 0 ∨ 1 ≤ (0 : Int32).toNatClampNeg) then none else
    some ((0 : Int32), (sL σ5 55 (0 : Int32) (r5.toInt64)))) (fun E σx5 =>
    if E = "java/lang/IndexOutOfBoundsException" then
      some ((1 : Int32), σx5)
    else
      if E = "java/lang/IllegalArgumentException" then
        some ((2 : Int32), σx5)
      else
        none)
set_option maxHeartbeats 4000000 in
set_option maxRecDepth 100000 in
theorem kL_setPriority (l : Launch) (K : fm_K) (hfl : l.stackTraces = false) {x1 : Int32} {x2 : Int32} {σ : fm_S} {r : Int32} {σ' : fm_S} (h : mL_setPriority x1 x2 σ = some (r, σ')) : fm_WI l yL_setPriority wsL_setPriority rmL_setPriority K [.ref (K.2.2.2 0), .int x1, .int x2, .ref (K.2.2.2 55)] σ r σ' 2 := by
  intro sz
  refine fm_startW (hh := [(0, 10, 13, 21), (0, 10, 17, 13)]) (Qc := fun sz => fm_QI K r σ' sz) (cc := cL_setPriority) (maxL := 5) (ret := (some .int)) (by decide) rfl (Nat.le_of_ble_eq_true rfl) ?_
  intro p e s m args below meth c C hr hlk htab hst hH ls hl
  have C : CallFix p m c cL_setPriority 5 s args wsL_setPriority RL := C
  obtain ⟨hx, hb, hml, hown, hts⟩ := id C
  have hA : ∀ q, fm_A K s.heap.size q → fm_A K s.heap.size q := fun _ h => h
  have hl : lv_has ls 5 [(0, .ref (K.2.2.2 0)), (1, .int x1), (2, .int x2), (3, .ref (K.2.2.2 55))] := hl
  generalize hQ : MQ below _ args s _ _ _ = Q
  rw [mL_setPriority] at h
  refine lv_aload_n hx hb dL_setPriority_0 rfl (lv_at hl 3 rfl) ?_
  refine lv_iconst (v := 0) hx hb dL_setPriority_1 (by decide) ?_
  refine lv_aload_n hx hb dL_setPriority_2 rfl (lv_at hl 0 rfl) ?_
  refine lv_iload_n hx hb dL_setPriority_3 rfl (lv_at hl 1 rfl) ?_
  refine lv_iload_n hx hb dL_setPriority_4 rfl (lv_at hl 2 rfl) ?_
  obtain ⟨x5_, h5, hok, her⟩ := mi_h2 h
  refine fm_cxi (vx_runV (As := [.int x1, .int x2]) (rest := [.int (0 : Int32), .ref (K.2.2.2 55)]) C (kX4_setPriority l K hfl h5 _) (cwV 2 hts gL_setPriority_X4_setPriority rfl rfl rfl (by decide +kernel) ⟨(Nat.le_of_ble_eq_true rfl), (Nat.le_of_ble_eq_true rfl)⟩) ⟨fm_blind, fm_recv hst hH (q := 0) (by decide) rfl (fm_ob_0 _ _) rfl, fm_pre hst hA hH⟩ rfl rfl hl.1 rfl (lv_room (Nat.le_of_ble_eq_true rfl)) dL_setPriority_5 ⟨(Nat.le_of_ble_eq_true rfl), (Nat.le_of_ble_eq_true rfl)⟩) hA hH (fun E σx5 ce q9 H locs hx1 hH hce hcv hcl => ?_) (fun r5 σ5 H locs hx1 hH => ?_)
  · replace h := her _ _ hx1
    clear hok her
    refine vx_widen (k := 2) (n := 12) (Nat.le_of_ble_eq_true rfl) (Nat.le_of_ble_eq_true rfl) ?_
    by_cases hE : E = "java/lang/IndexOutOfBoundsException"
    · subst hE
      replace h := mi_pos rfl h
      refine vx_catch (own := RL) (name := "java/lang/IndexOutOfBoundsException") hown [] ⟨0, 10, 13, 21⟩ [⟨0, 10, 17, 13⟩] htab (fun z hz => nomatch hz) (by decide) (by decide) (hts (.classLink RL 21 "java/lang/IndexOutOfBoundsException") (List.mem_of_getElem? (i := 1) rfl)) (va_Nw.use rfl (hst.2.2.2.2.2.1 _ (List.mem_of_getElem? (i := 0) rfl))) hce hcv hcl ?_
      refine lv_astore (lv' := [(4, .ref q9), (0, .ref (K.2.2.2 0)), (1, .int x1), (2, .int x2), (3, .ref (K.2.2.2 55))]) hx hb dL_setPriority_13 hl (by decide) rfl (fun ls hl => ?_)
      refine lv_iconst (v := 1) hx hb dL_setPriority_15 (by decide) ?_
      cases h
      subst hQ
      exact fm_iretW hx hb hr hlk hst hH (Nat.le_of_ble_eq_true rfl) (Nat.le_of_ble_eq_true rfl) dL_setPriority_16
    · replace h := mi_neg hE h
      by_cases hE : E = "java/lang/IllegalArgumentException"
      · subst hE
        replace h := mi_pos rfl h
        refine vx_catch (own := RL) (name := "java/lang/IllegalArgumentException") hown [⟨0, 10, 13, 21⟩] ⟨0, 10, 17, 13⟩ [] htab (fun z hz => by rcases List.mem_cons.mp hz with rfl | hz; exact Or.inr ⟨by decide, "java/lang/IndexOutOfBoundsException", (hts (.classLink RL 21 "java/lang/IndexOutOfBoundsException") (List.mem_of_getElem? (i := 1) rfl)), hst.2.2.2.2.2.2.1 _ (List.mem_of_getElem? (i := 1) rfl)⟩; exact nomatch hz) (by decide) (by decide) (hts (.classLink RL 13 "java/lang/IllegalArgumentException") (List.mem_of_getElem? (i := 2) rfl)) (va_Nw.use rfl (hst.2.2.2.2.2.1 _ (List.mem_of_getElem? (i := 1) rfl))) hce hcv hcl ?_
        refine lv_astore (lv' := [(4, .ref q9), (0, .ref (K.2.2.2 0)), (1, .int x1), (2, .int x2), (3, .ref (K.2.2.2 55))]) hx hb dL_setPriority_17 hl (by decide) rfl (fun ls hl => ?_)
        refine lv_iconst (v := 2) hx hb dL_setPriority_19 (by decide) ?_
        cases h
        subst hQ
        exact fm_iretW hx hb hr hlk hst hH (Nat.le_of_ble_eq_true rfl) (Nat.le_of_ble_eq_true rfl) dL_setPriority_20
      · replace h := mi_neg hE h
        cases h
  · replace h := hok _ _ hx1
    clear hok her
    refine W.widen (k := 2) (n := 12) (Nat.le_of_ble_eq_true rfl) (Nat.le_of_ble_eq_true rfl) ?_
    refine lv_i2l (v := r5.toInt64) hx hb dL_setPriority_8 rfl ?_
    obtain ⟨hi1, h⟩ := mi_chk h
    refine fm_lst hx hb hst.1 hH 55 (by decide) rfl rfl hi1 dL_setPriority_9 (fun H locs hH => ?_)
    refine lv_goto (tgt := 21) hx hb dL_setPriority_10 (by decide) ?_
    refine lv_iconst (v := 0) hx hb dL_setPriority_21 (by decide) ?_
    cases h
    subst hQ
    exact fm_iretW hx hb hr hlk hst hH (Nat.le_of_ble_eq_true rfl) (Nat.le_of_ble_eq_true rfl) dL_setPriority_22
/-! RL.setRange(LFormationist;I[J)I -/
abbrev rmL_setRange : Room := { frames := 8, cells := 1, slots := 6, locals := 126 }
def mL_setRange (x1 : Int32) (σ : fm_S) : Option (Int32 × fm_S) :=
  mh2 (mX4_setRange x1 σ) (fun r4 σ4 =>
    if ((0 : Int32) < 0 ∨ 1 ≤ (0 : Int32).toNatClampNeg) then none else
    some ((0 : Int32), (sL σ4 55 (0 : Int32) (r4.toInt64)))) (fun E σx4 =>
    if E = "java/lang/IllegalArgumentException" then
      some ((1 : Int32), σx4)
    else
      none)
set_option maxHeartbeats 4000000 in
set_option maxRecDepth 100000 in
theorem kL_setRange (l : Launch) (K : fm_K) (hfl : l.stackTraces = false) {x1 : Int32} {σ : fm_S} {r : Int32} {σ' : fm_S} (h : mL_setRange x1 σ = some (r, σ')) : fm_WI l yL_setRange wsL_setRange rmL_setRange K [.ref (K.2.2.2 0), .int x1, .ref (K.2.2.2 55)] σ r σ' 1 := by
  intro sz
  refine fm_startW (hh := [(0, 9, 12, 13)]) (Qc := fun sz => fm_QI K r σ' sz) (cc := cL_setRange) (maxL := 4) (ret := (some .int)) (by decide) rfl (Nat.le_of_ble_eq_true rfl) ?_
  intro p e s m args below meth c C hr hlk htab hst hH ls hl
  have C : CallFix p m c cL_setRange 4 s args wsL_setRange RL := C
  obtain ⟨hx, hb, hml, hown, hts⟩ := id C
  have hA : ∀ q, fm_A K s.heap.size q → fm_A K s.heap.size q := fun _ h => h
  have hl : lv_has ls 4 [(0, .ref (K.2.2.2 0)), (1, .int x1), (2, .ref (K.2.2.2 55))] := hl
  generalize hQ : MQ below _ args s _ _ _ = Q
  rw [mL_setRange] at h
  refine lv_aload_n hx hb dL_setRange_0 rfl (lv_at hl 2 rfl) ?_
  refine lv_iconst (v := 0) hx hb dL_setRange_1 (by decide) ?_
  refine lv_aload_n hx hb dL_setRange_2 rfl (lv_at hl 0 rfl) ?_
  refine lv_iload_n hx hb dL_setRange_3 rfl (lv_at hl 1 rfl) ?_
  obtain ⟨x4_, h4, hok, her⟩ := mi_h2 h
  refine fm_cxi (vx_runV (As := [.int x1]) (rest := [.int (0 : Int32), .ref (K.2.2.2 55)]) C (kX4_setRange l K hfl h4 _) (cwV 1 hts gL_setRange_X4_setRange rfl rfl rfl (by decide +kernel) ⟨(Nat.le_of_ble_eq_true rfl), (Nat.le_of_ble_eq_true rfl)⟩) ⟨fm_blind, fm_recv hst hH (q := 0) (by decide) rfl (fm_ob_0 _ _) rfl, fm_pre hst hA hH⟩ rfl rfl hl.1 rfl (lv_room (Nat.le_of_ble_eq_true rfl)) dL_setRange_4 ⟨(Nat.le_of_ble_eq_true rfl), (Nat.le_of_ble_eq_true rfl)⟩) hA hH (fun E σx4 ce q9 H locs hx1 hH hce hcv hcl => ?_) (fun r4 σ4 H locs hx1 hH => ?_)
  · replace h := her _ _ hx1
    clear hok her
    refine vx_widen (k := 1) (n := 6) (Nat.le_of_ble_eq_true rfl) (Nat.le_of_ble_eq_true rfl) ?_
    by_cases hE : E = "java/lang/IllegalArgumentException"
    · subst hE
      replace h := mi_pos rfl h
      refine vx_catch (own := RL) (name := "java/lang/IllegalArgumentException") hown [] ⟨0, 9, 12, 13⟩ [] htab (fun z hz => nomatch hz) (by decide) (by decide) (hts (.classLink RL 13 "java/lang/IllegalArgumentException") (List.mem_of_getElem? (i := 1) rfl)) (va_Nw.use rfl (hst.2.2.2.2.2.1 _ (List.mem_of_getElem? (i := 1) rfl))) hce hcv hcl ?_
      refine lv_astore_n (lv' := [(3, .ref q9), (0, .ref (K.2.2.2 0)), (1, .int x1), (2, .ref (K.2.2.2 55))]) hx hb dL_setRange_12 rfl hl (by decide) rfl (fun ls hl => ?_)
      refine lv_iconst (v := 1) hx hb dL_setRange_13 (by decide) ?_
      cases h
      subst hQ
      exact fm_iretW hx hb hr hlk hst hH (Nat.le_of_ble_eq_true rfl) (Nat.le_of_ble_eq_true rfl) dL_setRange_14
    · replace h := mi_neg hE h
      cases h
  · replace h := hok _ _ hx1
    clear hok her
    refine W.widen (k := 1) (n := 6) (Nat.le_of_ble_eq_true rfl) (Nat.le_of_ble_eq_true rfl) ?_
    refine lv_i2l (v := r4.toInt64) hx hb dL_setRange_7 rfl ?_
    obtain ⟨hi1, h⟩ := mi_chk h
    refine fm_lst hx hb hst.1 hH 55 (by decide) rfl rfl hi1 dL_setRange_8 (fun H locs hH => ?_)
    refine lv_goto (tgt := 15) hx hb dL_setRange_9 (by decide) ?_
    refine lv_iconst (v := 0) hx hb dL_setRange_15 (by decide) ?_
    cases h
    subst hQ
    exact fm_iretW hx hb hr hlk hst hH (Nat.le_of_ble_eq_true rfl) (Nat.le_of_ble_eq_true rfl) dL_setRange_16
/-! RL.block(LFormationist;II[J)I -/
abbrev rmL_block : Room := { frames := 9, cells := 3, slots := 18, locals := 147 }
def mL_block (x1 : Int32) (x2 : Int32) (σ : fm_S) : Option (Int32 × fm_S) :=
  mh2 (mX4_block x1 x2 σ) (fun r5 σ5 =>
    mb1 (show Option (Int64) from
      if r5 = 0 then
        some ((0 : Int64))
      else
        some ((1 : Int64))) fun v1_0 =>
    if ((0 : Int32) < 0 ∨ 1 ≤ (0 : Int32).toNatClampNeg) then none else
    some ((0 : Int32), (sL σ5 55 (0 : Int32) v1_0))) (fun E σx5 =>
    if E = "java/lang/IndexOutOfBoundsException" then
      some ((1 : Int32), σx5)
    else
      if E = "java/lang/IllegalArgumentException" then
        some ((2 : Int32), σx5)
      else
        none)
set_option maxHeartbeats 4000000 in
set_option maxRecDepth 100000 in
theorem kL_block (l : Launch) (K : fm_K) (hfl : l.stackTraces = false) {x1 : Int32} {x2 : Int32} {σ : fm_S} {r : Int32} {σ' : fm_S} (h : mL_block x1 x2 σ = some (r, σ')) : fm_WI l yL_block wsL_block rmL_block K [.ref (K.2.2.2 0), .int x1, .int x2, .ref (K.2.2.2 55)] σ r σ' 3 := by
  intro sz
  refine fm_startW (hh := [(0, 17, 20, 21), (0, 17, 24, 13)]) (Qc := fun sz => fm_QI K r σ' sz) (cc := cL_block) (maxL := 5) (ret := (some .int)) (by decide) rfl (Nat.le_of_ble_eq_true rfl) ?_
  intro p e s m args below meth c C hr hlk htab hst hH ls hl
  have C : CallFix p m c cL_block 5 s args wsL_block RL := C
  obtain ⟨hx, hb, hml, hown, hts⟩ := id C
  have hA : ∀ q, fm_A K s.heap.size q → fm_A K s.heap.size q := fun _ h => h
  have hl : lv_has ls 5 [(0, .ref (K.2.2.2 0)), (1, .int x1), (2, .int x2), (3, .ref (K.2.2.2 55))] := hl
  generalize hQ : MQ below _ args s _ _ _ = Q
  rw [mL_block] at h
  refine lv_aload_n hx hb dL_block_0 rfl (lv_at hl 3 rfl) ?_
  refine lv_iconst (v := 0) hx hb dL_block_1 (by decide) ?_
  refine lv_aload_n hx hb dL_block_2 rfl (lv_at hl 0 rfl) ?_
  refine lv_iload_n hx hb dL_block_3 rfl (lv_at hl 1 rfl) ?_
  refine lv_iload_n hx hb dL_block_4 rfl (lv_at hl 2 rfl) ?_
  obtain ⟨x5_, h5, hok, her⟩ := mi_h2 h
  refine fm_cxi (vx_runV (As := [.int x1, .int x2]) (rest := [.int (0 : Int32), .ref (K.2.2.2 55)]) C (kX4_block l K hfl h5 _) (cwV 2 hts gL_block_X4_block rfl rfl rfl (by decide +kernel) ⟨(Nat.le_of_ble_eq_true rfl), (Nat.le_of_ble_eq_true rfl)⟩) ⟨fm_blind, fm_recv hst hH (q := 0) (by decide) rfl (fm_ob_0 _ _) rfl, fm_pre hst hA hH⟩ rfl rfl hl.1 rfl (lv_room (Nat.le_of_ble_eq_true rfl)) dL_block_5 ⟨(Nat.le_of_ble_eq_true rfl), (Nat.le_of_ble_eq_true rfl)⟩) hA hH (fun E σx5 ce q9 H locs hx1 hH hce hcv hcl => ?_) (fun r5 σ5 H locs hx1 hH => ?_)
  · replace h := her _ _ hx1
    clear hok her
    refine vx_widen (k := 3) (n := 18) (Nat.le_of_ble_eq_true rfl) (Nat.le_of_ble_eq_true rfl) ?_
    by_cases hE : E = "java/lang/IndexOutOfBoundsException"
    · subst hE
      replace h := mi_pos rfl h
      refine vx_catch (own := RL) (name := "java/lang/IndexOutOfBoundsException") hown [] ⟨0, 17, 20, 21⟩ [⟨0, 17, 24, 13⟩] htab (fun z hz => nomatch hz) (by decide) (by decide) (hts (.classLink RL 21 "java/lang/IndexOutOfBoundsException") (List.mem_of_getElem? (i := 1) rfl)) (va_Nw.use rfl (hst.2.2.2.2.2.1 _ (List.mem_of_getElem? (i := 0) rfl))) hce hcv hcl ?_
      refine lv_astore (lv' := [(4, .ref q9), (0, .ref (K.2.2.2 0)), (1, .int x1), (2, .int x2), (3, .ref (K.2.2.2 55))]) hx hb dL_block_20 hl (by decide) rfl (fun ls hl => ?_)
      refine lv_iconst (v := 1) hx hb dL_block_22 (by decide) ?_
      cases h
      subst hQ
      exact fm_iretW hx hb hr hlk hst hH (Nat.le_of_ble_eq_true rfl) (Nat.le_of_ble_eq_true rfl) dL_block_23
    · replace h := mi_neg hE h
      by_cases hE : E = "java/lang/IllegalArgumentException"
      · subst hE
        replace h := mi_pos rfl h
        refine vx_catch (own := RL) (name := "java/lang/IllegalArgumentException") hown [⟨0, 17, 20, 21⟩] ⟨0, 17, 24, 13⟩ [] htab (fun z hz => by rcases List.mem_cons.mp hz with rfl | hz; exact Or.inr ⟨by decide, "java/lang/IndexOutOfBoundsException", (hts (.classLink RL 21 "java/lang/IndexOutOfBoundsException") (List.mem_of_getElem? (i := 1) rfl)), hst.2.2.2.2.2.2.1 _ (List.mem_of_getElem? (i := 1) rfl)⟩; exact nomatch hz) (by decide) (by decide) (hts (.classLink RL 13 "java/lang/IllegalArgumentException") (List.mem_of_getElem? (i := 2) rfl)) (va_Nw.use rfl (hst.2.2.2.2.2.1 _ (List.mem_of_getElem? (i := 1) rfl))) hce hcv hcl ?_
        refine lv_astore (lv' := [(4, .ref q9), (0, .ref (K.2.2.2 0)), (1, .int x1), (2, .int x2), (3, .ref (K.2.2.2 55))]) hx hb dL_block_24 hl (by decide) rfl (fun ls hl => ?_)
        refine lv_iconst (v := 2) hx hb dL_block_26 (by decide) ?_
        cases h
        subst hQ
        exact fm_iretW hx hb hr hlk hst hH (Nat.le_of_ble_eq_true rfl) (Nat.le_of_ble_eq_true rfl) dL_block_27
      · replace h := mi_neg hE h
        cases h
  · replace h := hok _ _ hx1
    clear hok her
    refine W.widen (k := 3) (n := 18) (Nat.le_of_ble_eq_true rfl) (Nat.le_of_ble_eq_true rfl) ?_
    obtain ⟨v1_0, hd, h2⟩ := mi_b1 h
    have kj : ∀ (ls : Array Slot) (H : Heap) (locs : List Loc), lv_has ls 5 [] → fm_H K σ5 (fm_A K s.heap.size) s H locs → W p l e rmL_block s m args below meth c H locs 3 18 Q (F0 m 16 ls [.long v1_0, .int (0 : Int32), .ref (K.2.2.2 55)]) := by
      clear h hd
      intro ls H locs hl hH
      have h := h2
      clear h2
      obtain ⟨hi2, h⟩ := mi_chk h
      refine fm_lst hx hb hst.1 hH 55 (by decide) rfl rfl hi2 dL_block_16 (fun H locs hH => ?_)
      refine lv_goto (tgt := 28) hx hb dL_block_17 (by decide) ?_
      refine lv_iconst (v := 0) hx hb dL_block_28 (by decide) ?_
      cases h
      subst hQ
      exact fm_iretW hx hb hr hlk hst hH (Nat.le_of_ble_eq_true rfl) (Nat.le_of_ble_eq_true rfl) dL_block_29
    replace h := hd
    clear h2 hd
    refine lv_if_eq (tgt := 15) hx hb dL_block_8 (by decide) (fun hc => ?_) (fun hc => ?_)
    · replace h := mi_pos hc h
      refine lv_lconst (v := 0) hx hb dL_block_15 (by decide) ?_
      cases h
      exact kj _ _ _ (lv_sub hl [] rfl) hH
    · replace h := mi_neg hc h
      refine lv_lconst (v := 1) hx hb dL_block_11 (by decide) ?_
      refine lv_goto (tgt := 16) hx hb dL_block_12 (by decide) ?_
      cases h
      exact kj _ _ _ (lv_sub hl [] rfl) hH
/-! RL.xOf(LFormationist;I[J)I -/
abbrev rmL_xOf : Room := { frames := 8, cells := 1, slots := 6, locals := 124 }
def mL_xOf (x1 : Int32) (σ : fm_S) : Option (Int32 × fm_S) :=
  mh2 (mX4_xOf x1 σ) (fun r4 σ4 =>
    if ((0 : Int32) < 0 ∨ 1 ≤ (0 : Int32).toNatClampNeg) then none else
    some ((0 : Int32), (sL σ4 55 (0 : Int32) (r4.toInt64)))) (fun E σx4 =>
    if E = "java/lang/IndexOutOfBoundsException" then
      some ((1 : Int32), σx4)
    else
      none)
set_option maxHeartbeats 4000000 in
set_option maxRecDepth 100000 in
theorem kL_xOf (l : Launch) (K : fm_K) (hfl : l.stackTraces = false) {x1 : Int32} {σ : fm_S} {r : Int32} {σ' : fm_S} (h : mL_xOf x1 σ = some (r, σ')) : fm_WI l yL_xOf wsL_xOf rmL_xOf K [.ref (K.2.2.2 0), .int x1, .ref (K.2.2.2 55)] σ r σ' 1 := by
  intro sz
  refine fm_startW (hh := [(0, 9, 12, 21)]) (Qc := fun sz => fm_QI K r σ' sz) (cc := cL_xOf) (maxL := 4) (ret := (some .int)) (by decide) rfl (Nat.le_of_ble_eq_true rfl) ?_
  intro p e s m args below meth c C hr hlk htab hst hH ls hl
  have C : CallFix p m c cL_xOf 4 s args wsL_xOf RL := C
  obtain ⟨hx, hb, hml, hown, hts⟩ := id C
  have hA : ∀ q, fm_A K s.heap.size q → fm_A K s.heap.size q := fun _ h => h
  have hl : lv_has ls 4 [(0, .ref (K.2.2.2 0)), (1, .int x1), (2, .ref (K.2.2.2 55))] := hl
  generalize hQ : MQ below _ args s _ _ _ = Q
  rw [mL_xOf] at h
  refine lv_aload_n hx hb dL_xOf_0 rfl (lv_at hl 2 rfl) ?_
  refine lv_iconst (v := 0) hx hb dL_xOf_1 (by decide) ?_
  refine lv_aload_n hx hb dL_xOf_2 rfl (lv_at hl 0 rfl) ?_
  refine lv_iload_n hx hb dL_xOf_3 rfl (lv_at hl 1 rfl) ?_
  obtain ⟨x4_, h4, hok, her⟩ := mi_h2 h
  refine fm_cxi (vx_runV (As := [.int x1]) (rest := [.int (0 : Int32), .ref (K.2.2.2 55)]) C (kX4_xOf l K hfl h4 _) (cwV 1 hts gL_xOf_X4_xOf rfl rfl rfl (by decide +kernel) ⟨(Nat.le_of_ble_eq_true rfl), (Nat.le_of_ble_eq_true rfl)⟩) ⟨fm_blind, fm_recv hst hH (q := 0) (by decide) rfl (fm_ob_0 _ _) rfl, fm_pre hst hA hH⟩ rfl rfl hl.1 rfl (lv_room (Nat.le_of_ble_eq_true rfl)) dL_xOf_4 ⟨(Nat.le_of_ble_eq_true rfl), (Nat.le_of_ble_eq_true rfl)⟩) hA hH (fun E σx4 ce q9 H locs hx1 hH hce hcv hcl => ?_) (fun r4 σ4 H locs hx1 hH => ?_)
  · replace h := her _ _ hx1
    clear hok her
    refine vx_widen (k := 1) (n := 6) (Nat.le_of_ble_eq_true rfl) (Nat.le_of_ble_eq_true rfl) ?_
    by_cases hE : E = "java/lang/IndexOutOfBoundsException"
    · subst hE
      replace h := mi_pos rfl h
      refine vx_catch (own := RL) (name := "java/lang/IndexOutOfBoundsException") hown [] ⟨0, 9, 12, 21⟩ [] htab (fun z hz => nomatch hz) (by decide) (by decide) (hts (.classLink RL 21 "java/lang/IndexOutOfBoundsException") (List.mem_of_getElem? (i := 1) rfl)) (va_Nw.use rfl (hst.2.2.2.2.2.1 _ (List.mem_of_getElem? (i := 0) rfl))) hce hcv hcl ?_
      refine lv_astore_n (lv' := [(3, .ref q9), (0, .ref (K.2.2.2 0)), (1, .int x1), (2, .ref (K.2.2.2 55))]) hx hb dL_xOf_12 rfl hl (by decide) rfl (fun ls hl => ?_)
      refine lv_iconst (v := 1) hx hb dL_xOf_13 (by decide) ?_
      cases h
      subst hQ
      exact fm_iretW hx hb hr hlk hst hH (Nat.le_of_ble_eq_true rfl) (Nat.le_of_ble_eq_true rfl) dL_xOf_14
    · replace h := mi_neg hE h
      cases h
  · replace h := hok _ _ hx1
    clear hok her
    refine W.widen (k := 1) (n := 6) (Nat.le_of_ble_eq_true rfl) (Nat.le_of_ble_eq_true rfl) ?_
    refine lv_i2l (v := r4.toInt64) hx hb dL_xOf_7 rfl ?_
    obtain ⟨hi1, h⟩ := mi_chk h
    refine fm_lst hx hb hst.1 hH 55 (by decide) rfl rfl hi1 dL_xOf_8 (fun H locs hH => ?_)
    refine lv_goto (tgt := 15) hx hb dL_xOf_9 (by decide) ?_
    refine lv_iconst (v := 0) hx hb dL_xOf_15 (by decide) ?_
    cases h
    subst hQ
    exact fm_iretW hx hb hr hlk hst hH (Nat.le_of_ble_eq_true rfl) (Nat.le_of_ble_eq_true rfl) dL_xOf_16
/-! RL.yOf(LFormationist;I[J)I -/
abbrev rmL_yOf : Room := { frames := 8, cells := 1, slots := 6, locals := 124 }
def mL_yOf (x1 : Int32) (σ : fm_S) : Option (Int32 × fm_S) :=
  mh2 (mX4_yOf x1 σ) (fun r4 σ4 =>
    if ((0 : Int32) < 0 ∨ 1 ≤ (0 : Int32).toNatClampNeg) then none else
    some ((0 : Int32), (sL σ4 55 (0 : Int32) (r4.toInt64)))) (fun E σx4 =>
    if E = "java/lang/IndexOutOfBoundsException" then
      some ((1 : Int32), σx4)
    else
      none)
set_option maxHeartbeats 4000000 in
set_option maxRecDepth 100000 in
theorem kL_yOf (l : Launch) (K : fm_K) (hfl : l.stackTraces = false) {x1 : Int32} {σ : fm_S} {r : Int32} {σ' : fm_S} (h : mL_yOf x1 σ = some (r, σ')) : fm_WI l yL_yOf wsL_yOf rmL_yOf K [.ref (K.2.2.2 0), .int x1, .ref (K.2.2.2 55)] σ r σ' 1 := by
  intro sz
  refine fm_startW (hh := [(0, 9, 12, 21)]) (Qc := fun sz => fm_QI K r σ' sz) (cc := cL_yOf) (maxL := 4) (ret := (some .int)) (by decide) rfl (Nat.le_of_ble_eq_true rfl) ?_
  intro p e s m args below meth c C hr hlk htab hst hH ls hl
  have C : CallFix p m c cL_yOf 4 s args wsL_yOf RL := C
  obtain ⟨hx, hb, hml, hown, hts⟩ := id C
  have hA : ∀ q, fm_A K s.heap.size q → fm_A K s.heap.size q := fun _ h => h
  have hl : lv_has ls 4 [(0, .ref (K.2.2.2 0)), (1, .int x1), (2, .ref (K.2.2.2 55))] := hl
  generalize hQ : MQ below _ args s _ _ _ = Q
  rw [mL_yOf] at h
  refine lv_aload_n hx hb dL_yOf_0 rfl (lv_at hl 2 rfl) ?_
  refine lv_iconst (v := 0) hx hb dL_yOf_1 (by decide) ?_
  refine lv_aload_n hx hb dL_yOf_2 rfl (lv_at hl 0 rfl) ?_
  refine lv_iload_n hx hb dL_yOf_3 rfl (lv_at hl 1 rfl) ?_
  obtain ⟨x4_, h4, hok, her⟩ := mi_h2 h
  refine fm_cxi (vx_runV (As := [.int x1]) (rest := [.int (0 : Int32), .ref (K.2.2.2 55)]) C (kX4_yOf l K hfl h4 _) (cwV 1 hts gL_yOf_X4_yOf rfl rfl rfl (by decide +kernel) ⟨(Nat.le_of_ble_eq_true rfl), (Nat.le_of_ble_eq_true rfl)⟩) ⟨fm_blind, fm_recv hst hH (q := 0) (by decide) rfl (fm_ob_0 _ _) rfl, fm_pre hst hA hH⟩ rfl rfl hl.1 rfl (lv_room (Nat.le_of_ble_eq_true rfl)) dL_yOf_4 ⟨(Nat.le_of_ble_eq_true rfl), (Nat.le_of_ble_eq_true rfl)⟩) hA hH (fun E σx4 ce q9 H locs hx1 hH hce hcv hcl => ?_) (fun r4 σ4 H locs hx1 hH => ?_)
  · replace h := her _ _ hx1
    clear hok her
    refine vx_widen (k := 1) (n := 6) (Nat.le_of_ble_eq_true rfl) (Nat.le_of_ble_eq_true rfl) ?_
    by_cases hE : E = "java/lang/IndexOutOfBoundsException"
    · subst hE
      replace h := mi_pos rfl h
      refine vx_catch (own := RL) (name := "java/lang/IndexOutOfBoundsException") hown [] ⟨0, 9, 12, 21⟩ [] htab (fun z hz => nomatch hz) (by decide) (by decide) (hts (.classLink RL 21 "java/lang/IndexOutOfBoundsException") (List.mem_of_getElem? (i := 1) rfl)) (va_Nw.use rfl (hst.2.2.2.2.2.1 _ (List.mem_of_getElem? (i := 0) rfl))) hce hcv hcl ?_
      refine lv_astore_n (lv' := [(3, .ref q9), (0, .ref (K.2.2.2 0)), (1, .int x1), (2, .ref (K.2.2.2 55))]) hx hb dL_yOf_12 rfl hl (by decide) rfl (fun ls hl => ?_)
      refine lv_iconst (v := 1) hx hb dL_yOf_13 (by decide) ?_
      cases h
      subst hQ
      exact fm_iretW hx hb hr hlk hst hH (Nat.le_of_ble_eq_true rfl) (Nat.le_of_ble_eq_true rfl) dL_yOf_14
    · replace h := mi_neg hE h
      cases h
  · replace h := hok _ _ hx1
    clear hok her
    refine W.widen (k := 1) (n := 6) (Nat.le_of_ble_eq_true rfl) (Nat.le_of_ble_eq_true rfl) ?_
    refine lv_i2l (v := r4.toInt64) hx hb dL_yOf_7 rfl ?_
    obtain ⟨hi1, h⟩ := mi_chk h
    refine fm_lst hx hb hst.1 hH 55 (by decide) rfl rfl hi1 dL_yOf_8 (fun H locs hH => ?_)
    refine lv_goto (tgt := 15) hx hb dL_yOf_9 (by decide) ?_
    refine lv_iconst (v := 0) hx hb dL_yOf_15 (by decide) ?_
    cases h
    subst hQ
    exact fm_iretW hx hb hr hlk hst hH (Nat.le_of_ble_eq_true rfl) (Nat.le_of_ble_eq_true rfl) dL_yOf_16
/-! RL.areLinked(LFormationist;II[J)I -/
abbrev rmL_areLinked : Room := { frames := 8, cells := 2, slots := 12, locals := 125 }
def mL_areLinked (x1 : Int32) (x2 : Int32) (σ : fm_S) : Option (Int32 × fm_S) :=
  mh2 (mX4_areLinked x1 x2 σ) (fun r5 σ5 =>
    mb1 (show Option (Int64) from
      if r5 = 0 then
        some ((0 : Int64))
      else
        some ((1 : Int64))) fun v1_0 =>
    if ((0 : Int32) < 0 ∨ 1 ≤ (0 : Int32).toNatClampNeg) then none else
    some ((0 : Int32), (sL σ5 55 (0 : Int32) v1_0))) (fun E σx5 =>
    if E = "java/lang/IndexOutOfBoundsException" then
      some ((1 : Int32), σx5)
    else
      none)
set_option maxHeartbeats 4000000 in
set_option maxRecDepth 100000 in
theorem kL_areLinked (l : Launch) (K : fm_K) (hfl : l.stackTraces = false) {x1 : Int32} {x2 : Int32} {σ : fm_S} {r : Int32} {σ' : fm_S} (h : mL_areLinked x1 x2 σ = some (r, σ')) : fm_WI l yL_areLinked wsL_areLinked rmL_areLinked K [.ref (K.2.2.2 0), .int x1, .int x2, .ref (K.2.2.2 55)] σ r σ' 2 := by
  intro sz
  refine fm_startW (hh := [(0, 17, 20, 21)]) (Qc := fun sz => fm_QI K r σ' sz) (cc := cL_areLinked) (maxL := 5) (ret := (some .int)) (by decide) rfl (Nat.le_of_ble_eq_true rfl) ?_
  intro p e s m args below meth c C hr hlk htab hst hH ls hl
  have C : CallFix p m c cL_areLinked 5 s args wsL_areLinked RL := C
  obtain ⟨hx, hb, hml, hown, hts⟩ := id C
  have hA : ∀ q, fm_A K s.heap.size q → fm_A K s.heap.size q := fun _ h => h
  have hl : lv_has ls 5 [(0, .ref (K.2.2.2 0)), (1, .int x1), (2, .int x2), (3, .ref (K.2.2.2 55))] := hl
  generalize hQ : MQ below _ args s _ _ _ = Q
  rw [mL_areLinked] at h
  refine lv_aload_n hx hb dL_areLinked_0 rfl (lv_at hl 3 rfl) ?_
  refine lv_iconst (v := 0) hx hb dL_areLinked_1 (by decide) ?_
  refine lv_aload_n hx hb dL_areLinked_2 rfl (lv_at hl 0 rfl) ?_
  refine lv_iload_n hx hb dL_areLinked_3 rfl (lv_at hl 1 rfl) ?_
  refine lv_iload_n hx hb dL_areLinked_4 rfl (lv_at hl 2 rfl) ?_
  obtain ⟨x5_, h5, hok, her⟩ := mi_h2 h
  refine fm_cxi (vx_runV (As := [.int x1, .int x2]) (rest := [.int (0 : Int32), .ref (K.2.2.2 55)]) C (kX4_areLinked l K hfl h5 _) (cwV 2 hts gL_areLinked_X4_areLinked rfl rfl rfl (by decide +kernel) ⟨(Nat.le_of_ble_eq_true rfl), (Nat.le_of_ble_eq_true rfl)⟩) ⟨fm_blind, fm_recv hst hH (q := 0) (by decide) rfl (fm_ob_0 _ _) rfl, fm_pre hst hA hH⟩ rfl rfl hl.1 rfl (lv_room (Nat.le_of_ble_eq_true rfl)) dL_areLinked_5 ⟨(Nat.le_of_ble_eq_true rfl), (Nat.le_of_ble_eq_true rfl)⟩) hA hH (fun E σx5 ce q9 H locs hx1 hH hce hcv hcl => ?_) (fun r5 σ5 H locs hx1 hH => ?_)
  · replace h := her _ _ hx1
    clear hok her
    refine vx_widen (k := 2) (n := 12) (Nat.le_of_ble_eq_true rfl) (Nat.le_of_ble_eq_true rfl) ?_
    by_cases hE : E = "java/lang/IndexOutOfBoundsException"
    · subst hE
      replace h := mi_pos rfl h
      refine vx_catch (own := RL) (name := "java/lang/IndexOutOfBoundsException") hown [] ⟨0, 17, 20, 21⟩ [] htab (fun z hz => nomatch hz) (by decide) (by decide) (hts (.classLink RL 21 "java/lang/IndexOutOfBoundsException") (List.mem_of_getElem? (i := 1) rfl)) (va_Nw.use rfl (hst.2.2.2.2.2.1 _ (List.mem_of_getElem? (i := 0) rfl))) hce hcv hcl ?_
      refine lv_astore (lv' := [(4, .ref q9), (0, .ref (K.2.2.2 0)), (1, .int x1), (2, .int x2), (3, .ref (K.2.2.2 55))]) hx hb dL_areLinked_20 hl (by decide) rfl (fun ls hl => ?_)
      refine lv_iconst (v := 1) hx hb dL_areLinked_22 (by decide) ?_
      cases h
      subst hQ
      exact fm_iretW hx hb hr hlk hst hH (Nat.le_of_ble_eq_true rfl) (Nat.le_of_ble_eq_true rfl) dL_areLinked_23
    · replace h := mi_neg hE h
      cases h
  · replace h := hok _ _ hx1
    clear hok her
    refine W.widen (k := 2) (n := 12) (Nat.le_of_ble_eq_true rfl) (Nat.le_of_ble_eq_true rfl) ?_
    obtain ⟨v1_0, hd, h2⟩ := mi_b1 h
    have kj : ∀ (ls : Array Slot) (H : Heap) (locs : List Loc), lv_has ls 5 [] → fm_H K σ5 (fm_A K s.heap.size) s H locs → W p l e rmL_areLinked s m args below meth c H locs 2 12 Q (F0 m 16 ls [.long v1_0, .int (0 : Int32), .ref (K.2.2.2 55)]) := by
      clear h hd
      intro ls H locs hl hH
      have h := h2
      clear h2
      obtain ⟨hi2, h⟩ := mi_chk h
      refine fm_lst hx hb hst.1 hH 55 (by decide) rfl rfl hi2 dL_areLinked_16 (fun H locs hH => ?_)
      refine lv_goto (tgt := 24) hx hb dL_areLinked_17 (by decide) ?_
      refine lv_iconst (v := 0) hx hb dL_areLinked_24 (by decide) ?_
      cases h
      subst hQ
      exact fm_iretW hx hb hr hlk hst hH (Nat.le_of_ble_eq_true rfl) (Nat.le_of_ble_eq_true rfl) dL_areLinked_25
    replace h := hd
    clear h2 hd
    refine lv_if_eq (tgt := 15) hx hb dL_areLinked_8 (by decide) (fun hc => ?_) (fun hc => ?_)
    · replace h := mi_pos hc h
      refine lv_lconst (v := 0) hx hb dL_areLinked_15 (by decide) ?_
      cases h
      exact kj _ _ _ (lv_sub hl [] rfl) hH
    · replace h := mi_neg hc h
      refine lv_lconst (v := 1) hx hb dL_areLinked_11 (by decide) ?_
      refine lv_goto (tgt := 16) hx hb dL_areLinked_12 (by decide) ?_
      cases h
      exact kj _ _ _ (lv_sub hl [] rfl) hH
/-! RL.degree(LFormationist;I[J)I -/
abbrev rmL_degree : Room := { frames := 8, cells := 1, slots := 6, locals := 124 }
def mL_degree (x1 : Int32) (σ : fm_S) : Option (Int32 × fm_S) :=
  mh2 (mX4_degree x1 σ) (fun r4 σ4 =>
    if ((0 : Int32) < 0 ∨ 1 ≤ (0 : Int32).toNatClampNeg) then none else
    some ((0 : Int32), (sL σ4 55 (0 : Int32) (r4.toInt64)))) (fun E σx4 =>
    if E = "java/lang/IndexOutOfBoundsException" then
      some ((1 : Int32), σx4)
    else
      none)
set_option maxHeartbeats 4000000 in
set_option maxRecDepth 100000 in
theorem kL_degree (l : Launch) (K : fm_K) (hfl : l.stackTraces = false) {x1 : Int32} {σ : fm_S} {r : Int32} {σ' : fm_S} (h : mL_degree x1 σ = some (r, σ')) : fm_WI l yL_degree wsL_degree rmL_degree K [.ref (K.2.2.2 0), .int x1, .ref (K.2.2.2 55)] σ r σ' 1 := by
  intro sz
  refine fm_startW (hh := [(0, 9, 12, 21)]) (Qc := fun sz => fm_QI K r σ' sz) (cc := cL_degree) (maxL := 4) (ret := (some .int)) (by decide) rfl (Nat.le_of_ble_eq_true rfl) ?_
  intro p e s m args below meth c C hr hlk htab hst hH ls hl
  have C : CallFix p m c cL_degree 4 s args wsL_degree RL := C
  obtain ⟨hx, hb, hml, hown, hts⟩ := id C
  have hA : ∀ q, fm_A K s.heap.size q → fm_A K s.heap.size q := fun _ h => h
  have hl : lv_has ls 4 [(0, .ref (K.2.2.2 0)), (1, .int x1), (2, .ref (K.2.2.2 55))] := hl
  generalize hQ : MQ below _ args s _ _ _ = Q
  rw [mL_degree] at h
  refine lv_aload_n hx hb dL_degree_0 rfl (lv_at hl 2 rfl) ?_
  refine lv_iconst (v := 0) hx hb dL_degree_1 (by decide) ?_
  refine lv_aload_n hx hb dL_degree_2 rfl (lv_at hl 0 rfl) ?_
  refine lv_iload_n hx hb dL_degree_3 rfl (lv_at hl 1 rfl) ?_
  obtain ⟨x4_, h4, hok, her⟩ := mi_h2 h
  refine fm_cxi (vx_runV (As := [.int x1]) (rest := [.int (0 : Int32), .ref (K.2.2.2 55)]) C (kX4_degree l K hfl h4 _) (cwV 1 hts gL_degree_X4_degree rfl rfl rfl (by decide +kernel) ⟨(Nat.le_of_ble_eq_true rfl), (Nat.le_of_ble_eq_true rfl)⟩) ⟨fm_blind, fm_recv hst hH (q := 0) (by decide) rfl (fm_ob_0 _ _) rfl, fm_pre hst hA hH⟩ rfl rfl hl.1 rfl (lv_room (Nat.le_of_ble_eq_true rfl)) dL_degree_4 ⟨(Nat.le_of_ble_eq_true rfl), (Nat.le_of_ble_eq_true rfl)⟩) hA hH (fun E σx4 ce q9 H locs hx1 hH hce hcv hcl => ?_) (fun r4 σ4 H locs hx1 hH => ?_)
  · replace h := her _ _ hx1
    clear hok her
    refine vx_widen (k := 1) (n := 6) (Nat.le_of_ble_eq_true rfl) (Nat.le_of_ble_eq_true rfl) ?_
    by_cases hE : E = "java/lang/IndexOutOfBoundsException"
    · subst hE
      replace h := mi_pos rfl h
      refine vx_catch (own := RL) (name := "java/lang/IndexOutOfBoundsException") hown [] ⟨0, 9, 12, 21⟩ [] htab (fun z hz => nomatch hz) (by decide) (by decide) (hts (.classLink RL 21 "java/lang/IndexOutOfBoundsException") (List.mem_of_getElem? (i := 1) rfl)) (va_Nw.use rfl (hst.2.2.2.2.2.1 _ (List.mem_of_getElem? (i := 0) rfl))) hce hcv hcl ?_
      refine lv_astore_n (lv' := [(3, .ref q9), (0, .ref (K.2.2.2 0)), (1, .int x1), (2, .ref (K.2.2.2 55))]) hx hb dL_degree_12 rfl hl (by decide) rfl (fun ls hl => ?_)
      refine lv_iconst (v := 1) hx hb dL_degree_13 (by decide) ?_
      cases h
      subst hQ
      exact fm_iretW hx hb hr hlk hst hH (Nat.le_of_ble_eq_true rfl) (Nat.le_of_ble_eq_true rfl) dL_degree_14
    · replace h := mi_neg hE h
      cases h
  · replace h := hok _ _ hx1
    clear hok her
    refine W.widen (k := 1) (n := 6) (Nat.le_of_ble_eq_true rfl) (Nat.le_of_ble_eq_true rfl) ?_
    refine lv_i2l (v := r4.toInt64) hx hb dL_degree_7 rfl ?_
    obtain ⟨hi1, h⟩ := mi_chk h
    refine fm_lst hx hb hst.1 hH 55 (by decide) rfl rfl hi1 dL_degree_8 (fun H locs hH => ?_)
    refine lv_goto (tgt := 15) hx hb dL_degree_9 (by decide) ?_
    refine lv_iconst (v := 0) hx hb dL_degree_15 (by decide) ?_
    cases h
    subst hQ
    exact fm_iretW hx hb hr hlk hst hH (Nat.le_of_ble_eq_true rfl) (Nat.le_of_ble_eq_true rfl) dL_degree_16
/-! RL.leader(LFormationist;I[J)I -/
abbrev rmL_leader : Room := { frames := 8, cells := 1, slots := 6, locals := 127 }
def mL_leader (x1 : Int32) (σ : fm_S) : Option (Int32 × fm_S) :=
  mh2 (mX4_leader x1 σ) (fun r4 σ4 =>
    if ((0 : Int32) < 0 ∨ 1 ≤ (0 : Int32).toNatClampNeg) then none else
    some ((0 : Int32), (sL σ4 55 (0 : Int32) (r4.toInt64)))) (fun E σx4 =>
    if E = "java/lang/IndexOutOfBoundsException" then
      some ((1 : Int32), σx4)
    else
      none)
set_option maxHeartbeats 4000000 in
set_option maxRecDepth 100000 in
theorem kL_leader (l : Launch) (K : fm_K) (hfl : l.stackTraces = false) {x1 : Int32} {σ : fm_S} {r : Int32} {σ' : fm_S} (h : mL_leader x1 σ = some (r, σ')) : fm_WI l yL_leader wsL_leader rmL_leader K [.ref (K.2.2.2 0), .int x1, .ref (K.2.2.2 55)] σ r σ' 1 := by
  intro sz
  refine fm_startW (hh := [(0, 9, 12, 21)]) (Qc := fun sz => fm_QI K r σ' sz) (cc := cL_leader) (maxL := 4) (ret := (some .int)) (by decide) rfl (Nat.le_of_ble_eq_true rfl) ?_
  intro p e s m args below meth c C hr hlk htab hst hH ls hl
  have C : CallFix p m c cL_leader 4 s args wsL_leader RL := C
  obtain ⟨hx, hb, hml, hown, hts⟩ := id C
  have hA : ∀ q, fm_A K s.heap.size q → fm_A K s.heap.size q := fun _ h => h
  have hl : lv_has ls 4 [(0, .ref (K.2.2.2 0)), (1, .int x1), (2, .ref (K.2.2.2 55))] := hl
  generalize hQ : MQ below _ args s _ _ _ = Q
  rw [mL_leader] at h
  refine lv_aload_n hx hb dL_leader_0 rfl (lv_at hl 2 rfl) ?_
  refine lv_iconst (v := 0) hx hb dL_leader_1 (by decide) ?_
  refine lv_aload_n hx hb dL_leader_2 rfl (lv_at hl 0 rfl) ?_
  refine lv_iload_n hx hb dL_leader_3 rfl (lv_at hl 1 rfl) ?_
  obtain ⟨x4_, h4, hok, her⟩ := mi_h2 h
  refine fm_cxi (vx_runV (As := [.int x1]) (rest := [.int (0 : Int32), .ref (K.2.2.2 55)]) C (kX4_leader l K hfl h4 _) (cwV 1 hts gL_leader_X4_leader rfl rfl rfl (by decide +kernel) ⟨(Nat.le_of_ble_eq_true rfl), (Nat.le_of_ble_eq_true rfl)⟩) ⟨fm_blind, fm_recv hst hH (q := 0) (by decide) rfl (fm_ob_0 _ _) rfl, fm_pre hst hA hH⟩ rfl rfl hl.1 rfl (lv_room (Nat.le_of_ble_eq_true rfl)) dL_leader_4 ⟨(Nat.le_of_ble_eq_true rfl), (Nat.le_of_ble_eq_true rfl)⟩) hA hH (fun E σx4 ce q9 H locs hx1 hH hce hcv hcl => ?_) (fun r4 σ4 H locs hx1 hH => ?_)
  · replace h := her _ _ hx1
    clear hok her
    refine vx_widen (k := 1) (n := 6) (Nat.le_of_ble_eq_true rfl) (Nat.le_of_ble_eq_true rfl) ?_
    by_cases hE : E = "java/lang/IndexOutOfBoundsException"
    · subst hE
      replace h := mi_pos rfl h
      refine vx_catch (own := RL) (name := "java/lang/IndexOutOfBoundsException") hown [] ⟨0, 9, 12, 21⟩ [] htab (fun z hz => nomatch hz) (by decide) (by decide) (hts (.classLink RL 21 "java/lang/IndexOutOfBoundsException") (List.mem_of_getElem? (i := 1) rfl)) (va_Nw.use rfl (hst.2.2.2.2.2.1 _ (List.mem_of_getElem? (i := 0) rfl))) hce hcv hcl ?_
      refine lv_astore_n (lv' := [(3, .ref q9), (0, .ref (K.2.2.2 0)), (1, .int x1), (2, .ref (K.2.2.2 55))]) hx hb dL_leader_12 rfl hl (by decide) rfl (fun ls hl => ?_)
      refine lv_iconst (v := 1) hx hb dL_leader_13 (by decide) ?_
      cases h
      subst hQ
      exact fm_iretW hx hb hr hlk hst hH (Nat.le_of_ble_eq_true rfl) (Nat.le_of_ble_eq_true rfl) dL_leader_14
    · replace h := mi_neg hE h
      cases h
  · replace h := hok _ _ hx1
    clear hok her
    refine W.widen (k := 1) (n := 6) (Nat.le_of_ble_eq_true rfl) (Nat.le_of_ble_eq_true rfl) ?_
    refine lv_i2l (v := r4.toInt64) hx hb dL_leader_7 rfl ?_
    obtain ⟨hi1, h⟩ := mi_chk h
    refine fm_lst hx hb hst.1 hH 55 (by decide) rfl rfl hi1 dL_leader_8 (fun H locs hH => ?_)
    refine lv_goto (tgt := 15) hx hb dL_leader_9 (by decide) ?_
    refine lv_iconst (v := 0) hx hb dL_leader_15 (by decide) ?_
    cases h
    subst hQ
    exact fm_iretW hx hb hr hlk hst hH (Nat.le_of_ble_eq_true rfl) (Nat.le_of_ble_eq_true rfl) dL_leader_16
/-! RL.setEstimate(LFormationist;II[J)I -/
abbrev rmL_setEstimate : Room := { frames := 9, cells := 2, slots := 12, locals := 147 }
def mL_setEstimate (x1 : Int32) (x2 : Int32) (σ : fm_S) : Option (Int32 × fm_S) :=
  mh2 (mX4_setEstimate x1 x2 σ) (fun r5 σ5 =>
    if ((0 : Int32) < 0 ∨ 1 ≤ (0 : Int32).toNatClampNeg) then none else
    some ((0 : Int32), (sL σ5 55 (0 : Int32) (r5.toInt64)))) (fun E σx5 =>
    if E = "java/lang/IndexOutOfBoundsException" then
      some ((1 : Int32), σx5)
    else
      if E = "java/lang/IllegalArgumentException" then
        some ((2 : Int32), σx5)
      else
        none)
set_option maxHeartbeats 4000000 in
set_option maxRecDepth 100000 in
theorem kL_setEstimate (l : Launch) (K : fm_K) (hfl : l.stackTraces = false) {x1 : Int32} {x2 : Int32} {σ : fm_S} {r : Int32} {σ' : fm_S} (h : mL_setEstimate x1 x2 σ = some (r, σ')) : fm_WI l yL_setEstimate wsL_setEstimate rmL_setEstimate K [.ref (K.2.2.2 0), .int x1, .int x2, .ref (K.2.2.2 55)] σ r σ' 2 := by
  intro sz
  refine fm_startW (hh := [(0, 10, 13, 21), (0, 10, 17, 13)]) (Qc := fun sz => fm_QI K r σ' sz) (cc := cL_setEstimate) (maxL := 5) (ret := (some .int)) (by decide) rfl (Nat.le_of_ble_eq_true rfl) ?_
  intro p e s m args below meth c C hr hlk htab hst hH ls hl
  have C : CallFix p m c cL_setEstimate 5 s args wsL_setEstimate RL := C
  obtain ⟨hx, hb, hml, hown, hts⟩ := id C
  have hA : ∀ q, fm_A K s.heap.size q → fm_A K s.heap.size q := fun _ h => h
  have hl : lv_has ls 5 [(0, .ref (K.2.2.2 0)), (1, .int x1), (2, .int x2), (3, .ref (K.2.2.2 55))] := hl
  generalize hQ : MQ below _ args s _ _ _ = Q
  rw [mL_setEstimate] at h
  refine lv_aload_n hx hb dL_setEstimate_0 rfl (lv_at hl 3 rfl) ?_
  refine lv_iconst (v := 0) hx hb dL_setEstimate_1 (by decide) ?_
  refine lv_aload_n hx hb dL_setEstimate_2 rfl (lv_at hl 0 rfl) ?_
  refine lv_iload_n hx hb dL_setEstimate_3 rfl (lv_at hl 1 rfl) ?_
  refine lv_iload_n hx hb dL_setEstimate_4 rfl (lv_at hl 2 rfl) ?_
  obtain ⟨x5_, h5, hok, her⟩ := mi_h2 h
  refine fm_cxi (vx_runV (As := [.int x1, .int x2]) (rest := [.int (0 : Int32), .ref (K.2.2.2 55)]) C (kX4_setEstimate l K hfl h5 _) (cwV 2 hts gL_setEstimate_X4_setEstimate rfl rfl rfl (by decide +kernel) ⟨(Nat.le_of_ble_eq_true rfl), (Nat.le_of_ble_eq_true rfl)⟩) ⟨fm_blind, fm_recv hst hH (q := 0) (by decide) rfl (fm_ob_0 _ _) rfl, fm_pre hst hA hH⟩ rfl rfl hl.1 rfl (lv_room (Nat.le_of_ble_eq_true rfl)) dL_setEstimate_5 ⟨(Nat.le_of_ble_eq_true rfl), (Nat.le_of_ble_eq_true rfl)⟩) hA hH (fun E σx5 ce q9 H locs hx1 hH hce hcv hcl => ?_) (fun r5 σ5 H locs hx1 hH => ?_)
  · replace h := her _ _ hx1
    clear hok her
    refine vx_widen (k := 2) (n := 12) (Nat.le_of_ble_eq_true rfl) (Nat.le_of_ble_eq_true rfl) ?_
    by_cases hE : E = "java/lang/IndexOutOfBoundsException"
    · subst hE
      replace h := mi_pos rfl h
      refine vx_catch (own := RL) (name := "java/lang/IndexOutOfBoundsException") hown [] ⟨0, 10, 13, 21⟩ [⟨0, 10, 17, 13⟩] htab (fun z hz => nomatch hz) (by decide) (by decide) (hts (.classLink RL 21 "java/lang/IndexOutOfBoundsException") (List.mem_of_getElem? (i := 1) rfl)) (va_Nw.use rfl (hst.2.2.2.2.2.1 _ (List.mem_of_getElem? (i := 0) rfl))) hce hcv hcl ?_
      refine lv_astore (lv' := [(4, .ref q9), (0, .ref (K.2.2.2 0)), (1, .int x1), (2, .int x2), (3, .ref (K.2.2.2 55))]) hx hb dL_setEstimate_13 hl (by decide) rfl (fun ls hl => ?_)
      refine lv_iconst (v := 1) hx hb dL_setEstimate_15 (by decide) ?_
      cases h
      subst hQ
      exact fm_iretW hx hb hr hlk hst hH (Nat.le_of_ble_eq_true rfl) (Nat.le_of_ble_eq_true rfl) dL_setEstimate_16
    · replace h := mi_neg hE h
      by_cases hE : E = "java/lang/IllegalArgumentException"
      · subst hE
        replace h := mi_pos rfl h
        refine vx_catch (own := RL) (name := "java/lang/IllegalArgumentException") hown [⟨0, 10, 13, 21⟩] ⟨0, 10, 17, 13⟩ [] htab (fun z hz => by rcases List.mem_cons.mp hz with rfl | hz; exact Or.inr ⟨by decide, "java/lang/IndexOutOfBoundsException", (hts (.classLink RL 21 "java/lang/IndexOutOfBoundsException") (List.mem_of_getElem? (i := 1) rfl)), hst.2.2.2.2.2.2.1 _ (List.mem_of_getElem? (i := 1) rfl)⟩; exact nomatch hz) (by decide) (by decide) (hts (.classLink RL 13 "java/lang/IllegalArgumentException") (List.mem_of_getElem? (i := 2) rfl)) (va_Nw.use rfl (hst.2.2.2.2.2.1 _ (List.mem_of_getElem? (i := 1) rfl))) hce hcv hcl ?_
        refine lv_astore (lv' := [(4, .ref q9), (0, .ref (K.2.2.2 0)), (1, .int x1), (2, .int x2), (3, .ref (K.2.2.2 55))]) hx hb dL_setEstimate_17 hl (by decide) rfl (fun ls hl => ?_)
        refine lv_iconst (v := 2) hx hb dL_setEstimate_19 (by decide) ?_
        cases h
        subst hQ
        exact fm_iretW hx hb hr hlk hst hH (Nat.le_of_ble_eq_true rfl) (Nat.le_of_ble_eq_true rfl) dL_setEstimate_20
      · replace h := mi_neg hE h
        cases h
  · replace h := hok _ _ hx1
    clear hok her
    refine W.widen (k := 2) (n := 12) (Nat.le_of_ble_eq_true rfl) (Nat.le_of_ble_eq_true rfl) ?_
    refine lv_i2l (v := r5.toInt64) hx hb dL_setEstimate_8 rfl ?_
    obtain ⟨hi1, h⟩ := mi_chk h
    refine fm_lst hx hb hst.1 hH 55 (by decide) rfl rfl hi1 dL_setEstimate_9 (fun H locs hH => ?_)
    refine lv_goto (tgt := 21) hx hb dL_setEstimate_10 (by decide) ?_
    refine lv_iconst (v := 0) hx hb dL_setEstimate_21 (by decide) ?_
    cases h
    subst hQ
    exact fm_iretW hx hb hr hlk hst hH (Nat.le_of_ble_eq_true rfl) (Nat.le_of_ble_eq_true rfl) dL_setEstimate_22
/-! RL.estimate(LFormationist;I[J)I -/
abbrev rmL_estimate : Room := { frames := 8, cells := 1, slots := 6, locals := 124 }
def mL_estimate (x1 : Int32) (σ : fm_S) : Option (Int32 × fm_S) :=
  mh2 (mX4_estimate x1 σ) (fun r4 σ4 =>
    if ((0 : Int32) < 0 ∨ 1 ≤ (0 : Int32).toNatClampNeg) then none else
    some ((0 : Int32), (sL σ4 55 (0 : Int32) (r4.toInt64)))) (fun E σx4 =>
    if E = "java/lang/IndexOutOfBoundsException" then
      some ((1 : Int32), σx4)
    else
      none)
set_option maxHeartbeats 4000000 in
set_option maxRecDepth 100000 in
theorem kL_estimate (l : Launch) (K : fm_K) (hfl : l.stackTraces = false) {x1 : Int32} {σ : fm_S} {r : Int32} {σ' : fm_S} (h : mL_estimate x1 σ = some (r, σ')) : fm_WI l yL_estimate wsL_estimate rmL_estimate K [.ref (K.2.2.2 0), .int x1, .ref (K.2.2.2 55)] σ r σ' 1 := by
  intro sz
  refine fm_startW (hh := [(0, 9, 12, 21)]) (Qc := fun sz => fm_QI K r σ' sz) (cc := cL_estimate) (maxL := 4) (ret := (some .int)) (by decide) rfl (Nat.le_of_ble_eq_true rfl) ?_
  intro p e s m args below meth c C hr hlk htab hst hH ls hl
  have C : CallFix p m c cL_estimate 4 s args wsL_estimate RL := C
  obtain ⟨hx, hb, hml, hown, hts⟩ := id C
  have hA : ∀ q, fm_A K s.heap.size q → fm_A K s.heap.size q := fun _ h => h
  have hl : lv_has ls 4 [(0, .ref (K.2.2.2 0)), (1, .int x1), (2, .ref (K.2.2.2 55))] := hl
  generalize hQ : MQ below _ args s _ _ _ = Q
  rw [mL_estimate] at h
  refine lv_aload_n hx hb dL_estimate_0 rfl (lv_at hl 2 rfl) ?_
  refine lv_iconst (v := 0) hx hb dL_estimate_1 (by decide) ?_
  refine lv_aload_n hx hb dL_estimate_2 rfl (lv_at hl 0 rfl) ?_
  refine lv_iload_n hx hb dL_estimate_3 rfl (lv_at hl 1 rfl) ?_
  obtain ⟨x4_, h4, hok, her⟩ := mi_h2 h
  refine fm_cxi (vx_runV (As := [.int x1]) (rest := [.int (0 : Int32), .ref (K.2.2.2 55)]) C (kX4_estimate l K hfl h4 _) (cwV 1 hts gL_estimate_X4_estimate rfl rfl rfl (by decide +kernel) ⟨(Nat.le_of_ble_eq_true rfl), (Nat.le_of_ble_eq_true rfl)⟩) ⟨fm_blind, fm_recv hst hH (q := 0) (by decide) rfl (fm_ob_0 _ _) rfl, fm_pre hst hA hH⟩ rfl rfl hl.1 rfl (lv_room (Nat.le_of_ble_eq_true rfl)) dL_estimate_4 ⟨(Nat.le_of_ble_eq_true rfl), (Nat.le_of_ble_eq_true rfl)⟩) hA hH (fun E σx4 ce q9 H locs hx1 hH hce hcv hcl => ?_) (fun r4 σ4 H locs hx1 hH => ?_)
  · replace h := her _ _ hx1
    clear hok her
    refine vx_widen (k := 1) (n := 6) (Nat.le_of_ble_eq_true rfl) (Nat.le_of_ble_eq_true rfl) ?_
    by_cases hE : E = "java/lang/IndexOutOfBoundsException"
    · subst hE
      replace h := mi_pos rfl h
      refine vx_catch (own := RL) (name := "java/lang/IndexOutOfBoundsException") hown [] ⟨0, 9, 12, 21⟩ [] htab (fun z hz => nomatch hz) (by decide) (by decide) (hts (.classLink RL 21 "java/lang/IndexOutOfBoundsException") (List.mem_of_getElem? (i := 1) rfl)) (va_Nw.use rfl (hst.2.2.2.2.2.1 _ (List.mem_of_getElem? (i := 0) rfl))) hce hcv hcl ?_
      refine lv_astore_n (lv' := [(3, .ref q9), (0, .ref (K.2.2.2 0)), (1, .int x1), (2, .ref (K.2.2.2 55))]) hx hb dL_estimate_12 rfl hl (by decide) rfl (fun ls hl => ?_)
      refine lv_iconst (v := 1) hx hb dL_estimate_13 (by decide) ?_
      cases h
      subst hQ
      exact fm_iretW hx hb hr hlk hst hH (Nat.le_of_ble_eq_true rfl) (Nat.le_of_ble_eq_true rfl) dL_estimate_14
    · replace h := mi_neg hE h
      cases h
  · replace h := hok _ _ hx1
    clear hok her
    refine W.widen (k := 1) (n := 6) (Nat.le_of_ble_eq_true rfl) (Nat.le_of_ble_eq_true rfl) ?_
    refine lv_i2l (v := r4.toInt64) hx hb dL_estimate_7 rfl ?_
    obtain ⟨hi1, h⟩ := mi_chk h
    refine fm_lst hx hb hst.1 hH 55 (by decide) rfl rfl hi1 dL_estimate_8 (fun H locs hH => ?_)
    refine lv_goto (tgt := 15) hx hb dL_estimate_9 (by decide) ?_
    refine lv_iconst (v := 0) hx hb dL_estimate_15 (by decide) ?_
    cases h
    subst hQ
    exact fm_iretW hx hb hr hlk hst hH (Nat.le_of_ble_eq_true rfl) (Nat.le_of_ble_eq_true rfl) dL_estimate_16
/-! RL.agree(LFormationist;I[J)I -/
abbrev rmL_agree : Room := { frames := 9, cells := 1, slots := 6, locals := 146 }
def mL_agree (x1 : Int32) (σ : fm_S) : Option (Int32 × fm_S) :=
  mh2 (mX4_agree x1 σ) (fun r4 σ4 =>
    if ((0 : Int32) < 0 ∨ 1 ≤ (0 : Int32).toNatClampNeg) then none else
    some ((0 : Int32), (sL σ4 55 (0 : Int32) (r4.toInt64)))) (fun E σx4 =>
    if E = "java/lang/IllegalArgumentException" then
      some ((1 : Int32), σx4)
    else
      none)
set_option maxHeartbeats 4000000 in
set_option maxRecDepth 100000 in
theorem kL_agree (l : Launch) (K : fm_K) (hfl : l.stackTraces = false) {x1 : Int32} {σ : fm_S} {r : Int32} {σ' : fm_S} (h : mL_agree x1 σ = some (r, σ')) : fm_WI l yL_agree wsL_agree rmL_agree K [.ref (K.2.2.2 0), .int x1, .ref (K.2.2.2 55)] σ r σ' 1 := by
  intro sz
  refine fm_startW (hh := [(0, 9, 12, 13)]) (Qc := fun sz => fm_QI K r σ' sz) (cc := cL_agree) (maxL := 4) (ret := (some .int)) (by decide) rfl (Nat.le_of_ble_eq_true rfl) ?_
  intro p e s m args below meth c C hr hlk htab hst hH ls hl
  have C : CallFix p m c cL_agree 4 s args wsL_agree RL := C
  obtain ⟨hx, hb, hml, hown, hts⟩ := id C
  have hA : ∀ q, fm_A K s.heap.size q → fm_A K s.heap.size q := fun _ h => h
  have hl : lv_has ls 4 [(0, .ref (K.2.2.2 0)), (1, .int x1), (2, .ref (K.2.2.2 55))] := hl
  generalize hQ : MQ below _ args s _ _ _ = Q
  rw [mL_agree] at h
  refine lv_aload_n hx hb dL_agree_0 rfl (lv_at hl 2 rfl) ?_
  refine lv_iconst (v := 0) hx hb dL_agree_1 (by decide) ?_
  refine lv_aload_n hx hb dL_agree_2 rfl (lv_at hl 0 rfl) ?_
  refine lv_iload_n hx hb dL_agree_3 rfl (lv_at hl 1 rfl) ?_
  obtain ⟨x4_, h4, hok, her⟩ := mi_h2 h
  refine fm_cxi (vx_runV (As := [.int x1]) (rest := [.int (0 : Int32), .ref (K.2.2.2 55)]) C (kX4_agree l K hfl h4 _) (cwV 1 hts gL_agree_X4_agree rfl rfl rfl (by decide +kernel) ⟨(Nat.le_of_ble_eq_true rfl), (Nat.le_of_ble_eq_true rfl)⟩) ⟨fm_blind, fm_recv hst hH (q := 0) (by decide) rfl (fm_ob_0 _ _) rfl, fm_pre hst hA hH⟩ rfl rfl hl.1 rfl (lv_room (Nat.le_of_ble_eq_true rfl)) dL_agree_4 ⟨(Nat.le_of_ble_eq_true rfl), (Nat.le_of_ble_eq_true rfl)⟩) hA hH (fun E σx4 ce q9 H locs hx1 hH hce hcv hcl => ?_) (fun r4 σ4 H locs hx1 hH => ?_)
  · replace h := her _ _ hx1
    clear hok her
    refine vx_widen (k := 1) (n := 6) (Nat.le_of_ble_eq_true rfl) (Nat.le_of_ble_eq_true rfl) ?_
    by_cases hE : E = "java/lang/IllegalArgumentException"
    · subst hE
      replace h := mi_pos rfl h
      refine vx_catch (own := RL) (name := "java/lang/IllegalArgumentException") hown [] ⟨0, 9, 12, 13⟩ [] htab (fun z hz => nomatch hz) (by decide) (by decide) (hts (.classLink RL 13 "java/lang/IllegalArgumentException") (List.mem_of_getElem? (i := 1) rfl)) (va_Nw.use rfl (hst.2.2.2.2.2.1 _ (List.mem_of_getElem? (i := 1) rfl))) hce hcv hcl ?_
      refine lv_astore_n (lv' := [(3, .ref q9), (0, .ref (K.2.2.2 0)), (1, .int x1), (2, .ref (K.2.2.2 55))]) hx hb dL_agree_12 rfl hl (by decide) rfl (fun ls hl => ?_)
      refine lv_iconst (v := 1) hx hb dL_agree_13 (by decide) ?_
      cases h
      subst hQ
      exact fm_iretW hx hb hr hlk hst hH (Nat.le_of_ble_eq_true rfl) (Nat.le_of_ble_eq_true rfl) dL_agree_14
    · replace h := mi_neg hE h
      cases h
  · replace h := hok _ _ hx1
    clear hok her
    refine W.widen (k := 1) (n := 6) (Nat.le_of_ble_eq_true rfl) (Nat.le_of_ble_eq_true rfl) ?_
    refine lv_i2l (v := r4.toInt64) hx hb dL_agree_7 rfl ?_
    obtain ⟨hi1, h⟩ := mi_chk h
    refine fm_lst hx hb hst.1 hH 55 (by decide) rfl rfl hi1 dL_agree_8 (fun H locs hH => ?_)
    refine lv_goto (tgt := 15) hx hb dL_agree_9 (by decide) ?_
    refine lv_iconst (v := 0) hx hb dL_agree_15 (by decide) ?_
    cases h
    subst hQ
    exact fm_iretW hx hb hr hlk hst hH (Nat.le_of_ble_eq_true rfl) (Nat.le_of_ble_eq_true rfl) dL_agree_16
/-! RL.setSum(LFormationist;II[J)I -/
abbrev rmL_setSum : Room := { frames := 9, cells := 2, slots := 12, locals := 147 }
def mL_setSum (x1 : Int32) (x2 : Int32) (σ : fm_S) : Option (Int32 × fm_S) :=
  mh2 (mX4_setSum x1 x2 σ) (fun r5 σ5 =>
    if ((0 : Int32) < 0 ∨ 1 ≤ (0 : Int32).toNatClampNeg) then none else
    some ((0 : Int32), (sL σ5 55 (0 : Int32) (r5.toInt64)))) (fun E σx5 =>
    if E = "java/lang/IndexOutOfBoundsException" then
      some ((1 : Int32), σx5)
    else
      if E = "java/lang/IllegalArgumentException" then
        some ((2 : Int32), σx5)
      else
        none)
set_option maxHeartbeats 4000000 in
set_option maxRecDepth 100000 in
theorem kL_setSum (l : Launch) (K : fm_K) (hfl : l.stackTraces = false) {x1 : Int32} {x2 : Int32} {σ : fm_S} {r : Int32} {σ' : fm_S} (h : mL_setSum x1 x2 σ = some (r, σ')) : fm_WI l yL_setSum wsL_setSum rmL_setSum K [.ref (K.2.2.2 0), .int x1, .int x2, .ref (K.2.2.2 55)] σ r σ' 2 := by
  intro sz
  refine fm_startW (hh := [(0, 10, 13, 21), (0, 10, 17, 13)]) (Qc := fun sz => fm_QI K r σ' sz) (cc := cL_setSum) (maxL := 5) (ret := (some .int)) (by decide) rfl (Nat.le_of_ble_eq_true rfl) ?_
  intro p e s m args below meth c C hr hlk htab hst hH ls hl
  have C : CallFix p m c cL_setSum 5 s args wsL_setSum RL := C
  obtain ⟨hx, hb, hml, hown, hts⟩ := id C
  have hA : ∀ q, fm_A K s.heap.size q → fm_A K s.heap.size q := fun _ h => h
  have hl : lv_has ls 5 [(0, .ref (K.2.2.2 0)), (1, .int x1), (2, .int x2), (3, .ref (K.2.2.2 55))] := hl
  generalize hQ : MQ below _ args s _ _ _ = Q
  rw [mL_setSum] at h
  refine lv_aload_n hx hb dL_setSum_0 rfl (lv_at hl 3 rfl) ?_
  refine lv_iconst (v := 0) hx hb dL_setSum_1 (by decide) ?_
  refine lv_aload_n hx hb dL_setSum_2 rfl (lv_at hl 0 rfl) ?_
  refine lv_iload_n hx hb dL_setSum_3 rfl (lv_at hl 1 rfl) ?_
  refine lv_iload_n hx hb dL_setSum_4 rfl (lv_at hl 2 rfl) ?_
  obtain ⟨x5_, h5, hok, her⟩ := mi_h2 h
  refine fm_cxi (vx_runV (As := [.int x1, .int x2]) (rest := [.int (0 : Int32), .ref (K.2.2.2 55)]) C (kX4_setSum l K hfl h5 _) (cwV 2 hts gL_setSum_X4_setSum rfl rfl rfl (by decide +kernel) ⟨(Nat.le_of_ble_eq_true rfl), (Nat.le_of_ble_eq_true rfl)⟩) ⟨fm_blind, fm_recv hst hH (q := 0) (by decide) rfl (fm_ob_0 _ _) rfl, fm_pre hst hA hH⟩ rfl rfl hl.1 rfl (lv_room (Nat.le_of_ble_eq_true rfl)) dL_setSum_5 ⟨(Nat.le_of_ble_eq_true rfl), (Nat.le_of_ble_eq_true rfl)⟩) hA hH (fun E σx5 ce q9 H locs hx1 hH hce hcv hcl => ?_) (fun r5 σ5 H locs hx1 hH => ?_)
  · replace h := her _ _ hx1
    clear hok her
    refine vx_widen (k := 2) (n := 12) (Nat.le_of_ble_eq_true rfl) (Nat.le_of_ble_eq_true rfl) ?_
    by_cases hE : E = "java/lang/IndexOutOfBoundsException"
    · subst hE
      replace h := mi_pos rfl h
      refine vx_catch (own := RL) (name := "java/lang/IndexOutOfBoundsException") hown [] ⟨0, 10, 13, 21⟩ [⟨0, 10, 17, 13⟩] htab (fun z hz => nomatch hz) (by decide) (by decide) (hts (.classLink RL 21 "java/lang/IndexOutOfBoundsException") (List.mem_of_getElem? (i := 1) rfl)) (va_Nw.use rfl (hst.2.2.2.2.2.1 _ (List.mem_of_getElem? (i := 0) rfl))) hce hcv hcl ?_
      refine lv_astore (lv' := [(4, .ref q9), (0, .ref (K.2.2.2 0)), (1, .int x1), (2, .int x2), (3, .ref (K.2.2.2 55))]) hx hb dL_setSum_13 hl (by decide) rfl (fun ls hl => ?_)
      refine lv_iconst (v := 1) hx hb dL_setSum_15 (by decide) ?_
      cases h
      subst hQ
      exact fm_iretW hx hb hr hlk hst hH (Nat.le_of_ble_eq_true rfl) (Nat.le_of_ble_eq_true rfl) dL_setSum_16
    · replace h := mi_neg hE h
      by_cases hE : E = "java/lang/IllegalArgumentException"
      · subst hE
        replace h := mi_pos rfl h
        refine vx_catch (own := RL) (name := "java/lang/IllegalArgumentException") hown [⟨0, 10, 13, 21⟩] ⟨0, 10, 17, 13⟩ [] htab (fun z hz => by rcases List.mem_cons.mp hz with rfl | hz; exact Or.inr ⟨by decide, "java/lang/IndexOutOfBoundsException", (hts (.classLink RL 21 "java/lang/IndexOutOfBoundsException") (List.mem_of_getElem? (i := 1) rfl)), hst.2.2.2.2.2.2.1 _ (List.mem_of_getElem? (i := 1) rfl)⟩; exact nomatch hz) (by decide) (by decide) (hts (.classLink RL 13 "java/lang/IllegalArgumentException") (List.mem_of_getElem? (i := 2) rfl)) (va_Nw.use rfl (hst.2.2.2.2.2.1 _ (List.mem_of_getElem? (i := 1) rfl))) hce hcv hcl ?_
        refine lv_astore (lv' := [(4, .ref q9), (0, .ref (K.2.2.2 0)), (1, .int x1), (2, .int x2), (3, .ref (K.2.2.2 55))]) hx hb dL_setSum_17 hl (by decide) rfl (fun ls hl => ?_)
        refine lv_iconst (v := 2) hx hb dL_setSum_19 (by decide) ?_
        cases h
        subst hQ
        exact fm_iretW hx hb hr hlk hst hH (Nat.le_of_ble_eq_true rfl) (Nat.le_of_ble_eq_true rfl) dL_setSum_20
      · replace h := mi_neg hE h
        cases h
  · replace h := hok _ _ hx1
    clear hok her
    refine W.widen (k := 2) (n := 12) (Nat.le_of_ble_eq_true rfl) (Nat.le_of_ble_eq_true rfl) ?_
    refine lv_i2l (v := r5.toInt64) hx hb dL_setSum_8 rfl ?_
    obtain ⟨hi1, h⟩ := mi_chk h
    refine fm_lst hx hb hst.1 hH 55 (by decide) rfl rfl hi1 dL_setSum_9 (fun H locs hH => ?_)
    refine lv_goto (tgt := 21) hx hb dL_setSum_10 (by decide) ?_
    refine lv_iconst (v := 0) hx hb dL_setSum_21 (by decide) ?_
    cases h
    subst hQ
    exact fm_iretW hx hb hr hlk hst hH (Nat.le_of_ble_eq_true rfl) (Nat.le_of_ble_eq_true rfl) dL_setSum_22
/-! RL.sum(LFormationist;I[J)I -/
abbrev rmL_sum : Room := { frames := 8, cells := 1, slots := 6, locals := 124 }
def mL_sum (x1 : Int32) (σ : fm_S) : Option (Int32 × fm_S) :=
  mh2 (mX4_sum x1 σ) (fun r4 σ4 =>
    if ((0 : Int32) < 0 ∨ 1 ≤ (0 : Int32).toNatClampNeg) then none else
    some ((0 : Int32), (sL σ4 55 (0 : Int32) (r4.toInt64)))) (fun E σx4 =>
    if E = "java/lang/IndexOutOfBoundsException" then
      some ((1 : Int32), σx4)
    else
      none)
set_option maxHeartbeats 4000000 in
set_option maxRecDepth 100000 in
theorem kL_sum (l : Launch) (K : fm_K) (hfl : l.stackTraces = false) {x1 : Int32} {σ : fm_S} {r : Int32} {σ' : fm_S} (h : mL_sum x1 σ = some (r, σ')) : fm_WI l yL_sum wsL_sum rmL_sum K [.ref (K.2.2.2 0), .int x1, .ref (K.2.2.2 55)] σ r σ' 1 := by
  intro sz
  refine fm_startW (hh := [(0, 9, 12, 21)]) (Qc := fun sz => fm_QI K r σ' sz) (cc := cL_sum) (maxL := 4) (ret := (some .int)) (by decide) rfl (Nat.le_of_ble_eq_true rfl) ?_
  intro p e s m args below meth c C hr hlk htab hst hH ls hl
  have C : CallFix p m c cL_sum 4 s args wsL_sum RL := C
  obtain ⟨hx, hb, hml, hown, hts⟩ := id C
  have hA : ∀ q, fm_A K s.heap.size q → fm_A K s.heap.size q := fun _ h => h
  have hl : lv_has ls 4 [(0, .ref (K.2.2.2 0)), (1, .int x1), (2, .ref (K.2.2.2 55))] := hl
  generalize hQ : MQ below _ args s _ _ _ = Q
  rw [mL_sum] at h
  refine lv_aload_n hx hb dL_sum_0 rfl (lv_at hl 2 rfl) ?_
  refine lv_iconst (v := 0) hx hb dL_sum_1 (by decide) ?_
  refine lv_aload_n hx hb dL_sum_2 rfl (lv_at hl 0 rfl) ?_
  refine lv_iload_n hx hb dL_sum_3 rfl (lv_at hl 1 rfl) ?_
  obtain ⟨x4_, h4, hok, her⟩ := mi_h2 h
  refine fm_cxi (vx_runV (As := [.int x1]) (rest := [.int (0 : Int32), .ref (K.2.2.2 55)]) C (kX4_sum l K hfl h4 _) (cwV 1 hts gL_sum_X4_sum rfl rfl rfl (by decide +kernel) ⟨(Nat.le_of_ble_eq_true rfl), (Nat.le_of_ble_eq_true rfl)⟩) ⟨fm_blind, fm_recv hst hH (q := 0) (by decide) rfl (fm_ob_0 _ _) rfl, fm_pre hst hA hH⟩ rfl rfl hl.1 rfl (lv_room (Nat.le_of_ble_eq_true rfl)) dL_sum_4 ⟨(Nat.le_of_ble_eq_true rfl), (Nat.le_of_ble_eq_true rfl)⟩) hA hH (fun E σx4 ce q9 H locs hx1 hH hce hcv hcl => ?_) (fun r4 σ4 H locs hx1 hH => ?_)
  · replace h := her _ _ hx1
    clear hok her
    refine vx_widen (k := 1) (n := 6) (Nat.le_of_ble_eq_true rfl) (Nat.le_of_ble_eq_true rfl) ?_
    by_cases hE : E = "java/lang/IndexOutOfBoundsException"
    · subst hE
      replace h := mi_pos rfl h
      refine vx_catch (own := RL) (name := "java/lang/IndexOutOfBoundsException") hown [] ⟨0, 9, 12, 21⟩ [] htab (fun z hz => nomatch hz) (by decide) (by decide) (hts (.classLink RL 21 "java/lang/IndexOutOfBoundsException") (List.mem_of_getElem? (i := 1) rfl)) (va_Nw.use rfl (hst.2.2.2.2.2.1 _ (List.mem_of_getElem? (i := 0) rfl))) hce hcv hcl ?_
      refine lv_astore_n (lv' := [(3, .ref q9), (0, .ref (K.2.2.2 0)), (1, .int x1), (2, .ref (K.2.2.2 55))]) hx hb dL_sum_12 rfl hl (by decide) rfl (fun ls hl => ?_)
      refine lv_iconst (v := 1) hx hb dL_sum_13 (by decide) ?_
      cases h
      subst hQ
      exact fm_iretW hx hb hr hlk hst hH (Nat.le_of_ble_eq_true rfl) (Nat.le_of_ble_eq_true rfl) dL_sum_14
    · replace h := mi_neg hE h
      cases h
  · replace h := hok _ _ hx1
    clear hok her
    refine W.widen (k := 1) (n := 6) (Nat.le_of_ble_eq_true rfl) (Nat.le_of_ble_eq_true rfl) ?_
    refine lv_i2l (v := r4.toInt64) hx hb dL_sum_7 rfl ?_
    obtain ⟨hi1, h⟩ := mi_chk h
    refine fm_lst hx hb hst.1 hH 55 (by decide) rfl rfl hi1 dL_sum_8 (fun H locs hH => ?_)
    refine lv_goto (tgt := 15) hx hb dL_sum_9 (by decide) ?_
    refine lv_iconst (v := 0) hx hb dL_sum_15 (by decide) ?_
    cases h
    subst hQ
    exact fm_iretW hx hb hr hlk hst hH (Nat.le_of_ble_eq_true rfl) (Nat.le_of_ble_eq_true rfl) dL_sum_16
/-! RL.weight(LFormationist;I[J)I -/
abbrev rmL_weight : Room := { frames := 8, cells := 1, slots := 6, locals := 124 }
def mL_weight (x1 : Int32) (σ : fm_S) : Option (Int32 × fm_S) :=
  mh2 (mX4_weight x1 σ) (fun r4 σ4 =>
    if ((0 : Int32) < 0 ∨ 1 ≤ (0 : Int32).toNatClampNeg) then none else
    some ((0 : Int32), (sL σ4 55 (0 : Int32) (r4.toInt64)))) (fun E σx4 =>
    if E = "java/lang/IndexOutOfBoundsException" then
      some ((1 : Int32), σx4)
    else
      none)
set_option maxHeartbeats 4000000 in
set_option maxRecDepth 100000 in
theorem kL_weight (l : Launch) (K : fm_K) (hfl : l.stackTraces = false) {x1 : Int32} {σ : fm_S} {r : Int32} {σ' : fm_S} (h : mL_weight x1 σ = some (r, σ')) : fm_WI l yL_weight wsL_weight rmL_weight K [.ref (K.2.2.2 0), .int x1, .ref (K.2.2.2 55)] σ r σ' 1 := by
  intro sz
  refine fm_startW (hh := [(0, 9, 12, 21)]) (Qc := fun sz => fm_QI K r σ' sz) (cc := cL_weight) (maxL := 4) (ret := (some .int)) (by decide) rfl (Nat.le_of_ble_eq_true rfl) ?_
  intro p e s m args below meth c C hr hlk htab hst hH ls hl
  have C : CallFix p m c cL_weight 4 s args wsL_weight RL := C
  obtain ⟨hx, hb, hml, hown, hts⟩ := id C
  have hA : ∀ q, fm_A K s.heap.size q → fm_A K s.heap.size q := fun _ h => h
  have hl : lv_has ls 4 [(0, .ref (K.2.2.2 0)), (1, .int x1), (2, .ref (K.2.2.2 55))] := hl
  generalize hQ : MQ below _ args s _ _ _ = Q
  rw [mL_weight] at h
  refine lv_aload_n hx hb dL_weight_0 rfl (lv_at hl 2 rfl) ?_
  refine lv_iconst (v := 0) hx hb dL_weight_1 (by decide) ?_
  refine lv_aload_n hx hb dL_weight_2 rfl (lv_at hl 0 rfl) ?_
  refine lv_iload_n hx hb dL_weight_3 rfl (lv_at hl 1 rfl) ?_
  obtain ⟨x4_, h4, hok, her⟩ := mi_h2 h
  refine fm_cxi (vx_runV (As := [.int x1]) (rest := [.int (0 : Int32), .ref (K.2.2.2 55)]) C (kX4_weight l K hfl h4 _) (cwV 1 hts gL_weight_X4_weight rfl rfl rfl (by decide +kernel) ⟨(Nat.le_of_ble_eq_true rfl), (Nat.le_of_ble_eq_true rfl)⟩) ⟨fm_blind, fm_recv hst hH (q := 0) (by decide) rfl (fm_ob_0 _ _) rfl, fm_pre hst hA hH⟩ rfl rfl hl.1 rfl (lv_room (Nat.le_of_ble_eq_true rfl)) dL_weight_4 ⟨(Nat.le_of_ble_eq_true rfl), (Nat.le_of_ble_eq_true rfl)⟩) hA hH (fun E σx4 ce q9 H locs hx1 hH hce hcv hcl => ?_) (fun r4 σ4 H locs hx1 hH => ?_)
  · replace h := her _ _ hx1
    clear hok her
    refine vx_widen (k := 1) (n := 6) (Nat.le_of_ble_eq_true rfl) (Nat.le_of_ble_eq_true rfl) ?_
    by_cases hE : E = "java/lang/IndexOutOfBoundsException"
    · subst hE
      replace h := mi_pos rfl h
      refine vx_catch (own := RL) (name := "java/lang/IndexOutOfBoundsException") hown [] ⟨0, 9, 12, 21⟩ [] htab (fun z hz => nomatch hz) (by decide) (by decide) (hts (.classLink RL 21 "java/lang/IndexOutOfBoundsException") (List.mem_of_getElem? (i := 1) rfl)) (va_Nw.use rfl (hst.2.2.2.2.2.1 _ (List.mem_of_getElem? (i := 0) rfl))) hce hcv hcl ?_
      refine lv_astore_n (lv' := [(3, .ref q9), (0, .ref (K.2.2.2 0)), (1, .int x1), (2, .ref (K.2.2.2 55))]) hx hb dL_weight_12 rfl hl (by decide) rfl (fun ls hl => ?_)
      refine lv_iconst (v := 1) hx hb dL_weight_13 (by decide) ?_
      cases h
      subst hQ
      exact fm_iretW hx hb hr hlk hst hH (Nat.le_of_ble_eq_true rfl) (Nat.le_of_ble_eq_true rfl) dL_weight_14
    · replace h := mi_neg hE h
      cases h
  · replace h := hok _ _ hx1
    clear hok her
    refine W.widen (k := 1) (n := 6) (Nat.le_of_ble_eq_true rfl) (Nat.le_of_ble_eq_true rfl) ?_
    refine lv_i2l (v := r4.toInt64) hx hb dL_weight_7 rfl ?_
    obtain ⟨hi1, h⟩ := mi_chk h
    refine fm_lst hx hb hst.1 hH 55 (by decide) rfl rfl hi1 dL_weight_8 (fun H locs hH => ?_)
    refine lv_goto (tgt := 15) hx hb dL_weight_9 (by decide) ?_
    refine lv_iconst (v := 0) hx hb dL_weight_15 (by decide) ?_
    cases h
    subst hQ
    exact fm_iretW hx hb hr hlk hst hH (Nat.le_of_ble_eq_true rfl) (Nat.le_of_ble_eq_true rfl) dL_weight_16
/-! RL.spread(LFormationist;I[J)I -/
abbrev rmL_spread : Room := { frames := 9, cells := 1, slots := 6, locals := 147 }
def mL_spread (x1 : Int32) (σ : fm_S) : Option (Int32 × fm_S) :=
  mh2 (mX4_spread x1 σ) (fun r4 σ4 =>
    if ((0 : Int32) < 0 ∨ 1 ≤ (0 : Int32).toNatClampNeg) then none else
    some ((0 : Int32), (sL σ4 55 (0 : Int32) (r4.toInt64)))) (fun E σx4 =>
    if E = "java/lang/IllegalArgumentException" then
      some ((1 : Int32), σx4)
    else
      none)
set_option maxHeartbeats 4000000 in
set_option maxRecDepth 100000 in
theorem kL_spread (l : Launch) (K : fm_K) (hfl : l.stackTraces = false) {x1 : Int32} {σ : fm_S} {r : Int32} {σ' : fm_S} (h : mL_spread x1 σ = some (r, σ')) : fm_WI l yL_spread wsL_spread rmL_spread K [.ref (K.2.2.2 0), .int x1, .ref (K.2.2.2 55)] σ r σ' 1 := by
  intro sz
  refine fm_startW (hh := [(0, 9, 12, 13)]) (Qc := fun sz => fm_QI K r σ' sz) (cc := cL_spread) (maxL := 4) (ret := (some .int)) (by decide) rfl (Nat.le_of_ble_eq_true rfl) ?_
  intro p e s m args below meth c C hr hlk htab hst hH ls hl
  have C : CallFix p m c cL_spread 4 s args wsL_spread RL := C
  obtain ⟨hx, hb, hml, hown, hts⟩ := id C
  have hA : ∀ q, fm_A K s.heap.size q → fm_A K s.heap.size q := fun _ h => h
  have hl : lv_has ls 4 [(0, .ref (K.2.2.2 0)), (1, .int x1), (2, .ref (K.2.2.2 55))] := hl
  generalize hQ : MQ below _ args s _ _ _ = Q
  rw [mL_spread] at h
  refine lv_aload_n hx hb dL_spread_0 rfl (lv_at hl 2 rfl) ?_
  refine lv_iconst (v := 0) hx hb dL_spread_1 (by decide) ?_
  refine lv_aload_n hx hb dL_spread_2 rfl (lv_at hl 0 rfl) ?_
  refine lv_iload_n hx hb dL_spread_3 rfl (lv_at hl 1 rfl) ?_
  obtain ⟨x4_, h4, hok, her⟩ := mi_h2 h
  refine fm_cxi (vx_runV (As := [.int x1]) (rest := [.int (0 : Int32), .ref (K.2.2.2 55)]) C (kX4_spread l K hfl h4 _) (cwV 1 hts gL_spread_X4_spread rfl rfl rfl (by decide +kernel) ⟨(Nat.le_of_ble_eq_true rfl), (Nat.le_of_ble_eq_true rfl)⟩) ⟨fm_blind, fm_recv hst hH (q := 0) (by decide) rfl (fm_ob_0 _ _) rfl, fm_pre hst hA hH⟩ rfl rfl hl.1 rfl (lv_room (Nat.le_of_ble_eq_true rfl)) dL_spread_4 ⟨(Nat.le_of_ble_eq_true rfl), (Nat.le_of_ble_eq_true rfl)⟩) hA hH (fun E σx4 ce q9 H locs hx1 hH hce hcv hcl => ?_) (fun r4 σ4 H locs hx1 hH => ?_)
  · replace h := her _ _ hx1
    clear hok her
    refine vx_widen (k := 1) (n := 6) (Nat.le_of_ble_eq_true rfl) (Nat.le_of_ble_eq_true rfl) ?_
    by_cases hE : E = "java/lang/IllegalArgumentException"
    · subst hE
      replace h := mi_pos rfl h
      refine vx_catch (own := RL) (name := "java/lang/IllegalArgumentException") hown [] ⟨0, 9, 12, 13⟩ [] htab (fun z hz => nomatch hz) (by decide) (by decide) (hts (.classLink RL 13 "java/lang/IllegalArgumentException") (List.mem_of_getElem? (i := 1) rfl)) (va_Nw.use rfl (hst.2.2.2.2.2.1 _ (List.mem_of_getElem? (i := 1) rfl))) hce hcv hcl ?_
      refine lv_astore_n (lv' := [(3, .ref q9), (0, .ref (K.2.2.2 0)), (1, .int x1), (2, .ref (K.2.2.2 55))]) hx hb dL_spread_12 rfl hl (by decide) rfl (fun ls hl => ?_)
      refine lv_iconst (v := 1) hx hb dL_spread_13 (by decide) ?_
      cases h
      subst hQ
      exact fm_iretW hx hb hr hlk hst hH (Nat.le_of_ble_eq_true rfl) (Nat.le_of_ble_eq_true rfl) dL_spread_14
    · replace h := mi_neg hE h
      cases h
  · replace h := hok _ _ hx1
    clear hok her
    refine W.widen (k := 1) (n := 6) (Nat.le_of_ble_eq_true rfl) (Nat.le_of_ble_eq_true rfl) ?_
    refine lv_i2l (v := r4.toInt64) hx hb dL_spread_7 rfl ?_
    obtain ⟨hi1, h⟩ := mi_chk h
    refine fm_lst hx hb hst.1 hH 55 (by decide) rfl rfl hi1 dL_spread_8 (fun H locs hH => ?_)
    refine lv_goto (tgt := 15) hx hb dL_spread_9 (by decide) ?_
    refine lv_iconst (v := 0) hx hb dL_spread_15 (by decide) ?_
    cases h
    subst hQ
    exact fm_iretW hx hb hr hlk hst hH (Nat.le_of_ble_eq_true rfl) (Nat.le_of_ble_eq_true rfl) dL_spread_16
/-! RL.want(LFormationist;III[J)I -/
abbrev rmL_want : Room := { frames := 9, cells := 4, slots := 24, locals := 149 }
def mL_want (x1 : Int32) (x2 : Int32) (x3 : Int32) (σ : fm_S) : Option (Int32 × fm_S) :=
  mh2 (mX4_want x1 x2 x3 σ) (fun r7 σ7 =>
    if ((0 : Int32) < 0 ∨ 1 ≤ (0 : Int32).toNatClampNeg) then none else
    some ((0 : Int32), (sL σ7 55 (0 : Int32) (r7.toInt64)))) (fun E σx7 =>
    if E = "java/lang/IndexOutOfBoundsException" then
      some ((1 : Int32), σx7)
    else
      if E = "java/lang/IllegalArgumentException" then
        some ((2 : Int32), σx7)
      else
        none)
set_option maxHeartbeats 4000000 in
set_option maxRecDepth 100000 in
theorem kL_want (l : Launch) (K : fm_K) (hfl : l.stackTraces = false) {x1 : Int32} {x2 : Int32} {x3 : Int32} {σ : fm_S} {r : Int32} {σ' : fm_S} (h : mL_want x1 x2 x3 σ = some (r, σ')) : fm_WI l yL_want wsL_want rmL_want K [.ref (K.2.2.2 0), .int x1, .int x2, .int x3, .ref (K.2.2.2 55)] σ r σ' 4 := by
  intro sz
  refine fm_startW (hh := [(0, 12, 15, 21), (0, 12, 19, 13)]) (Qc := fun sz => fm_QI K r σ' sz) (cc := cL_want) (maxL := 6) (ret := (some .int)) (by decide) rfl (Nat.le_of_ble_eq_true rfl) ?_
  intro p e s m args below meth c C hr hlk htab hst hH ls hl
  have C : CallFix p m c cL_want 6 s args wsL_want RL := C
  obtain ⟨hx, hb, hml, hown, hts⟩ := id C
  have hA : ∀ q, fm_A K s.heap.size q → fm_A K s.heap.size q := fun _ h => h
  have hl : lv_has ls 6 [(0, .ref (K.2.2.2 0)), (1, .int x1), (2, .int x2), (3, .int x3), (4, .ref (K.2.2.2 55))] := hl
  generalize hQ : MQ below _ args s _ _ _ = Q
  rw [mL_want] at h
  refine lv_aload hx hb dL_want_0 (lv_at hl 4 rfl) ?_
  refine lv_iconst (v := 0) hx hb dL_want_2 (by decide) ?_
  refine lv_aload_n hx hb dL_want_3 rfl (lv_at hl 0 rfl) ?_
  refine lv_iload_n hx hb dL_want_4 rfl (lv_at hl 1 rfl) ?_
  refine lv_iload_n hx hb dL_want_5 rfl (lv_at hl 2 rfl) ?_
  refine lv_iload_n hx hb dL_want_6 rfl (lv_at hl 3 rfl) ?_
  obtain ⟨x7_, h7, hok, her⟩ := mi_h2 h
  refine fm_cxi (vx_runV (As := [.int x1, .int x2, .int x3]) (rest := [.int (0 : Int32), .ref (K.2.2.2 55)]) C (kX4_want l K hfl h7 _) (cwV 3 hts gL_want_X4_want rfl rfl rfl (by decide +kernel) ⟨(Nat.le_of_ble_eq_true rfl), (Nat.le_of_ble_eq_true rfl)⟩) ⟨fm_blind, fm_recv hst hH (q := 0) (by decide) rfl (fm_ob_0 _ _) rfl, fm_pre hst hA hH⟩ rfl rfl hl.1 rfl (lv_room (Nat.le_of_ble_eq_true rfl)) dL_want_7 ⟨(Nat.le_of_ble_eq_true rfl), (Nat.le_of_ble_eq_true rfl)⟩) hA hH (fun E σx7 ce q9 H locs hx1 hH hce hcv hcl => ?_) (fun r7 σ7 H locs hx1 hH => ?_)
  · replace h := her _ _ hx1
    clear hok her
    refine vx_widen (k := 4) (n := 24) (Nat.le_of_ble_eq_true rfl) (Nat.le_of_ble_eq_true rfl) ?_
    by_cases hE : E = "java/lang/IndexOutOfBoundsException"
    · subst hE
      replace h := mi_pos rfl h
      refine vx_catch (own := RL) (name := "java/lang/IndexOutOfBoundsException") hown [] ⟨0, 12, 15, 21⟩ [⟨0, 12, 19, 13⟩] htab (fun z hz => nomatch hz) (by decide) (by decide) (hts (.classLink RL 21 "java/lang/IndexOutOfBoundsException") (List.mem_of_getElem? (i := 1) rfl)) (va_Nw.use rfl (hst.2.2.2.2.2.1 _ (List.mem_of_getElem? (i := 0) rfl))) hce hcv hcl ?_
      refine lv_astore (lv' := [(5, .ref q9), (0, .ref (K.2.2.2 0)), (1, .int x1), (2, .int x2), (3, .int x3), (4, .ref (K.2.2.2 55))]) hx hb dL_want_15 hl (by decide) rfl (fun ls hl => ?_)
      refine lv_iconst (v := 1) hx hb dL_want_17 (by decide) ?_
      cases h
      subst hQ
      exact fm_iretW hx hb hr hlk hst hH (Nat.le_of_ble_eq_true rfl) (Nat.le_of_ble_eq_true rfl) dL_want_18
    · replace h := mi_neg hE h
      by_cases hE : E = "java/lang/IllegalArgumentException"
      · subst hE
        replace h := mi_pos rfl h
        refine vx_catch (own := RL) (name := "java/lang/IllegalArgumentException") hown [⟨0, 12, 15, 21⟩] ⟨0, 12, 19, 13⟩ [] htab (fun z hz => by rcases List.mem_cons.mp hz with rfl | hz; exact Or.inr ⟨by decide, "java/lang/IndexOutOfBoundsException", (hts (.classLink RL 21 "java/lang/IndexOutOfBoundsException") (List.mem_of_getElem? (i := 1) rfl)), hst.2.2.2.2.2.2.1 _ (List.mem_of_getElem? (i := 1) rfl)⟩; exact nomatch hz) (by decide) (by decide) (hts (.classLink RL 13 "java/lang/IllegalArgumentException") (List.mem_of_getElem? (i := 2) rfl)) (va_Nw.use rfl (hst.2.2.2.2.2.1 _ (List.mem_of_getElem? (i := 1) rfl))) hce hcv hcl ?_
        refine lv_astore (lv' := [(5, .ref q9), (0, .ref (K.2.2.2 0)), (1, .int x1), (2, .int x2), (3, .int x3), (4, .ref (K.2.2.2 55))]) hx hb dL_want_19 hl (by decide) rfl (fun ls hl => ?_)
        refine lv_iconst (v := 2) hx hb dL_want_21 (by decide) ?_
        cases h
        subst hQ
        exact fm_iretW hx hb hr hlk hst hH (Nat.le_of_ble_eq_true rfl) (Nat.le_of_ble_eq_true rfl) dL_want_22
      · replace h := mi_neg hE h
        cases h
  · replace h := hok _ _ hx1
    clear hok her
    refine W.widen (k := 4) (n := 24) (Nat.le_of_ble_eq_true rfl) (Nat.le_of_ble_eq_true rfl) ?_
    refine lv_i2l (v := r7.toInt64) hx hb dL_want_10 rfl ?_
    obtain ⟨hi1, h⟩ := mi_chk h
    refine fm_lst hx hb hst.1 hH 55 (by decide) rfl rfl hi1 dL_want_11 (fun H locs hH => ?_)
    refine lv_goto (tgt := 23) hx hb dL_want_12 (by decide) ?_
    refine lv_iconst (v := 0) hx hb dL_want_23 (by decide) ?_
    cases h
    subst hQ
    exact fm_iretW hx hb hr hlk hst hH (Nat.le_of_ble_eq_true rfl) (Nat.le_of_ble_eq_true rfl) dL_want_24
/-! RL.settle(LFormationist;I[J)I -/
abbrev rmL_settle : Room := { frames := 9, cells := 1, slots := 6, locals := 146 }
def mL_settle (x1 : Int32) (σ : fm_S) : Option (Int32 × fm_S) :=
  mh2 (mX4_settle x1 σ) (fun r4 σ4 =>
    if ((0 : Int32) < 0 ∨ 1 ≤ (0 : Int32).toNatClampNeg) then none else
    some ((0 : Int32), (sL σ4 55 (0 : Int32) (r4.toInt64)))) (fun E σx4 =>
    if E = "java/lang/IllegalArgumentException" then
      some ((1 : Int32), σx4)
    else
      none)
set_option maxHeartbeats 4000000 in
set_option maxRecDepth 100000 in
theorem kL_settle (l : Launch) (K : fm_K) (hfl : l.stackTraces = false) {x1 : Int32} {σ : fm_S} {r : Int32} {σ' : fm_S} (h : mL_settle x1 σ = some (r, σ')) : fm_WI l yL_settle wsL_settle rmL_settle K [.ref (K.2.2.2 0), .int x1, .ref (K.2.2.2 55)] σ r σ' 1 := by
  intro sz
  refine fm_startW (hh := [(0, 9, 12, 13)]) (Qc := fun sz => fm_QI K r σ' sz) (cc := cL_settle) (maxL := 4) (ret := (some .int)) (by decide) rfl (Nat.le_of_ble_eq_true rfl) ?_
  intro p e s m args below meth c C hr hlk htab hst hH ls hl
  have C : CallFix p m c cL_settle 4 s args wsL_settle RL := C
  obtain ⟨hx, hb, hml, hown, hts⟩ := id C
  have hA : ∀ q, fm_A K s.heap.size q → fm_A K s.heap.size q := fun _ h => h
  have hl : lv_has ls 4 [(0, .ref (K.2.2.2 0)), (1, .int x1), (2, .ref (K.2.2.2 55))] := hl
  generalize hQ : MQ below _ args s _ _ _ = Q
  rw [mL_settle] at h
  refine lv_aload_n hx hb dL_settle_0 rfl (lv_at hl 2 rfl) ?_
  refine lv_iconst (v := 0) hx hb dL_settle_1 (by decide) ?_
  refine lv_aload_n hx hb dL_settle_2 rfl (lv_at hl 0 rfl) ?_
  refine lv_iload_n hx hb dL_settle_3 rfl (lv_at hl 1 rfl) ?_
  obtain ⟨x4_, h4, hok, her⟩ := mi_h2 h
  refine fm_cxi (vx_runV (As := [.int x1]) (rest := [.int (0 : Int32), .ref (K.2.2.2 55)]) C (kX4_settle l K hfl h4 _) (cwV 1 hts gL_settle_X4_settle rfl rfl rfl (by decide +kernel) ⟨(Nat.le_of_ble_eq_true rfl), (Nat.le_of_ble_eq_true rfl)⟩) ⟨fm_blind, fm_recv hst hH (q := 0) (by decide) rfl (fm_ob_0 _ _) rfl, fm_pre hst hA hH⟩ rfl rfl hl.1 rfl (lv_room (Nat.le_of_ble_eq_true rfl)) dL_settle_4 ⟨(Nat.le_of_ble_eq_true rfl), (Nat.le_of_ble_eq_true rfl)⟩) hA hH (fun E σx4 ce q9 H locs hx1 hH hce hcv hcl => ?_) (fun r4 σ4 H locs hx1 hH => ?_)
  · replace h := her _ _ hx1
    clear hok her
    refine vx_widen (k := 1) (n := 6) (Nat.le_of_ble_eq_true rfl) (Nat.le_of_ble_eq_true rfl) ?_
    by_cases hE : E = "java/lang/IllegalArgumentException"
    · subst hE
      replace h := mi_pos rfl h
      refine vx_catch (own := RL) (name := "java/lang/IllegalArgumentException") hown [] ⟨0, 9, 12, 13⟩ [] htab (fun z hz => nomatch hz) (by decide) (by decide) (hts (.classLink RL 13 "java/lang/IllegalArgumentException") (List.mem_of_getElem? (i := 1) rfl)) (va_Nw.use rfl (hst.2.2.2.2.2.1 _ (List.mem_of_getElem? (i := 1) rfl))) hce hcv hcl ?_
      refine lv_astore_n (lv' := [(3, .ref q9), (0, .ref (K.2.2.2 0)), (1, .int x1), (2, .ref (K.2.2.2 55))]) hx hb dL_settle_12 rfl hl (by decide) rfl (fun ls hl => ?_)
      refine lv_iconst (v := 1) hx hb dL_settle_13 (by decide) ?_
      cases h
      subst hQ
      exact fm_iretW hx hb hr hlk hst hH (Nat.le_of_ble_eq_true rfl) (Nat.le_of_ble_eq_true rfl) dL_settle_14
    · replace h := mi_neg hE h
      cases h
  · replace h := hok _ _ hx1
    clear hok her
    refine W.widen (k := 1) (n := 6) (Nat.le_of_ble_eq_true rfl) (Nat.le_of_ble_eq_true rfl) ?_
    refine lv_i2l (v := r4.toInt64) hx hb dL_settle_7 rfl ?_
    obtain ⟨hi1, h⟩ := mi_chk h
    refine fm_lst hx hb hst.1 hH 55 (by decide) rfl rfl hi1 dL_settle_8 (fun H locs hH => ?_)
    refine lv_goto (tgt := 15) hx hb dL_settle_9 (by decide) ?_
    refine lv_iconst (v := 0) hx hb dL_settle_15 (by decide) ?_
    cases h
    subst hQ
    exact fm_iretW hx hb hr hlk hst hH (Nat.le_of_ble_eq_true rfl) (Nat.le_of_ble_eq_true rfl) dL_settle_16
/-! RL.isSpare(LFormationist;II[J)I -/
abbrev rmL_isSpare : Room := { frames := 8, cells := 3, slots := 18, locals := 165 }
def mL_isSpare (x1 : Int32) (x2 : Int32) (σ : fm_S) : Option (Int32 × fm_S) :=
  mh2 (mX4_isSpare x1 x2 σ) (fun r5 σ5 =>
    mb1 (show Option (Int64) from
      if r5 = 0 then
        some ((0 : Int64))
      else
        some ((1 : Int64))) fun v1_0 =>
    if ((0 : Int32) < 0 ∨ 1 ≤ (0 : Int32).toNatClampNeg) then none else
    some ((0 : Int32), (sL σ5 55 (0 : Int32) v1_0))) (fun E σx5 =>
    if E = "java/lang/IndexOutOfBoundsException" then
      some ((1 : Int32), σx5)
    else
      if E = "java/util/NoSuchElementException" then
        some ((2 : Int32), σx5)
      else
        none)
set_option maxHeartbeats 4000000 in
set_option maxRecDepth 100000 in
theorem kL_isSpare (l : Launch) (K : fm_K) (hfl : l.stackTraces = false) {x1 : Int32} {x2 : Int32} {σ : fm_S} {r : Int32} {σ' : fm_S} (h : mL_isSpare x1 x2 σ = some (r, σ')) : fm_WI l yL_isSpare wsL_isSpare rmL_isSpare K [.ref (K.2.2.2 0), .int x1, .int x2, .ref (K.2.2.2 55)] σ r σ' 3 := by
  intro sz
  refine fm_startW (hh := [(0, 17, 20, 21), (0, 17, 24, 84)]) (Qc := fun sz => fm_QI K r σ' sz) (cc := cL_isSpare) (maxL := 5) (ret := (some .int)) (by decide) rfl (Nat.le_of_ble_eq_true rfl) ?_
  intro p e s m args below meth c C hr hlk htab hst hH ls hl
  have C : CallFix p m c cL_isSpare 5 s args wsL_isSpare RL := C
  obtain ⟨hx, hb, hml, hown, hts⟩ := id C
  have hA : ∀ q, fm_A K s.heap.size q → fm_A K s.heap.size q := fun _ h => h
  have hl : lv_has ls 5 [(0, .ref (K.2.2.2 0)), (1, .int x1), (2, .int x2), (3, .ref (K.2.2.2 55))] := hl
  generalize hQ : MQ below _ args s _ _ _ = Q
  rw [mL_isSpare] at h
  refine lv_aload_n hx hb dL_isSpare_0 rfl (lv_at hl 3 rfl) ?_
  refine lv_iconst (v := 0) hx hb dL_isSpare_1 (by decide) ?_
  refine lv_aload_n hx hb dL_isSpare_2 rfl (lv_at hl 0 rfl) ?_
  refine lv_iload_n hx hb dL_isSpare_3 rfl (lv_at hl 1 rfl) ?_
  refine lv_iload_n hx hb dL_isSpare_4 rfl (lv_at hl 2 rfl) ?_
  obtain ⟨x5_, h5, hok, her⟩ := mi_h2 h
  refine fm_cxi (vx_runV (As := [.int x1, .int x2]) (rest := [.int (0 : Int32), .ref (K.2.2.2 55)]) C (kX4_isSpare l K hfl h5 _) (cwV 2 hts gL_isSpare_X4_isSpare rfl rfl rfl (by decide +kernel) ⟨(Nat.le_of_ble_eq_true rfl), (Nat.le_of_ble_eq_true rfl)⟩) ⟨fm_blind, fm_recv hst hH (q := 0) (by decide) rfl (fm_ob_0 _ _) rfl, fm_pre hst hA hH⟩ rfl rfl hl.1 rfl (lv_room (Nat.le_of_ble_eq_true rfl)) dL_isSpare_5 ⟨(Nat.le_of_ble_eq_true rfl), (Nat.le_of_ble_eq_true rfl)⟩) hA hH (fun E σx5 ce q9 H locs hx1 hH hce hcv hcl => ?_) (fun r5 σ5 H locs hx1 hH => ?_)
  · replace h := her _ _ hx1
    clear hok her
    refine vx_widen (k := 3) (n := 18) (Nat.le_of_ble_eq_true rfl) (Nat.le_of_ble_eq_true rfl) ?_
    by_cases hE : E = "java/lang/IndexOutOfBoundsException"
    · subst hE
      replace h := mi_pos rfl h
      refine vx_catch (own := RL) (name := "java/lang/IndexOutOfBoundsException") hown [] ⟨0, 17, 20, 21⟩ [⟨0, 17, 24, 84⟩] htab (fun z hz => nomatch hz) (by decide) (by decide) (hts (.classLink RL 21 "java/lang/IndexOutOfBoundsException") (List.mem_of_getElem? (i := 1) rfl)) (va_Nw.use rfl (hst.2.2.2.2.2.1 _ (List.mem_of_getElem? (i := 0) rfl))) hce hcv hcl ?_
      refine lv_astore (lv' := [(4, .ref q9), (0, .ref (K.2.2.2 0)), (1, .int x1), (2, .int x2), (3, .ref (K.2.2.2 55))]) hx hb dL_isSpare_20 hl (by decide) rfl (fun ls hl => ?_)
      refine lv_iconst (v := 1) hx hb dL_isSpare_22 (by decide) ?_
      cases h
      subst hQ
      exact fm_iretW hx hb hr hlk hst hH (Nat.le_of_ble_eq_true rfl) (Nat.le_of_ble_eq_true rfl) dL_isSpare_23
    · replace h := mi_neg hE h
      by_cases hE : E = "java/util/NoSuchElementException"
      · subst hE
        replace h := mi_pos rfl h
        refine vx_catch (own := RL) (name := "java/util/NoSuchElementException") hown [⟨0, 17, 20, 21⟩] ⟨0, 17, 24, 84⟩ [] htab (fun z hz => by rcases List.mem_cons.mp hz with rfl | hz; exact Or.inr ⟨by decide, "java/lang/IndexOutOfBoundsException", (hts (.classLink RL 21 "java/lang/IndexOutOfBoundsException") (List.mem_of_getElem? (i := 1) rfl)), hst.2.2.2.2.2.2.1 _ (List.mem_of_getElem? (i := 2) rfl)⟩; exact nomatch hz) (by decide) (by decide) (hts (.classLink RL 84 "java/util/NoSuchElementException") (List.mem_of_getElem? (i := 2) rfl)) (va_Nw.use rfl (hst.2.2.2.2.2.1 _ (List.mem_of_getElem? (i := 3) rfl))) hce hcv hcl ?_
        refine lv_astore (lv' := [(4, .ref q9), (0, .ref (K.2.2.2 0)), (1, .int x1), (2, .int x2), (3, .ref (K.2.2.2 55))]) hx hb dL_isSpare_24 hl (by decide) rfl (fun ls hl => ?_)
        refine lv_iconst (v := 2) hx hb dL_isSpare_26 (by decide) ?_
        cases h
        subst hQ
        exact fm_iretW hx hb hr hlk hst hH (Nat.le_of_ble_eq_true rfl) (Nat.le_of_ble_eq_true rfl) dL_isSpare_27
      · replace h := mi_neg hE h
        cases h
  · replace h := hok _ _ hx1
    clear hok her
    refine W.widen (k := 3) (n := 18) (Nat.le_of_ble_eq_true rfl) (Nat.le_of_ble_eq_true rfl) ?_
    obtain ⟨v1_0, hd, h2⟩ := mi_b1 h
    have kj : ∀ (ls : Array Slot) (H : Heap) (locs : List Loc), lv_has ls 5 [] → fm_H K σ5 (fm_A K s.heap.size) s H locs → W p l e rmL_isSpare s m args below meth c H locs 3 18 Q (F0 m 16 ls [.long v1_0, .int (0 : Int32), .ref (K.2.2.2 55)]) := by
      clear h hd
      intro ls H locs hl hH
      have h := h2
      clear h2
      obtain ⟨hi2, h⟩ := mi_chk h
      refine fm_lst hx hb hst.1 hH 55 (by decide) rfl rfl hi2 dL_isSpare_16 (fun H locs hH => ?_)
      refine lv_goto (tgt := 28) hx hb dL_isSpare_17 (by decide) ?_
      refine lv_iconst (v := 0) hx hb dL_isSpare_28 (by decide) ?_
      cases h
      subst hQ
      exact fm_iretW hx hb hr hlk hst hH (Nat.le_of_ble_eq_true rfl) (Nat.le_of_ble_eq_true rfl) dL_isSpare_29
    replace h := hd
    clear h2 hd
    refine lv_if_eq (tgt := 15) hx hb dL_isSpare_8 (by decide) (fun hc => ?_) (fun hc => ?_)
    · replace h := mi_pos hc h
      refine lv_lconst (v := 0) hx hb dL_isSpare_15 (by decide) ?_
      cases h
      exact kj _ _ _ (lv_sub hl [] rfl) hH
    · replace h := mi_neg hc h
      refine lv_lconst (v := 1) hx hb dL_isSpare_11 (by decide) ?_
      refine lv_goto (tgt := 16) hx hb dL_isSpare_12 (by decide) ?_
      cases h
      exact kj _ _ _ (lv_sub hl [] rfl) hH
