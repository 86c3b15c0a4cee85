/-! RX3.fillRow(LFormationist$Net;II[J)V -/
abbrev rmX3_fillRow : Room := { frames := 2, cells := 0, slots := 0, locals := 43 }
def mX3_fillRow_L6 (q3 : Nat) : Nat → Int32 → Int32 → Int32 → Int32 → fm_S → Option (fm_S)
  | 0, _, _, _, _, _ => none
  | n + 1, x1, x2, x4, x5, σ =>
    if (8 : Int32) ≤ x5 then
      some σ
    else
      mb1 (mX1_holds x1 x5) fun r16 =>
      if r16 = 0 then
        mX3_fillRow_L6 q3 n x1 x2 x4 (x5 + 1) σ
      else
        mb1 (mX1_joins20 x2 x5 σ) fun r29 =>
        mb1 (show Option (Int64) from
          if r29 = 0 then
            some ((0 : Int64))
          else
            some ((-1 : Int64))) fun v1_0 =>
        if (x4 < 0 ∨ (fm_len q3) ≤ x4.toNatClampNeg) then none else
        if x5 = x2 then
          mb1 (mX1_degreeOf20 x2 (sL σ q3 x4 v1_0)) fun r54 =>
          mX3_fillRow_L6 q3 n x1 x2 (x4 + 1) (x5 + 1) (sL (sL σ q3 x4 v1_0) q3 x4 (r54.toInt64))
        else
          mX3_fillRow_L6 q3 n x1 x2 (x4 + 1) (x5 + 1) (sL σ q3 x4 v1_0)
set_option maxHeartbeats 4000000 in
set_option maxRecDepth 100000 in
theorem wX3_fillRow_L6 {p : Program} {l : Launch} {e : Env} {s : State} {m : MethodId} {args : Array Value} {below : List Frame} {meth : Method} {c : Code} {Q : State → Prop} {K : fm_K} {A : Nat → Prop} {q3 : Nat} (hq3 : fm_in K q3) (ht3 : fm_ty q3 = 3) (C : CallFix p m c cX3_fillRow 6 s args wsX3_fillRow RX3) (hst : fm_st K A s s.heap) (hA : ∀ q, fm_A K s.heap.size q → A q) :
    ∀ (n : Nat) (x1 : Int32) (x2 : Int32) (x4 : Int32) (x5 : Int32) (σ : fm_S) (σo : fm_S), mX3_fillRow_L6 q3 n x1 x2 x4 x5 σ = some σo → (∀ (ls : Array Slot) (H : Heap) (locs : List Loc), lv_has ls 6 [] → fm_H K σo A s H locs → W p l e rmX3_fillRow s m args below meth c H locs 0 0 Q (F0 m 68 ls [])) → ∀ (ls : Array Slot) (H : Heap) (locs : List Loc), lv_has ls 6 [(0, .ref (K.2.2.2 20)), (1, .int x1), (2, .int x2), (3, .ref (K.2.2.2 q3)), (4, .int x4), (5, .int x5)] → fm_H K σ A s H locs → W p l e rmX3_fillRow s m args below meth c H locs 0 0 Q (F0 m 6 ls []) := by
  obtain ⟨hx, hb, hml, hown, hts⟩ := id C
  intro n
  induction n with
  | zero => intro x1 x2 x4 x5 σ σo h; simp [mX3_fillRow_L6] at h
  | succ n ih =>
    intro x1 x2 x4 x5 σ σo h kk ls H locs hl hH
    rw [mX3_fillRow_L6] at h
    refine lv_iload hx hb dX3_fillRow_6 (lv_at hl 5 rfl) ?_
    refine lv_bipush (v := 8) hx hb dX3_fillRow_8 (by decide) ?_
    refine lv_icmp_ge (tgt := 68) hx hb dX3_fillRow_10 (by decide) (fun hc => ?_) (fun hc => ?_)
    · replace h := mi_pos hc h
      cases h
      exact kk _ _ _ (lv_sub hl [] rfl) hH
    · replace h := mi_neg hc h
      refine lv_iload_n hx hb dX3_fillRow_13 rfl (lv_at hl 1 rfl) ?_
      refine lv_iload hx hb dX3_fillRow_14 (lv_at hl 5 rfl) ?_
      obtain ⟨r16, h16, h⟩ := mi_b1 h
      refine fm_ci (va_runSN (As := [.int x1, .int x5]) (rest := []) C (kX1_holds l K h16 _) ⟨va_cnB 2 hts gX3_fillRow_X1_holds_n36 rfl rfl rfl (hst.2.1 (RX3, 36, yX1_holds) (List.mem_of_getElem? (i := 9) rfl)) (hts (.initialized RX1) (List.mem_of_getElem? (i := 3) rfl)) (by decide +kernel) ⟨(Nat.le_of_ble_eq_true rfl), (Nat.le_of_ble_eq_true rfl)⟩, (hts (.static yX1_holds) (List.mem_of_getElem? (i := 2) rfl)), trivial⟩ ⟨fm_blind, fm_pre hst hA hH⟩ rfl rfl hl.1 rfl (lv_room (Nat.le_of_ble_eq_true rfl)) dX3_fillRow_16 ⟨(Nat.le_of_ble_eq_true rfl), (Nat.le_of_ble_eq_true rfl)⟩) hA hH (fun H locs hH => ?_)
      refine lv_if_eq (tgt := 62) hx hb dX3_fillRow_19 (by decide) (fun hc => ?_) (fun hc => ?_)
      · replace h := mi_pos hc h
        refine lv_iinc (v := (x5 + 1)) (lv' := [(5, .int (x5 + 1)), (0, .ref (K.2.2.2 20)), (1, .int x1), (2, .int x2), (3, .ref (K.2.2.2 q3)), (4, .int x4)]) hx hb dX3_fillRow_62 hl (k := 5) rfl rfl (by decide) rfl (fun ls hl => ?_)
        refine lv_goto (tgt := 6) hx hb dX3_fillRow_65 (by decide) ?_
        exact ih _ _ _ _ _ _ h kk _ _ _ (lv_sub hl [1, 2, 3, 4, 5, 0] rfl) hH
      · replace h := mi_neg hc h
        refine lv_aload_n hx hb dX3_fillRow_22 rfl (lv_at hl 3 rfl) ?_
        refine lv_iload hx hb dX3_fillRow_23 (lv_at hl 4 rfl) ?_
        refine lv_aload_n hx hb dX3_fillRow_25 rfl (lv_at hl 0 rfl) ?_
        refine lv_iload_n hx hb dX3_fillRow_26 rfl (lv_at hl 2 rfl) ?_
        refine lv_iload hx hb dX3_fillRow_27 (lv_at hl 5 rfl) ?_
        obtain ⟨r29, h29, h⟩ := mi_b1 h
        refine fm_ci (va_runVN (As := [.int x2, .int x5]) (rest := [.int x4, .ref (K.2.2.2 q3)]) C (kX1_joins20 l K h29 _) ⟨va_cnB 2 hts gX3_fillRow_X1_joins_n44 rfl rfl rfl (hst.2.1 (RX3, 44, yX1_joins) (List.mem_of_getElem? (i := 10) rfl)) (hts (.initialized RX1) (List.mem_of_getElem? (i := 3) rfl)) (by decide +kernel) ⟨(Nat.le_of_ble_eq_true rfl), (Nat.le_of_ble_eq_true rfl)⟩, (hts (.instanceMethod yX1_joins) (List.mem_of_getElem? (i := 5) rfl)), (hts (.selects RX1 yX1_joins yX1_joins) (List.mem_of_getElem? (i := 6) rfl))⟩ ⟨fm_blind, fm_recv hst hH (q := 20) (fm_inb (by decide)) rfl (fm_ob_20 _ _) rfl, fm_pre hst hA hH⟩ rfl rfl hl.1 rfl (lv_room (Nat.le_of_ble_eq_true rfl)) dX3_fillRow_29 ⟨(Nat.le_of_ble_eq_true rfl), (Nat.le_of_ble_eq_true rfl)⟩) hA hH (fun H locs hH => ?_)
        obtain ⟨v1_0, hd, h2⟩ := mi_b1 h
        have kj : ∀ (ls : Array Slot) (H : Heap) (locs : List Loc), lv_has ls 6 [(0, .ref (K.2.2.2 20)), (1, .int x1), (2, .int x2), (3, .ref (K.2.2.2 q3)), (4, .int x4), (5, .int x5)] → fm_H K σ A s H locs → W p l e rmX3_fillRow s m args below meth c H locs 0 0 Q (F0 m 42 ls [.long v1_0, .int x4, .ref (K.2.2.2 q3)]) := by
          clear h hd
          intro ls H locs hl hH
          have h := h2
          clear h2
          obtain ⟨hi2, h⟩ := mi_chk h
          refine fm_lst hx hb hst.1 hH q3 hq3 ht3 rfl hi2 dX3_fillRow_42 (fun H locs hH => ?_)
          refine lv_iload hx hb dX3_fillRow_43 (lv_at hl 5 rfl) ?_
          refine lv_iload_n hx hb dX3_fillRow_45 rfl (lv_at hl 2 rfl) ?_
          refine lv_icmp_ne (tgt := 59) hx hb dX3_fillRow_46 (by decide) (fun hc => ?_) (fun hc => ?_)
          · replace h := mi_neg hc h
            refine lv_iinc (v := (x4 + 1)) (lv' := [(4, .int (x4 + 1)), (0, .ref (K.2.2.2 20)), (1, .int x1), (2, .int x2), (3, .ref (K.2.2.2 q3)), (5, .int x5)]) hx hb dX3_fillRow_59 hl (k := 4) rfl rfl (by decide) rfl (fun ls hl => ?_)
            refine lv_iinc (v := (x5 + 1)) (lv' := [(5, .int (x5 + 1)), (4, .int (x4 + 1)), (0, .ref (K.2.2.2 20)), (1, .int x1), (2, .int x2), (3, .ref (K.2.2.2 q3))]) hx hb dX3_fillRow_62 hl (k := 5) rfl rfl (by decide) rfl (fun ls hl => ?_)
            refine lv_goto (tgt := 6) hx hb dX3_fillRow_65 (by decide) ?_
            exact ih _ _ _ _ _ _ h kk _ _ _ (lv_sub hl [2, 3, 4, 5, 1, 0] rfl) hH
          · replace h := mi_pos hc h
            refine lv_aload_n hx hb dX3_fillRow_49 rfl (lv_at hl 3 rfl) ?_
            refine lv_iload hx hb dX3_fillRow_50 (lv_at hl 4 rfl) ?_
            refine lv_aload_n hx hb dX3_fillRow_52 rfl (lv_at hl 0 rfl) ?_
            refine lv_iload_n hx hb dX3_fillRow_53 rfl (lv_at hl 2 rfl) ?_
            obtain ⟨r54, h54, h⟩ := mi_b1 h
            refine fm_ci (va_runVN (As := [.int x2]) (rest := [.int x4, .ref (K.2.2.2 q3)]) C (kX1_degreeOf20 l K h54 _) ⟨va_cnB 1 hts gX3_fillRow_X1_degreeOf_n49 rfl rfl rfl (hst.2.1 (RX3, 49, yX1_degreeOf) (List.mem_of_getElem? (i := 11) rfl)) (hts (.initialized RX1) (List.mem_of_getElem? (i := 3) rfl)) (by decide +kernel) ⟨(Nat.le_of_ble_eq_true rfl), (Nat.le_of_ble_eq_true rfl)⟩, (hts (.instanceMethod yX1_degreeOf) (List.mem_of_getElem? (i := 10) rfl)), (hts (.selects RX1 yX1_degreeOf yX1_degreeOf) (List.mem_of_getElem? (i := 11) rfl))⟩ ⟨fm_blind, fm_recv hst hH (q := 20) (fm_inb (by decide)) rfl (fm_ob_20 _ _) rfl, fm_pre hst hA hH⟩ rfl rfl hl.1 rfl (lv_room (Nat.le_of_ble_eq_true rfl)) dX3_fillRow_54 ⟨(Nat.le_of_ble_eq_true rfl), (Nat.le_of_ble_eq_true rfl)⟩) hA hH (fun H locs hH => ?_)
            refine lv_i2l (v := r54.toInt64) hx hb dX3_fillRow_57 rfl ?_
            refine fm_lst hx hb hst.1 hH q3 hq3 ht3 rfl hi2 dX3_fillRow_58 (fun H locs hH => ?_)
            refine lv_iinc (v := (x4 + 1)) (lv' := [(4, .int (x4 + 1)), (0, .ref (K.2.2.2 20)), (1, .int x1), (2, .int x2), (3, .ref (K.2.2.2 q3)), (5, .int x5)]) hx hb dX3_fillRow_59 hl (k := 4) rfl rfl (by decide) rfl (fun ls hl => ?_)
            refine lv_iinc (v := (x5 + 1)) (lv' := [(5, .int (x5 + 1)), (4, .int (x4 + 1)), (0, .ref (K.2.2.2 20)), (1, .int x1), (2, .int x2), (3, .ref (K.2.2.2 q3))]) hx hb dX3_fillRow_62 hl (k := 5) rfl rfl (by decide) rfl (fun ls hl => ?_)
            refine lv_goto (tgt := 6) hx hb dX3_fillRow_65 (by decide) ?_
            exact ih _ _ _ _ _ _ h kk _ _ _ (lv_sub hl [2, 3, 4, 5, 1, 0] rfl) hH
        replace h := hd
        clear h2 hd
        refine lv_if_eq (tgt := 41) hx hb dX3_fillRow_32 (by decide) (fun hc => ?_) (fun hc => ?_)
        · replace h := mi_pos hc h
          refine lv_lconst (v := 0) hx hb dX3_fillRow_41 (by decide) ?_
          cases h
          exact kj _ _ _ (lv_sub hl [0, 1, 2, 3, 4, 5] rfl) hH
        · replace h := mi_neg hc h
          refine lv_ldc2 (v := -1) hx hb hown (hts (.constantLong RX3 47 (-1)) (List.mem_of_getElem? (i := 1) rfl)) dX3_fillRow_35 ?_
          refine lv_goto (tgt := 42) hx hb dX3_fillRow_38 (by decide) ?_
          cases h
          exact kj _ _ _ (lv_sub hl [0, 1, 2, 3, 4, 5] rfl) hH
def mX3_fillRow (q3 : Nat) (x1 : Int32) (x2 : Int32) (σ : fm_S) : Option fm_S :=
  mb1 (mX3_fillRow_L6 q3 fF x1 x2 (0 : Int32) (0 : Int32) σ) fun σ6 =>
  some σ6
set_option maxHeartbeats 4000000 in
set_option maxRecDepth 100000 in
theorem kX3_fillRow (l : Launch) (K : fm_K) {q3 : Nat} (hq3 : fm_in K q3) (ht3 : fm_ty q3 = 3) {x1 : Int32} {x2 : Int32} {σ : fm_S} {σ' : fm_S} (h : mX3_fillRow q3 x1 x2 σ = some σ') : fm_CV l yX3_fillRow wsX3_fillRow rmX3_fillRow K [.ref (K.2.2.2 20), .int x1, .int x2, .ref (K.2.2.2 q3)] σ σ' := by
  intro sz
  refine fm_start (Qc := fun sz => fm_QV K σ' sz) (cc := cX3_fillRow) (maxL := 6) (ret := none) (by decide) rfl (Nat.le_of_ble_eq_true rfl) ?_
  intro p e s m args below meth c C hr hlk hst hH ls hl
  have C : CallFix p m c cX3_fillRow 6 s args wsX3_fillRow RX3 := C
  obtain ⟨hx, hb, hml, hown, hts⟩ := id C
  have hA : ∀ q, fm_A K s.heap.size q → fm_A K s.heap.size q := fun _ h => h
  have hl : lv_has ls 6 [(0, .ref (K.2.2.2 20)), (1, .int x1), (2, .int x2), (3, .ref (K.2.2.2 q3))] := hl
  generalize hQ : MQ below _ args s _ _ _ = Q
  rw [mX3_fillRow] at h
  refine lv_iconst (v := 0) hx hb dX3_fillRow_0 (by decide) ?_
  refine lv_istore (lv' := [(4, .int (0 : Int32)), (0, .ref (K.2.2.2 20)), (1, .int x1), (2, .int x2), (3, .ref (K.2.2.2 q3))]) hx hb dX3_fillRow_1 hl (by decide) rfl (fun ls hl => ?_)
  refine lv_iconst (v := 0) hx hb dX3_fillRow_3 (by decide) ?_
  refine lv_istore (lv' := [(5, .int (0 : Int32)), (4, .int (0 : Int32)), (0, .ref (K.2.2.2 20)), (1, .int x1), (2, .int x2), (3, .ref (K.2.2.2 q3))]) hx hb dX3_fillRow_4 hl (by decide) rfl (fun ls hl => ?_)
  obtain ⟨σ6, h6, h⟩ := mi_b1 h
  refine wX3_fillRow_L6 hq3 ht3 C hst hA _ _ _ _ _ _ _ h6 (fun ls H locs hl hH => ?_) _ _ _ (lv_sub hl [2, 3, 4, 5, 1, 0] rfl) hH
  cases h
  subst hQ
  exact fm_vret hx hb hr hlk hst hH dX3_fillRow_68
/-! RX3.fill(LFormationist$Net;I)I -/
abbrev rmX3_fill : Room := { frames := 3, cells := 0, slots := 0, locals := 68 }
def mX3_fill_L5 : Nat → Int32 → Int32 → Int32 → fm_S → Option (Int32 × fm_S)
  | 0, _, _, _, _ => none
  | n + 1, x2, x3, x4, σ =>
    if (8 : Int32) ≤ x4 then
      some (x3, σ)
    else
      mb1 (mX1_holds x2 x4) fun r15 =>
      if r15 = 0 then
        mX3_fill_L5 n x2 x3 (x4 + 1) σ
      else
        if (x3 < 0 ∨ 8 ≤ x3.toNatClampNeg) then none else
        mb1 (mX3_fillRow (31 + 1 + x3.toNatClampNeg) x2 x4 σ) fun σ31 =>
        mX3_fill_L5 n x2 (x3 + 1) (x4 + 1) σ31
set_option maxHeartbeats 4000000 in
set_option maxRecDepth 100000 in
theorem wX3_fill_L5 {p : Program} {l : Launch} {e : Env} {s : State} {m : MethodId} {args : Array Value} {below : List Frame} {meth : Method} {c : Code} {Q : State → Prop} {K : fm_K} {A : Nat → Prop} (C : CallFix p m c cX3_fill 5 s args wsX3_fill RX3) (hst : fm_st K A s s.heap) (hA : ∀ q, fm_A K s.heap.size q → A q) :
    ∀ (n : Nat) (x2 : Int32) (x3 : Int32) (x4 : Int32) (σ : fm_S) (o3 : Int32) (σo : fm_S), mX3_fill_L5 n x2 x3 x4 σ = some (o3, σo) → (∀ (ls : Array Slot) (H : Heap) (locs : List Loc), lv_has ls 5 [(3, .int o3)] → fm_H K σo A s H locs → W p l e rmX3_fill s m args below meth c H locs 0 0 Q (F0 m 43 ls [])) → ∀ (ls : Array Slot) (H : Heap) (locs : List Loc), lv_has ls 5 [(0, .ref (K.2.2.2 30)), (1, .ref (K.2.2.2 20)), (2, .int x2), (3, .int x3), (4, .int x4)] → fm_H K σ A s H locs → W p l e rmX3_fill s m args below meth c H locs 0 0 Q (F0 m 5 ls []) := by
  obtain ⟨hx, hb, hml, hown, hts⟩ := id C
  intro n
  induction n with
  | zero => intro x2 x3 x4 σ o3 σo h; simp [mX3_fill_L5] at h
  | succ n ih =>
    intro x2 x3 x4 σ o3 σo h kk ls H locs hl hH
    rw [mX3_fill_L5] at h
    refine lv_iload hx hb dX3_fill_5 (lv_at hl 4 rfl) ?_
    refine lv_bipush (v := 8) hx hb dX3_fill_7 (by decide) ?_
    refine lv_icmp_ge (tgt := 43) hx hb dX3_fill_9 (by decide) (fun hc => ?_) (fun hc => ?_)
    · replace h := mi_pos hc h
      cases h
      exact kk _ _ _ (lv_sub hl [3] rfl) hH
    · replace h := mi_neg hc h
      refine lv_iload_n hx hb dX3_fill_12 rfl (lv_at hl 2 rfl) ?_
      refine lv_iload hx hb dX3_fill_13 (lv_at hl 4 rfl) ?_
      obtain ⟨r15, h15, h⟩ := mi_b1 h
      refine fm_ci (va_runSN (As := [.int x2, .int x4]) (rest := []) C (kX1_holds l K h15 _) ⟨va_cnB 2 hts gX3_fill_X1_holds_n36 rfl rfl rfl (hst.2.1 (RX3, 36, yX1_holds) (List.mem_of_getElem? (i := 9) rfl)) (hts (.initialized RX1) (List.mem_of_getElem? (i := 3) rfl)) (by decide +kernel) ⟨(Nat.le_of_ble_eq_true rfl), (Nat.le_of_ble_eq_true rfl)⟩, (hts (.static yX1_holds) (List.mem_of_getElem? (i := 2) rfl)), trivial⟩ ⟨fm_blind, fm_pre hst hA hH⟩ rfl rfl hl.1 rfl (lv_room (Nat.le_of_ble_eq_true rfl)) dX3_fill_15 ⟨(Nat.le_of_ble_eq_true rfl), (Nat.le_of_ble_eq_true rfl)⟩) hA hH (fun H locs hH => ?_)
      refine lv_if_eq (tgt := 37) hx hb dX3_fill_18 (by decide) (fun hc => ?_) (fun hc => ?_)
      · replace h := mi_pos hc h
        refine lv_iinc (v := (x4 + 1)) (lv' := [(4, .int (x4 + 1)), (0, .ref (K.2.2.2 30)), (1, .ref (K.2.2.2 20)), (2, .int x2), (3, .int x3)]) hx hb dX3_fill_37 hl (k := 4) rfl rfl (by decide) rfl (fun ls hl => ?_)
        refine lv_goto (tgt := 5) hx hb dX3_fill_40 (by decide) ?_
        exact ih _ _ _ _ _ _ h kk _ _ _ (lv_sub hl [1, 2, 3, 4, 0] rfl) hH
      · replace h := mi_neg hc h
        refine lv_aload_n hx hb dX3_fill_21 rfl (lv_at hl 1 rfl) ?_
        refine lv_iload_n hx hb dX3_fill_22 rfl (lv_at hl 2 rfl) ?_
        refine lv_iload hx hb dX3_fill_23 (lv_at hl 4 rfl) ?_
        refine lv_aload_n hx hb dX3_fill_25 rfl (lv_at hl 0 rfl) ?_
        refine fm_getf (T := TX3) (N := 1) hx hb hts (fun _ h => List.mem_cons_of_mem _ (List.mem_append_left _ (List.mem_append_right _ h))) hown hst.1 hH 30 (fm_inb (by decide)) rfl (fm_ob_30 _ _) rfl 0 (by decide) (List.mem_of_getElem? (i := 1) rfl) rfl rfl dX3_fill_26 ?_
        refine lv_iload_n hx hb dX3_fill_29 rfl (lv_at hl 3 rfl) ?_
        obtain ⟨hi1, h⟩ := mi_chk h
        refine fm_ald5 hx hb hst.1 hH 31 (fm_inb (by decide)) rfl hi1 dX3_fill_30 ?_
        obtain ⟨σ31, h31, h⟩ := mi_b1 h
        refine fm_cv (va_runS (As := [.ref (K.2.2.2 20), .int x2, .int x4, .ref (K.2.2.2 (31 + 1 + x3.toNatClampNeg))]) (rest := []) C (kX3_fillRow l K (fm_r5 (K := K) hi1).1 (fm_r5 (K := K) hi1).2.1 h31 _) (va_cwS 4 hts gX3_fill_X3_fillRow rfl rfl rfl (by decide +kernel) ⟨(Nat.le_of_ble_eq_true rfl), (Nat.le_of_ble_eq_true rfl)⟩) ⟨fm_blind, fm_pre hst hA hH⟩ rfl rfl hl.1 rfl (lv_room (Nat.le_of_ble_eq_true rfl)) dX3_fill_31 ⟨(Nat.le_of_ble_eq_true rfl), (Nat.le_of_ble_eq_true rfl)⟩) hA hH (fun H locs hH => ?_)
        refine lv_iinc (v := (x3 + 1)) (lv' := [(3, .int (x3 + 1)), (0, .ref (K.2.2.2 30)), (1, .ref (K.2.2.2 20)), (2, .int x2), (4, .int x4)]) hx hb dX3_fill_34 hl (k := 3) rfl rfl (by decide) rfl (fun ls hl => ?_)
        refine lv_iinc (v := (x4 + 1)) (lv' := [(4, .int (x4 + 1)), (3, .int (x3 + 1)), (0, .ref (K.2.2.2 30)), (1, .ref (K.2.2.2 20)), (2, .int x2)]) hx hb dX3_fill_37 hl (k := 4) rfl rfl (by decide) rfl (fun ls hl => ?_)
        refine lv_goto (tgt := 5) hx hb dX3_fill_40 (by decide) ?_
        exact ih _ _ _ _ _ _ h kk _ _ _ (lv_sub hl [2, 3, 4, 1, 0] rfl) hH
def mX3_fill (x2 : Int32) (σ : fm_S) : Option (Int32 × fm_S) :=
  mb2 (mX3_fill_L5 fF x2 (0 : Int32) (0 : Int32) σ) fun y5_3 σ5 =>
  some (y5_3, σ5)
set_option maxHeartbeats 4000000 in
set_option maxRecDepth 100000 in
theorem kX3_fill (l : Launch) (K : fm_K) {x2 : Int32} {σ : fm_S} {r : Int32} {σ' : fm_S} (h : mX3_fill x2 σ = some (r, σ')) : fm_CI l yX3_fill wsX3_fill rmX3_fill K [.ref (K.2.2.2 30), .ref (K.2.2.2 20), .int x2] σ r σ' := by
  intro sz
  refine fm_start (Qc := fun sz => fm_QI K r σ' sz) (cc := cX3_fill) (maxL := 5) (ret := (some .int)) (by decide) rfl (Nat.le_of_ble_eq_true rfl) ?_
  intro p e s m args below meth c C hr hlk hst hH ls hl
  have C : CallFix p m c cX3_fill 5 s args wsX3_fill RX3 := C
  obtain ⟨hx, hb, hml, hown, hts⟩ := id C
  have hA : ∀ q, fm_A K s.heap.size q → fm_A K s.heap.size q := fun _ h => h
  have hl : lv_has ls 5 [(0, .ref (K.2.2.2 30)), (1, .ref (K.2.2.2 20)), (2, .int x2)] := hl
  generalize hQ : MQ below _ args s _ _ _ = Q
  rw [mX3_fill] at h
  refine lv_iconst (v := 0) hx hb dX3_fill_0 (by decide) ?_
  refine lv_istore_n (lv' := [(3, .int (0 : Int32)), (0, .ref (K.2.2.2 30)), (1, .ref (K.2.2.2 20)), (2, .int x2)]) hx hb dX3_fill_1 rfl hl (by decide) rfl (fun ls hl => ?_)
  refine lv_iconst (v := 0) hx hb dX3_fill_2 (by decide) ?_
  refine lv_istore (lv' := [(4, .int (0 : Int32)), (3, .int (0 : Int32)), (0, .ref (K.2.2.2 30)), (1, .ref (K.2.2.2 20)), (2, .int x2)]) hx hb dX3_fill_3 hl (by decide) rfl (fun ls hl => ?_)
  obtain ⟨y5_3, σ5, h5, h⟩ := mi_b2 h
  refine wX3_fill_L5 C hst hA _ _ _ _ _ _ _ h5 (fun ls H locs hl hH => ?_) _ _ _ (lv_sub hl [2, 3, 4, 1, 0] rfl) hH
  refine lv_iload_n hx hb dX3_fill_43 rfl (lv_at hl 0 rfl) ?_
  cases h
  subst hQ
  exact fm_iret hx hb hr hlk hst hH dX3_fill_44
/-! RX3.determinant(I)J -/
abbrev rmX3_determinant : Room := { frames := 0, cells := 0, slots := 0, locals := 0 }
def mX3_determinant_L50 : Nat → Int32 → Int64 → Int32 → Int64 → Int32 → Int32 → fm_S → Option (fm_S)
  | 0, _, _, _, _, _, _, _ => none
  | n + 1, x1, x2, x4, x5, x7, x8, σ =>
    if x1 ≤ x8 then
      some σ
    else
      if (x7 < 0 ∨ 8 ≤ x7.toNatClampNeg) then none else
      if (x4 < 0 ∨ 8 ≤ x4.toNatClampNeg) then none else
      if (x8 < 0 ∨ 8 ≤ x8.toNatClampNeg) then none else
      if x2 = 0 then none else
      mX3_determinant_L50 n x1 x2 x4 x5 x7 (x8 + 1) (sL σ (31 + 1 + x7.toNatClampNeg) x8 ((((rL σ (31 + 1 + x7.toNatClampNeg) x8) * x5) - ((rL σ (31 + 1 + x7.toNatClampNeg) x4) * (rL σ (31 + 1 + x4.toNatClampNeg) x8))) / x2))
set_option maxHeartbeats 4000000 in
set_option maxRecDepth 100000 in
theorem wX3_determinant_L50 {p : Program} {l : Launch} {e : Env} {s : State} {m : MethodId} {args : Array Value} {below : List Frame} {meth : Method} {c : Code} {Q : State → Prop} {K : fm_K} {A : Nat → Prop} (C : CallFix p m c cX3_determinant 11 s args wsX3_determinant RX3) (hst : fm_st K A s s.heap) (hA : ∀ q, fm_A K s.heap.size q → A q) :
    ∀ (n : Nat) (x1 : Int32) (x2 : Int64) (x4 : Int32) (x5 : Int64) (x7 : Int32) (x8 : Int32) (σ : fm_S) (σo : fm_S), mX3_determinant_L50 n x1 x2 x4 x5 x7 x8 σ = some σo → (∀ (ls : Array Slot) (H : Heap) (locs : List Loc), lv_has ls 11 [(0, .ref (K.2.2.2 30)), (1, .int x1), (2, .long x2), (4, .int x4), (5, .long x5), (7, .int x7)] → fm_H K σo A s H locs → W p l e rmX3_determinant s m args below meth c H locs 0 0 Q (F0 m 113 ls [])) → ∀ (ls : Array Slot) (H : Heap) (locs : List Loc), lv_has ls 11 [(0, .ref (K.2.2.2 30)), (1, .int x1), (2, .long x2), (4, .int x4), (5, .long x5), (7, .int x7), (8, .int x8)] → fm_H K σ A s H locs → W p l e rmX3_determinant s m args below meth c H locs 0 0 Q (F0 m 50 ls []) := by
  obtain ⟨hx, hb, hml, hown, hts⟩ := id C
  intro n
  induction n with
  | zero => intro x1 x2 x4 x5 x7 x8 σ σo h; simp [mX3_determinant_L50] at h
  | succ n ih =>
    intro x1 x2 x4 x5 x7 x8 σ σo h kk ls H locs hl hH
    rw [mX3_determinant_L50] at h
    refine lv_iload hx hb dX3_determinant_50 (lv_at hl 6 rfl) ?_
    refine lv_iload_n hx hb dX3_determinant_52 rfl (lv_at hl 1 rfl) ?_
    refine lv_icmp_ge (tgt := 113) hx hb dX3_determinant_53 (by decide) (fun hc => ?_) (fun hc => ?_)
    · replace h := mi_pos hc h
      cases h
      exact kk _ _ _ (lv_sub hl [0, 1, 2, 3, 4, 5] rfl) hH
    · replace h := mi_neg hc h
      refine lv_aload_n hx hb dX3_determinant_56 rfl (lv_at hl 0 rfl) ?_
      refine fm_getf (T := TX3) (N := 1) hx hb hts (fun _ h => List.mem_cons_of_mem _ (List.mem_append_right _ h)) hown hst.1 hH 30 (fm_inb (by decide)) rfl (fm_ob_30 _ _) rfl 0 (by decide) (List.mem_of_getElem? (i := 1) rfl) rfl rfl dX3_determinant_57 ?_
      refine lv_iload hx hb dX3_determinant_60 (lv_at hl 5 rfl) ?_
      obtain ⟨hi2, h⟩ := mi_chk h
      refine fm_ald5 hx hb hst.1 hH 31 (fm_inb (by decide)) rfl hi2 dX3_determinant_62 ?_
      refine lv_iload hx hb dX3_determinant_63 (lv_at hl 3 rfl) ?_
      obtain ⟨hi3, h⟩ := mi_chk h
      refine fm_lld hx hb hst.1 hH (31 + 1 + x7.toNatClampNeg) (fm_r5 (K := K) hi2).1 (fm_r5 (K := K) hi2).2.1 (fm_r5 (K := K) hi2).2.2 hi3 dX3_determinant_65 ?_
      refine lv_aload_n hx hb dX3_determinant_66 rfl (lv_at hl 0 rfl) ?_
      refine fm_getf (T := TX3) (N := 1) hx hb hts (fun _ h => List.mem_cons_of_mem _ (List.mem_append_right _ h)) hown hst.1 hH 30 (fm_inb (by decide)) rfl (fm_ob_30 _ _) rfl 0 (by decide) (List.mem_of_getElem? (i := 1) rfl) rfl rfl dX3_determinant_67 ?_
      refine lv_iload hx hb dX3_determinant_70 (lv_at hl 3 rfl) ?_
      refine fm_ald5 hx hb hst.1 hH 31 (fm_inb (by decide)) rfl hi3 dX3_determinant_72 ?_
      refine lv_iload hx hb dX3_determinant_73 (lv_at hl 6 rfl) ?_
      obtain ⟨hi4, h⟩ := mi_chk h
      refine fm_lld hx hb hst.1 hH (31 + 1 + x4.toNatClampNeg) (fm_r5 (K := K) hi3).1 (fm_r5 (K := K) hi3).2.1 (fm_r5 (K := K) hi3).2.2 hi4 dX3_determinant_75 ?_
      refine lv_lmul hx hb dX3_determinant_76 ?_
      refine lv_lstore (lv' := [(9, .long ((rL σ (31 + 1 + x7.toNatClampNeg) x4) * (rL σ (31 + 1 + x4.toNatClampNeg) x8))), (0, .ref (K.2.2.2 30)), (1, .int x1), (2, .long x2), (4, .int x4), (5, .long x5), (7, .int x7), (8, .int x8)]) hx hb dX3_determinant_77 hl (by decide) rfl (fun ls hl => ?_)
      refine lv_aload_n hx hb dX3_determinant_79 rfl (lv_at hl 1 rfl) ?_
      refine fm_getf (T := TX3) (N := 1) hx hb hts (fun _ h => List.mem_cons_of_mem _ (List.mem_append_right _ h)) hown hst.1 hH 30 (fm_inb (by decide)) rfl (fm_ob_30 _ _) rfl 0 (by decide) (List.mem_of_getElem? (i := 1) rfl) rfl rfl dX3_determinant_80 ?_
      refine lv_iload hx hb dX3_determinant_83 (lv_at hl 6 rfl) ?_
      refine fm_ald5 hx hb hst.1 hH 31 (fm_inb (by decide)) rfl hi2 dX3_determinant_85 ?_
      refine lv_iload hx hb dX3_determinant_86 (lv_at hl 7 rfl) ?_
      refine lv_aload_n hx hb dX3_determinant_88 rfl (lv_at hl 1 rfl) ?_
      refine fm_getf (T := TX3) (N := 1) hx hb hts (fun _ h => List.mem_cons_of_mem _ (List.mem_append_right _ h)) hown hst.1 hH 30 (fm_inb (by decide)) rfl (fm_ob_30 _ _) rfl 0 (by decide) (List.mem_of_getElem? (i := 1) rfl) rfl rfl dX3_determinant_89 ?_
      refine lv_iload hx hb dX3_determinant_92 (lv_at hl 6 rfl) ?_
      refine fm_ald5 hx hb hst.1 hH 31 (fm_inb (by decide)) rfl hi2 dX3_determinant_94 ?_
      refine lv_iload hx hb dX3_determinant_95 (lv_at hl 7 rfl) ?_
      refine fm_lld hx hb hst.1 hH (31 + 1 + x7.toNatClampNeg) (fm_r5 (K := K) hi2).1 (fm_r5 (K := K) hi2).2.1 (fm_r5 (K := K) hi2).2.2 hi4 dX3_determinant_97 ?_
      refine lv_lload hx hb dX3_determinant_98 (lv_at hl 5 rfl) ?_
      refine lv_lmul hx hb dX3_determinant_100 ?_
      refine lv_lload hx hb dX3_determinant_101 (lv_at hl 0 rfl) ?_
      refine lv_lsub hx hb dX3_determinant_103 ?_
      refine lv_lload_n hx hb dX3_determinant_104 rfl (lv_at hl 3 rfl) ?_
      obtain ⟨hz5, h⟩ := mi_chk h
      refine lv_ldiv hx hb dX3_determinant_105 hz5 ?_
      refine fm_lst hx hb hst.1 hH (31 + 1 + x7.toNatClampNeg) (fm_r5 (K := K) hi2).1 (fm_r5 (K := K) hi2).2.1 (fm_r5 (K := K) hi2).2.2 hi4 dX3_determinant_106 (fun H locs hH => ?_)
      refine lv_iinc (v := (x8 + 1)) (lv' := [(8, .int (x8 + 1)), (9, .long ((rL σ (31 + 1 + x7.toNatClampNeg) x4) * (rL σ (31 + 1 + x4.toNatClampNeg) x8))), (0, .ref (K.2.2.2 30)), (1, .int x1), (2, .long x2), (4, .int x4), (5, .long x5), (7, .int x7)]) hx hb dX3_determinant_107 hl (k := 7) rfl rfl (by decide) rfl (fun ls hl => ?_)
      refine lv_goto (tgt := 50) hx hb dX3_determinant_110 (by decide) ?_
      exact ih _ _ _ _ _ _ _ _ h kk _ _ _ (lv_sub hl [2, 3, 4, 5, 6, 7, 0] rfl) hH
def mX3_determinant_L38 : Nat → Int32 → Int64 → Int32 → Int64 → Int32 → fm_S → Option (fm_S)
  | 0, _, _, _, _, _, _ => none
  | n + 1, x1, x2, x4, x5, x7, σ =>
    if x1 ≤ x7 then
      some σ
    else
      mb1 (mX3_determinant_L50 fF x1 x2 x4 x5 x7 (x4 + (1 : Int32)) σ) fun σ50 =>
      mX3_determinant_L38 n x1 x2 x4 x5 (x7 + 1) σ50
set_option maxHeartbeats 4000000 in
set_option maxRecDepth 100000 in
theorem wX3_determinant_L38 {p : Program} {l : Launch} {e : Env} {s : State} {m : MethodId} {args : Array Value} {below : List Frame} {meth : Method} {c : Code} {Q : State → Prop} {K : fm_K} {A : Nat → Prop} (C : CallFix p m c cX3_determinant 11 s args wsX3_determinant RX3) (hst : fm_st K A s s.heap) (hA : ∀ q, fm_A K s.heap.size q → A q) :
    ∀ (n : Nat) (x1 : Int32) (x2 : Int64) (x4 : Int32) (x5 : Int64) (x7 : Int32) (σ : fm_S) (σo : fm_S), mX3_determinant_L38 n x1 x2 x4 x5 x7 σ = some σo → (∀ (ls : Array Slot) (H : Heap) (locs : List Loc), lv_has ls 11 [(0, .ref (K.2.2.2 30)), (1, .int x1), (4, .int x4), (5, .long x5)] → fm_H K σo A s H locs → W p l e rmX3_determinant s m args below meth c H locs 0 0 Q (F0 m 119 ls [])) → ∀ (ls : Array Slot) (H : Heap) (locs : List Loc), lv_has ls 11 [(0, .ref (K.2.2.2 30)), (1, .int x1), (2, .long x2), (4, .int x4), (5, .long x5), (7, .int x7)] → fm_H K σ A s H locs → W p l e rmX3_determinant s m args below meth c H locs 0 0 Q (F0 m 38 ls []) := by
  obtain ⟨hx, hb, hml, hown, hts⟩ := id C
  intro n
  induction n with
  | zero => intro x1 x2 x4 x5 x7 σ σo h; simp [mX3_determinant_L38] at h
  | succ n ih =>
    intro x1 x2 x4 x5 x7 σ σo h kk ls H locs hl hH
    rw [mX3_determinant_L38] at h
    refine lv_iload hx hb dX3_determinant_38 (lv_at hl 5 rfl) ?_
    refine lv_iload_n hx hb dX3_determinant_40 rfl (lv_at hl 1 rfl) ?_
    refine lv_icmp_ge (tgt := 119) hx hb dX3_determinant_41 (by decide) (fun hc => ?_) (fun hc => ?_)
    · replace h := mi_pos hc h
      cases h
      exact kk _ _ _ (lv_sub hl [0, 1, 3, 4] rfl) hH
    · replace h := mi_neg hc h
      refine lv_iload hx hb dX3_determinant_44 (lv_at hl 3 rfl) ?_
      refine lv_iconst (v := 1) hx hb dX3_determinant_46 (by decide) ?_
      refine lv_iadd hx hb dX3_determinant_47 ?_
      refine lv_istore (lv' := [(8, .int (x4 + (1 : Int32))), (0, .ref (K.2.2.2 30)), (1, .int x1), (2, .long x2), (4, .int x4), (5, .long x5), (7, .int x7)]) hx hb dX3_determinant_48 hl (by decide) rfl (fun ls hl => ?_)
      obtain ⟨σ50, h50, h⟩ := mi_b1 h
      refine wX3_determinant_L50 C hst hA _ _ _ _ _ _ _ _ _ h50 (fun ls H locs hl hH => ?_) _ _ _ (lv_sub hl [1, 2, 3, 4, 5, 6, 0] rfl) hH
      refine lv_iinc (v := (x7 + 1)) (lv' := [(7, .int (x7 + 1)), (0, .ref (K.2.2.2 30)), (1, .int x1), (2, .long x2), (4, .int x4), (5, .long x5)]) hx hb dX3_determinant_113 hl (k := 5) rfl rfl (by decide) rfl (fun ls hl => ?_)
      refine lv_goto (tgt := 38) hx hb dX3_determinant_116 (by decide) ?_
      exact ih _ _ _ _ _ _ _ h kk _ _ _ (lv_sub hl [1, 2, 3, 4, 5, 0] rfl) hH
def mX3_determinant_L5 : Nat → Int32 → Int64 → Int32 → fm_S → Option (Except (Int64 × fm_S) (Int64 × fm_S))
  | 0, _, _, _, _ => none
  | n + 1, x1, x2, x4, σ =>
    if x1 ≤ x4 then
      some (.ok (x2, σ))
    else
      if (x4 < 0 ∨ 8 ≤ x4.toNatClampNeg) then none else
      if (lg_cmp (rL σ (31 + 1 + x4.toNatClampNeg) x4) (0 : Int64)) = 0 then
        some (.error ((0 : Int64), σ))
      else
        mb1 (mX3_determinant_L38 fF x1 x2 x4 (rL σ (31 + 1 + x4.toNatClampNeg) x4) (x4 + (1 : Int32)) σ) fun σ38 =>
        mX3_determinant_L5 n x1 (rL σ (31 + 1 + x4.toNatClampNeg) x4) (x4 + 1) σ38
set_option maxHeartbeats 4000000 in
set_option maxRecDepth 100000 in
theorem wX3_determinant_L5 {p : Program} {l : Launch} {e : Env} {s : State} {m : MethodId} {args : Array Value} {below : List Frame} {meth : Method} {c : Code} {Q : State → Prop} {K : fm_K} {A : Nat → Prop} (C : CallFix p m c cX3_determinant 11 s args wsX3_determinant RX3) (hst : fm_st K A s s.heap) (hA : ∀ q, fm_A K s.heap.size q → A q) :
    ∀ (n : Nat) (x1 : Int32) (x2 : Int64) (x4 : Int32) (σ : fm_S) (x : Except (Int64 × fm_S) (Int64 × fm_S)), mX3_determinant_L5 n x1 x2 x4 σ = some x → (∀ (o2 : Int64) (σo : fm_S), x = .ok (o2, σo) → ∀ (ls : Array Slot) (H : Heap) (locs : List Loc), lv_has ls 11 [(2, .long o2)] → fm_H K σo A s H locs → W p l e rmX3_determinant s m args below meth c H locs 0 0 Q (F0 m 128 ls [])) → (∀ (ve : Int64) (σe : fm_S), x = .error (ve, σe) → ∀ (pcR : Nat) (ls : Array Slot) (H : Heap) (locs : List Loc), decode cX3_determinant pcR = .ok (.lreturn, 1) → fm_H K σe A s H locs → W p l e rmX3_determinant s m args below meth c H locs 0 0 Q (F0 m pcR ls [.long ve])) → ∀ (ls : Array Slot) (H : Heap) (locs : List Loc), lv_has ls 11 [(0, .ref (K.2.2.2 30)), (1, .int x1), (2, .long x2), (4, .int x4)] → fm_H K σ A s H locs → W p l e rmX3_determinant s m args below meth c H locs 0 0 Q (F0 m 5 ls []) := by
  obtain ⟨hx, hb, hml, hown, hts⟩ := id C
  intro n
  induction n with
  | zero => intro x1 x2 x4 σ x h; simp [mX3_determinant_L5] at h
  | succ n ih =>
    intro x1 x2 x4 σ x h kk kr ls H locs hl hH
    rw [mX3_determinant_L5] at h
    refine lv_iload hx hb dX3_determinant_5 (lv_at hl 3 rfl) ?_
    refine lv_iload_n hx hb dX3_determinant_7 rfl (lv_at hl 1 rfl) ?_
    refine lv_icmp_ge (tgt := 128) hx hb dX3_determinant_8 (by decide) (fun hc => ?_) (fun hc => ?_)
    · replace h := mi_pos hc h
      cases h
      exact kk _ _ rfl _ _ _ (lv_sub hl [2] rfl) hH
    · replace h := mi_neg hc h
      refine lv_aload_n hx hb dX3_determinant_11 rfl (lv_at hl 0 rfl) ?_
      refine fm_getf (T := TX3) (N := 1) hx hb hts (fun _ h => List.mem_cons_of_mem _ (List.mem_append_right _ h)) hown hst.1 hH 30 (fm_inb (by decide)) rfl (fm_ob_30 _ _) rfl 0 (by decide) (List.mem_of_getElem? (i := 1) rfl) rfl rfl dX3_determinant_12 ?_
      refine lv_iload hx hb dX3_determinant_15 (lv_at hl 3 rfl) ?_
      obtain ⟨hi1, h⟩ := mi_chk h
      refine fm_ald5 hx hb hst.1 hH 31 (fm_inb (by decide)) rfl hi1 dX3_determinant_17 ?_
      refine lv_iload hx hb dX3_determinant_18 (lv_at hl 3 rfl) ?_
      refine fm_lld hx hb hst.1 hH (31 + 1 + x4.toNatClampNeg) (fm_r5 (K := K) hi1).1 (fm_r5 (K := K) hi1).2.1 (fm_r5 (K := K) hi1).2.2 hi1 dX3_determinant_20 ?_
      refine lv_lstore (lv' := [(5, .long (rL σ (31 + 1 + x4.toNatClampNeg) x4)), (0, .ref (K.2.2.2 30)), (1, .int x1), (2, .long x2), (4, .int x4)]) hx hb dX3_determinant_21 hl (by decide) rfl (fun ls hl => ?_)
      refine lv_lload hx hb dX3_determinant_23 (lv_at hl 0 rfl) ?_
      refine lv_lconst (v := 0) hx hb dX3_determinant_25 (by decide) ?_
      refine W.lcmp hx hb dX3_determinant_26 ?_
      refine lv_if_ne (tgt := 32) hx hb dX3_determinant_27 (by decide) (fun hc => ?_) (fun hc => ?_)
      · replace h := mi_neg hc h
        refine lv_iload hx hb dX3_determinant_32 (lv_at hl 4 rfl) ?_
        refine lv_iconst (v := 1) hx hb dX3_determinant_34 (by decide) ?_
        refine lv_iadd hx hb dX3_determinant_35 ?_
        refine lv_istore (lv' := [(7, .int (x4 + (1 : Int32))), (5, .long (rL σ (31 + 1 + x4.toNatClampNeg) x4)), (0, .ref (K.2.2.2 30)), (1, .int x1), (2, .long x2), (4, .int x4)]) hx hb dX3_determinant_36 hl (by decide) rfl (fun ls hl => ?_)
        obtain ⟨σ38, h38, h⟩ := mi_b1 h
        refine wX3_determinant_L38 C hst hA _ _ _ _ _ _ _ _ h38 (fun ls H locs hl hH => ?_) _ _ _ (lv_sub hl [2, 3, 4, 5, 1, 0] rfl) hH
        refine lv_lload hx hb dX3_determinant_119 (lv_at hl 3 rfl) ?_
        refine lv_lstore_n (lv' := [(2, .long (rL σ (31 + 1 + x4.toNatClampNeg) x4)), (0, .ref (K.2.2.2 30)), (1, .int x1), (4, .int x4), (5, .long (rL σ (31 + 1 + x4.toNatClampNeg) x4))]) hx hb dX3_determinant_121 rfl hl (by decide) rfl (fun ls hl => ?_)
        refine lv_iinc (v := (x4 + 1)) (lv' := [(4, .int (x4 + 1)), (2, .long (rL σ (31 + 1 + x4.toNatClampNeg) x4)), (0, .ref (K.2.2.2 30)), (1, .int x1), (5, .long (rL σ (31 + 1 + x4.toNatClampNeg) x4))]) hx hb dX3_determinant_122 hl (k := 3) rfl rfl (by decide) rfl (fun ls hl => ?_)
        refine lv_goto (tgt := 5) hx hb dX3_determinant_125 (by decide) ?_
        exact ih _ _ _ _ _ h kk kr _ _ _ (lv_sub hl [2, 3, 1, 0] rfl) hH
      · replace h := mi_pos hc h
        refine lv_lconst (v := 0) hx hb dX3_determinant_30 (by decide) ?_
        cases h
        exact kr _ _ rfl _ _ _ _ dX3_determinant_31 hH
def mX3_determinant (x1 : Int32) (σ : fm_S) : Option (Int64 × fm_S) :=
  ml2 (mX3_determinant_L5 fF x1 (1 : Int64) (0 : Int32) σ) (fun y5_2 σ5 =>
    some (y5_2, σ5)) (fun e => some e)
set_option maxHeartbeats 4000000 in
set_option maxRecDepth 100000 in
theorem kX3_determinant (l : Launch) (K : fm_K) {x1 : Int32} {σ : fm_S} {r : Int64} {σ' : fm_S} (h : mX3_determinant x1 σ = some (r, σ')) : fm_CL l yX3_determinant wsX3_determinant rmX3_determinant K [.ref (K.2.2.2 30), .int x1] σ r σ' := by
  intro sz
  refine fm_start (Qc := fun sz => fm_QL K r σ' sz) (cc := cX3_determinant) (maxL := 11) (ret := (some .long)) (by decide) rfl (Nat.le_of_ble_eq_true rfl) ?_
  intro p e s m args below meth c C hr hlk hst hH ls hl
  have C : CallFix p m c cX3_determinant 11 s args wsX3_determinant RX3 := C
  obtain ⟨hx, hb, hml, hown, hts⟩ := id C
  have hA : ∀ q, fm_A K s.heap.size q → fm_A K s.heap.size q := fun _ h => h
  have hl : lv_has ls 11 [(0, .ref (K.2.2.2 30)), (1, .int x1)] := hl
  generalize hQ : MQ below _ args s _ _ _ = Q
  rw [mX3_determinant] at h
  refine lv_lconst (v := 1) hx hb dX3_determinant_0 (by decide) ?_
  refine lv_lstore_n (lv' := [(2, .long (1 : Int64)), (0, .ref (K.2.2.2 30)), (1, .int x1)]) hx hb dX3_determinant_1 rfl hl (by decide) rfl (fun ls hl => ?_)
  refine lv_iconst (v := 0) hx hb dX3_determinant_2 (by decide) ?_
  refine lv_istore (lv' := [(4, .int (0 : Int32)), (2, .long (1 : Int64)), (0, .ref (K.2.2.2 30)), (1, .int x1)]) hx hb dX3_determinant_3 hl (by decide) rfl (fun ls hl => ?_)
  obtain ⟨x5_, h5, hok, her⟩ := mi_l2 h
  refine wX3_determinant_L5 C hst hA _ _ _ _ _ _ h5 (fun y5_2 σ5 hx1 ls H locs hl hH => ?_) (fun ve σe hx1 pcR ls H locs hdg hH => ?_) _ _ _ (lv_sub hl [2, 3, 1, 0] rfl) hH
  · replace h := hok _ _ hx1
    clear hok her
    refine lv_lload_n hx hb dX3_determinant_128 rfl (lv_at hl 0 rfl) ?_
    cases h
    subst hQ
    exact fm_lret hx hb hr hlk hst hH dX3_determinant_129
  · replace h := her _ hx1
    cases h
    subst hQ
    exact fm_lret hx hb hr hlk hst hH hdg
/-! RX3.treesOf(LFormationist$Net;I)J -/
abbrev rmX3_treesOf : Room := { frames := 4, cells := 0, slots := 0, locals := 92 }
def mX3_treesOf (x2 : Int32) (σ : fm_S) : Option (Int64 × fm_S) :=
  if x2 = 0 then
    some ((0 : Int64), σ)
  else
    mb1 (mJ6_numberOfTrailingZeros_0f7a4 x2) fun r7 =>
    mb1 (mX1_without x2 r7) fun r16 =>
    mb2 (mX3_fill r16 σ) fun r19 σ19 =>
    mb2 (mX3_determinant r19 σ19) fun r22 σ22 =>
    some (r22, σ22)
set_option maxHeartbeats 4000000 in
set_option maxRecDepth 100000 in
theorem kX3_treesOf (l : Launch) (K : fm_K) {x2 : Int32} {σ : fm_S} {r : Int64} {σ' : fm_S} (h : mX3_treesOf x2 σ = some (r, σ')) : fm_CL l yX3_treesOf wsX3_treesOf rmX3_treesOf K [.ref (K.2.2.2 30), .ref (K.2.2.2 20), .int x2] σ r σ' := by
  intro sz
  refine fm_start (Qc := fun sz => fm_QL K r σ' sz) (cc := cX3_treesOf) (maxL := 4) (ret := (some .long)) (by decide) rfl (Nat.le_of_ble_eq_true rfl) ?_
  intro p e s m args below meth c C hr hlk hst hH ls hl
  have C : CallFix p m c cX3_treesOf 4 s args wsX3_treesOf RX3 := C
  obtain ⟨hx, hb, hml, hown, hts⟩ := id C
  have hA : ∀ q, fm_A K s.heap.size q → fm_A K s.heap.size q := fun _ h => h
  have hl : lv_has ls 4 [(0, .ref (K.2.2.2 30)), (1, .ref (K.2.2.2 20)), (2, .int x2)] := hl
  generalize hQ : MQ below _ args s _ _ _ = Q
  rw [mX3_treesOf] at h
  refine lv_iload_n hx hb dX3_treesOf_0 rfl (lv_at hl 2 rfl) ?_
  refine lv_if_ne (tgt := 6) hx hb dX3_treesOf_1 (by decide) (fun hc => ?_) (fun hc => ?_)
  · replace h := mi_neg hc h
    refine lv_iload_n hx hb dX3_treesOf_6 rfl (lv_at hl 2 rfl) ?_
    obtain ⟨r7, h7, h⟩ := mi_b1 h
    refine fm_ci (va_runS (As := [.int x2]) (rest := []) C (kJ6_numberOfTrailingZeros_0f7a4 l K h7 _) (va_cwS 1 hts gX3_treesOf_J6_numberOfTrailingZeros_0f7a4 rfl rfl rfl (by decide +kernel) ⟨(Nat.le_of_ble_eq_true rfl), (Nat.le_of_ble_eq_true rfl)⟩) ⟨fm_blind, fm_pre hst hA hH⟩ rfl rfl hl.1 rfl (lv_room (Nat.le_of_ble_eq_true rfl)) dX3_treesOf_7 ⟨(Nat.le_of_ble_eq_true rfl), (Nat.le_of_ble_eq_true rfl)⟩) hA hH (fun H locs hH => ?_)
    refine lv_istore_n (lv' := [(3, .int r7), (0, .ref (K.2.2.2 30)), (1, .ref (K.2.2.2 20)), (2, .int x2)]) hx hb dX3_treesOf_10 rfl hl (by decide) rfl (fun ls hl => ?_)
    refine lv_aload_n hx hb dX3_treesOf_11 rfl (lv_at hl 1 rfl) ?_
    refine lv_aload_n hx hb dX3_treesOf_12 rfl (lv_at hl 1 rfl) ?_
    refine lv_aload_n hx hb dX3_treesOf_13 rfl (lv_at hl 2 rfl) ?_
    refine lv_iload_n hx hb dX3_treesOf_14 rfl (lv_at hl 3 rfl) ?_
    refine lv_iload_n hx hb dX3_treesOf_15 rfl (lv_at hl 0 rfl) ?_
    obtain ⟨r16, h16, h⟩ := mi_b1 h
    refine fm_ci (va_runSN (As := [.int x2, .int r7]) (rest := [.ref (K.2.2.2 20), .ref (K.2.2.2 30), .ref (K.2.2.2 30)]) C (kX1_without l K h16 _) ⟨va_cnB 2 hts gX3_treesOf_X1_without_n22 rfl rfl rfl (hst.2.1 (RX3, 22, yX1_without) (List.mem_of_getElem? (i := 8) rfl)) (hts (.initialized RX1) (List.mem_of_getElem? (i := 7) rfl)) (by decide +kernel) ⟨(Nat.le_of_ble_eq_true rfl), (Nat.le_of_ble_eq_true rfl)⟩, (hts (.static yX1_without) (List.mem_of_getElem? (i := 6) rfl)), trivial⟩ ⟨fm_blind, fm_pre hst hA hH⟩ rfl rfl hl.1 rfl (lv_room (Nat.le_of_ble_eq_true rfl)) dX3_treesOf_16 ⟨(Nat.le_of_ble_eq_true rfl), (Nat.le_of_ble_eq_true rfl)⟩) hA hH (fun H locs hH => ?_)
    obtain ⟨r19, σ19, h19, h⟩ := mi_b2 h
    refine fm_ci (va_runV (As := [.ref (K.2.2.2 20), .int r16]) (rest := [.ref (K.2.2.2 30)]) C (kX3_fill l K h19 _) (cwV 2 hts gX3_treesOf_X3_fill rfl rfl rfl (by decide +kernel) ⟨(Nat.le_of_ble_eq_true rfl), (Nat.le_of_ble_eq_true rfl)⟩) ⟨fm_blind, fm_recv hst hH (q := 30) (fm_inb (by decide)) rfl (fm_ob_30 _ _) rfl, fm_pre hst hA hH⟩ rfl rfl hl.1 rfl (lv_room (Nat.le_of_ble_eq_true rfl)) dX3_treesOf_19 ⟨(Nat.le_of_ble_eq_true rfl), (Nat.le_of_ble_eq_true rfl)⟩) hA hH (fun H locs hH => ?_)
    obtain ⟨r22, σ22, h22, h⟩ := mi_b2 h
    refine fm_cl (va_runV (As := [.int r19]) (rest := []) C (kX3_determinant l K h22 _) (cwV 1 hts gX3_treesOf_X3_determinant rfl rfl rfl (by decide +kernel) ⟨(Nat.le_of_ble_eq_true rfl), (Nat.le_of_ble_eq_true rfl)⟩) ⟨fm_blind, fm_recv hst hH (q := 30) (fm_inb (by decide)) rfl (fm_ob_30 _ _) rfl, fm_pre hst hA hH⟩ rfl rfl hl.1 rfl (lv_room (Nat.le_of_ble_eq_true rfl)) dX3_treesOf_22 ⟨(Nat.le_of_ble_eq_true rfl), (Nat.le_of_ble_eq_true rfl)⟩) hA hH (fun H locs hH => ?_)
    cases h
    subst hQ
    exact fm_lret hx hb hr hlk hst hH dX3_treesOf_25
  · replace h := mi_pos hc h
    refine lv_lconst (v := 0) hx hb dX3_treesOf_4 (by decide) ?_
    cases h
    subst hQ
    exact fm_lret hx hb hr hlk hst hH dX3_treesOf_5
