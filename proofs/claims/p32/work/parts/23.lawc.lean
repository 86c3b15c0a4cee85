/-! RL.spare(LFormationist;II)I -/
abbrev rmL_spare : Room := { frames := 7, cells := 1, slots := 6, locals := 165 }
def mL_spare (x1 : Int32) (x2 : Int32) (σ : fm_S) : Option (Int32 × fm_S) :=
  mh2 (mX4_isSpare x1 x2 σ) (fun r3 σ3 =>
    if r3 = 0 then
      some ((0 : Int32), σ3)
    else
      some ((1 : Int32), σ3)) (fun E σx3 =>
    if E = "java/util/NoSuchElementException" then
      some ((-1 : Int32), σx3)
    else
      none)
set_option maxHeartbeats 4000000 in
set_option maxRecDepth 100000 in
theorem kL_spare (l : Launch) (K : fm_K) (hfl : l.stackTraces = false) {x1 : Int32} {x2 : Int32} {σ : fm_S} {r : Int32} {σ' : fm_S} (h : mL_spare x1 x2 σ = some (r, σ')) : fm_WI l yL_spare wsL_spare rmL_spare K [.ref (K.2.2.2 0), .int x1, .int x2] σ r σ' 1 6 := by
  intro sz
  refine fm_startW (hh := [(0, 14, 15, 77)]) (Qc := fun sz => fm_QI K r σ' sz) (cc := cL_spare) (maxL := 4) (ret := (some .int)) (by decide) rfl (Nat.le_of_ble_eq_true rfl) ?_
  intro p e s m args below meth c C hr hlk htab hst hH ls hl
  have C : CallFix p m c cL_spare 4 s args wsL_spare RL := C
  obtain ⟨hx, hb, hml, hown, hts⟩ := id C
  have hA : ∀ q, fm_A K s.heap.size q → fm_A K s.heap.size q := fun _ h => h
  have hl : lv_has ls 4 [(0, .ref (K.2.2.2 0)), (1, .int x1), (2, .int x2)] := hl
  generalize hQ : MQ below _ args s _ _ _ = Q
  rw [mL_spare] at h
  refine lv_aload_n hx hb dL_spare_0 rfl (lv_at hl 0 rfl) ?_
  refine lv_iload_n hx hb dL_spare_1 rfl (lv_at hl 1 rfl) ?_
  refine lv_iload_n hx hb dL_spare_2 rfl (lv_at hl 2 rfl) ?_
  obtain ⟨x3_, h3, hok, her⟩ := mi_h2 h
  refine fm_cxi (vx_runV (As := [.int x1, .int x2]) (rest := []) C (kX4_isSpare l K hfl h3 _) (cwV 2 hts gL_spare_X4_isSpare rfl rfl rfl (by decide +kernel) ⟨(Nat.le_of_ble_eq_true rfl), (Nat.le_of_ble_eq_true rfl)⟩) ⟨fm_blind, fm_recv hst hH (q := 0) (fm_inb (by decide)) rfl (fm_ob_0 _ _) rfl, fm_pre hst hA hH⟩ rfl rfl hl.1 rfl (lv_room (Nat.le_of_ble_eq_true rfl)) dL_spare_3 ⟨(Nat.le_of_ble_eq_true rfl), (Nat.le_of_ble_eq_true rfl)⟩) hA hH (fun E σx3 ce q9 H locs hx1 hH hce hcv hcl => ?_) (fun r3 σ3 H locs hx1 hH => ?_)
  · replace h := her _ _ hx1
    clear hok her
    refine vx_widen (k := 1) (n := 6) (Nat.le_of_ble_eq_true rfl) (Nat.le_of_ble_eq_true rfl) ?_
    by_cases hE : E = "java/util/NoSuchElementException"
    · subst hE
      replace h := mi_pos rfl h
      refine vx_catch (own := RL) (name := "java/util/NoSuchElementException") hown [] ⟨0, 14, 15, 77⟩ [] htab (fun z hz => nomatch hz) (by decide) (by decide) (hts (.classLink RL 77 "java/util/NoSuchElementException") (List.mem_of_getElem? (i := 1) rfl)) (va_Nw.use rfl (hst.2.2.2.2.2.1 _ (List.mem_of_getElem? (i := 3) rfl))) hce hcv hcl ?_
      refine lv_astore_n (lv' := [(3, .ref q9), (0, .ref (K.2.2.2 0)), (1, .int x1), (2, .int x2)]) hx hb dL_spare_15 rfl hl (by decide) rfl (fun ls hl => ?_)
      refine lv_iconst (v := -1) hx hb dL_spare_16 (by decide) ?_
      cases h
      subst hQ
      exact fm_iretW hx hb hr hlk hst hH (Nat.le_of_ble_eq_true rfl) (Nat.le_of_ble_eq_true rfl) dL_spare_17
    · replace h := mi_neg hE h
      cases h
  · replace h := hok _ _ hx1
    clear hok her
    refine W.widen (k := 1) (n := 6) (Nat.le_of_ble_eq_true rfl) (Nat.le_of_ble_eq_true rfl) ?_
    refine lv_if_eq (tgt := 13) hx hb dL_spare_6 (by decide) (fun hc => ?_) (fun hc => ?_)
    · replace h := mi_pos hc h
      refine lv_iconst (v := 0) hx hb dL_spare_13 (by decide) ?_
      cases h
      subst hQ
      exact fm_iretW hx hb hr hlk hst hH (Nat.le_of_ble_eq_true rfl) (Nat.le_of_ble_eq_true rfl) dL_spare_14
    · replace h := mi_neg hc h
      refine lv_iconst (v := 1) hx hb dL_spare_9 (by decide) ?_
      refine lv_goto (tgt := 14) hx hb dL_spare_10 (by decide) ?_
      cases h
      subst hQ
      exact fm_iretW hx hb hr hlk hst hH (Nat.le_of_ble_eq_true rfl) (Nat.le_of_ble_eq_true rfl) dL_spare_14
/-! RL.isFigure(LFormationist;[I[II)Z -/
abbrev rmL_isFigure : Room := { frames := 8, cells := 1, slots := 6, locals := 188 }
def mL_isFigure_L23 : Nat → Int32 → Int32 → Option (Int32)
  | 0, _, _ => none
  | n + 1, x6, x7 =>
    if (5 : Int32) ≤ x7 then
      some x7
    else
      if ((x6 >>> (x7 &&& 31)) &&& (1 : Int32)) = 0 then
        mL_isFigure_L23 n x6 (x7 + 1)
      else
        some x7
set_option maxHeartbeats 4000000 in
set_option maxRecDepth 100000 in
theorem wL_isFigure_L23 {p : Program} {l : Launch} {e : Env} {s : State} {m : MethodId} {args : Array Value} {below : List Frame} {meth : Method} {c : Code} {Q : State → Prop} {K : fm_K} {A : Nat → Prop} (C : CallFix p m c cL_isFigure 13 s args wsL_isFigure RL) (hst : fm_st K A s s.heap) (hA : ∀ q, fm_A K s.heap.size q → A q) :
    ∀ (n : Nat) (x6 : Int32) (x7 : Int32) (σ : fm_S) (o7 : Int32), mL_isFigure_L23 n x6 x7 = some o7 → ∀ (x3 : Int32)  (x4 : Int32)  (x5 : Int32), (∀ (ls : Array Slot) (H : Heap) (locs : List Loc), lv_has ls 13 [(0, .ref (K.2.2.2 0)), (1, .ref (K.2.2.2 40)), (3, .int x3), (4, .int x4), (5, .int x5), (6, .int x6), (7, .int o7)] → fm_H K σ A s H locs → W p l e rmL_isFigure s m args below meth c H locs 0 0 Q (F0 m 45 ls [])) → ∀ (ls : Array Slot) (H : Heap) (locs : List Loc), lv_has ls 13 [(0, .ref (K.2.2.2 0)), (1, .ref (K.2.2.2 40)), (3, .int x3), (4, .int x4), (5, .int x5), (6, .int x6), (7, .int x7)] → fm_H K σ A s H locs → W p l e rmL_isFigure s m args below meth c H locs 0 0 Q (F0 m 23 ls []) := by
  obtain ⟨hx, hb, hml, hown, hts⟩ := id C
  intro n
  induction n with
  | zero => intro x6 x7 σ o7 h; simp [mL_isFigure_L23] at h
  | succ n ih =>
    intro x6 x7 σ o7 h x3 x4 x5 kk ls H locs hl hH
    rw [mL_isFigure_L23] at h
    refine lv_iload hx hb dL_isFigure_23 (lv_at hl 6 rfl) ?_
    refine lv_iconst (v := 5) hx hb dL_isFigure_25 (by decide) ?_
    refine lv_icmp_ge (tgt := 45) hx hb dL_isFigure_26 (by decide) (fun hc => ?_) (fun hc => ?_)
    · replace h := mi_pos hc h
      cases h
      exact kk _ _ _ (lv_sub hl [0, 1, 2, 3, 4, 5, 6] rfl) hH
    · replace h := mi_neg hc h
      refine lv_iload hx hb dL_isFigure_29 (lv_at hl 5 rfl) ?_
      refine lv_iload hx hb dL_isFigure_31 (lv_at hl 6 rfl) ?_
      refine lv_ishr hx hb dL_isFigure_33 ?_
      refine lv_iconst (v := 1) hx hb dL_isFigure_34 (by decide) ?_
      refine lv_iand hx hb dL_isFigure_35 ?_
      refine lv_if_ne (tgt := 45) hx hb dL_isFigure_36 (by decide) (fun hc => ?_) (fun hc => ?_)
      · replace h := mi_neg hc h
        cases h
        exact kk _ _ _ (lv_sub hl [0, 1, 2, 3, 4, 5, 6] rfl) hH
      · replace h := mi_pos hc h
        refine lv_iinc (v := (x7 + 1)) (lv' := [(7, .int (x7 + 1)), (0, .ref (K.2.2.2 0)), (1, .ref (K.2.2.2 40)), (3, .int x3), (4, .int x4), (5, .int x5), (6, .int x6)]) hx hb dL_isFigure_39 hl (k := 6) rfl rfl (by decide) rfl (fun ls hl => ?_)
        refine lv_goto (tgt := 23) hx hb dL_isFigure_42 (by decide) ?_
        exact ih _ _ _ _ h _ _ _ kk _ _ _ (lv_sub hl [1, 2, 3, 4, 5, 6, 0] rfl) hH
def mL_isFigure (x3 : Int32) (σ : fm_S) : Option (Int32 × fm_S) :=
  mb1 (mL_links σ) fun r2 =>
  mb1 (mL_rank r2) fun r9 =>
  mb1 (mL_up σ) fun r15 =>
  mb1 (mL_isFigure_L23 fG r15 (0 : Int32)) fun y23_7 =>
  mb1 (show Option (Int32) from
    if r15 = 0 then
      some ((0 : Int32))
    else
      mb1 (mL_group r2 y23_7) fun r54 =>
      if r54 = r15 then
        some ((1 : Int32))
      else
        some ((0 : Int32))) fun v1_0 =>
  mb2 (mX4_trees σ) fun r70 σ70 =>
  mb1 (show Option (Int64) from
    if v1_0 = 0 then
      some ((0 : Int64))
    else
      mb1 (mL_trees r2 r15) fun r82 =>
      some r82) fun v2_0 =>
  mb2 (show Option (Int32 × fm_S) from
    if (lg_cmp r70 v2_0) = 0 then
      mb2 (mX4_rank σ70) fun r94 σ94 =>
      if r94 = r9 then
        mb2 (mX4_rankByCounting σ94) fun r103 σ103 =>
        if r103 = r9 then
          mb2 (mX4_isRigid σ103) fun r112 σ112 =>
          mb1 (show Option (Int32) from
            if v1_0 = 0 then
              some ((0 : Int32))
            else
              mb1 (mL_ones r15) fun r122 =>
              if r122 ≤ (1 : Int32) then
                some ((0 : Int32))
              else
                mb1 (mL_ones r15) fun r134 =>
                if r9 = (((2 : Int32) * r134) - (3 : Int32)) then
                  some ((1 : Int32))
                else
                  some ((0 : Int32))) fun v5_0 =>
          if r112 = v5_0 then
            some ((1 : Int32), σ112)
          else
            some ((0 : Int32), σ112)
        else
          some ((0 : Int32), σ103)
      else
        some ((0 : Int32), σ94)
    else
      some ((0 : Int32), σ70)) fun v4_0 σ4 =>
  if ((40 : Int32) < 0 ∨ 48 ≤ (40 : Int32).toNatClampNeg) then none else
  if (rI σ4 40 (40 : Int32)) = 0 then none else
  mb1 (some (x3 - x3 / (rI σ4 40 (40 : Int32)) * (rI σ4 40 (40 : Int32)))) fun u10_8 =>
  mb1 (some ((x3 / (5 : Int32)) - (x3 / (5 : Int32)) / (rI σ4 40 (40 : Int32)) * (rI σ4 40 (40 : Int32)))) fun u11_9 =>
  mb1 (show Option (Int32) from
    if u10_8 = u11_9 then
      some ((0 : Int32))
    else
      mb1 (mL_pair u10_8 u11_9) fun r189 =>
      if ((r2 >>> (r189 &&& 31)) &&& (1 : Int32)) = (1 : Int32) then
        some ((1 : Int32))
      else
        some ((0 : Int32))) fun v10_0 =>
  if v4_0 = 0 then
    some ((0 : Int32), σ4)
  else
    mb2 (mL_spare u10_8 u11_9 σ4) fun r216 σ216 =>
    mb1 (show Option (Int32) from
      if v10_0 = 0 then
        some ((-1 : Int32))
      else
        mb1 (mL_pair u10_8 u11_9) fun r235 =>
        mb1 (mL_rank (r2 &&& (((1 : Int32) <<< (r235 &&& 31)) ^^^ (-1 : Int32)))) fun r242 =>
        if r242 = r9 then
          some ((1 : Int32))
        else
          some ((0 : Int32))) fun v11_0 =>
    if r216 = v11_0 then
      some ((1 : Int32), σ216)
    else
      some ((0 : Int32), σ216)
set_option maxHeartbeats 4000000 in
set_option maxRecDepth 100000 in
theorem kL_isFigure (l : Launch) (K : fm_K) (hfl : l.stackTraces = false) {x3 : Int32} {σ : fm_S} {r : Int32} {σ' : fm_S} (h : mL_isFigure x3 σ = some (r, σ')) : fm_WI l yL_isFigure wsL_isFigure rmL_isFigure K [.ref (K.2.2.2 0), .ref (K.2.2.2 40), .ref (K.2.2.2 41), .int x3] σ r σ' 1 6 := by
  intro sz
  refine fm_start (Qc := fun sz => fm_QI K r σ' sz) (cc := cL_isFigure) (maxL := 13) (ret := (some .boolean)) (by decide) rfl (Nat.le_of_ble_eq_true rfl) ?_
  intro p e s m args below meth c C hr hlk hst hH ls hl
  have C : CallFix p m c cL_isFigure 13 s args wsL_isFigure RL := C
  obtain ⟨hx, hb, hml, hown, hts⟩ := id C
  have hA : ∀ q, fm_A K s.heap.size q → fm_A K s.heap.size q := fun _ h => h
  have hl : lv_has ls 13 [(0, .ref (K.2.2.2 0)), (1, .ref (K.2.2.2 40)), (2, .ref (K.2.2.2 41)), (3, .int x3)] := hl
  generalize hQ : MQ below _ args s _ _ _ = Q
  rw [mL_isFigure] at h
  refine lv_aload_n hx hb dL_isFigure_0 rfl (lv_at hl 1 rfl) ?_
  refine lv_aload_n hx hb dL_isFigure_1 rfl (lv_at hl 2 rfl) ?_
  obtain ⟨r2, h2, h⟩ := mi_b1 h
  refine fm_ci (va_runS (As := [.ref (K.2.2.2 40), .ref (K.2.2.2 41)]) (rest := []) C (kL_links l K h2 _) (va_cwS 2 hts gL_isFigure_L_links rfl rfl rfl (by decide +kernel) ⟨(Nat.le_of_ble_eq_true rfl), (Nat.le_of_ble_eq_true rfl)⟩) ⟨fm_blind, fm_pre hst hA hH⟩ rfl rfl hl.1 rfl (lv_room (Nat.le_of_ble_eq_true rfl)) dL_isFigure_2 ⟨(Nat.le_of_ble_eq_true rfl), (Nat.le_of_ble_eq_true rfl)⟩) hA hH (fun H locs hH => ?_)
  refine lv_istore (lv' := [(4, .int r2), (0, .ref (K.2.2.2 0)), (1, .ref (K.2.2.2 40)), (2, .ref (K.2.2.2 41)), (3, .int x3)]) hx hb dL_isFigure_5 hl (by decide) rfl (fun ls hl => ?_)
  refine lv_iload hx hb dL_isFigure_7 (lv_at hl 0 rfl) ?_
  obtain ⟨r9, h9, h⟩ := mi_b1 h
  refine fm_ci (va_runS (As := [.int r2]) (rest := []) C (kL_rank l K h9 _) (va_cwS 1 hts gL_isFigure_L_rank rfl rfl rfl (by decide +kernel) ⟨(Nat.le_of_ble_eq_true rfl), (Nat.le_of_ble_eq_true rfl)⟩) ⟨fm_blind, fm_pre hst hA hH⟩ rfl rfl hl.1 rfl (lv_room (Nat.le_of_ble_eq_true rfl)) dL_isFigure_9 ⟨(Nat.le_of_ble_eq_true rfl), (Nat.le_of_ble_eq_true rfl)⟩) hA hH (fun H locs hH => ?_)
  refine lv_istore (lv' := [(5, .int r9), (4, .int r2), (0, .ref (K.2.2.2 0)), (1, .ref (K.2.2.2 40)), (2, .ref (K.2.2.2 41)), (3, .int x3)]) hx hb dL_isFigure_12 hl (by decide) rfl (fun ls hl => ?_)
  refine lv_aload_n hx hb dL_isFigure_14 rfl (lv_at hl 3 rfl) ?_
  obtain ⟨r15, h15, h⟩ := mi_b1 h
  refine fm_ci (va_runS (As := [.ref (K.2.2.2 40)]) (rest := []) C (kL_up l K h15 _) (va_cwS 1 hts gL_isFigure_L_up rfl rfl rfl (by decide +kernel) ⟨(Nat.le_of_ble_eq_true rfl), (Nat.le_of_ble_eq_true rfl)⟩) ⟨fm_blind, fm_pre hst hA hH⟩ rfl rfl hl.1 rfl (lv_room (Nat.le_of_ble_eq_true rfl)) dL_isFigure_15 ⟨(Nat.le_of_ble_eq_true rfl), (Nat.le_of_ble_eq_true rfl)⟩) hA hH (fun H locs hH => ?_)
  refine lv_istore (lv' := [(6, .int r15), (5, .int r9), (4, .int r2), (0, .ref (K.2.2.2 0)), (1, .ref (K.2.2.2 40)), (2, .ref (K.2.2.2 41)), (3, .int x3)]) hx hb dL_isFigure_18 hl (by decide) rfl (fun ls hl => ?_)
  refine lv_iconst (v := 0) hx hb dL_isFigure_20 (by decide) ?_
  refine lv_istore (lv' := [(7, .int (0 : Int32)), (6, .int r15), (5, .int r9), (4, .int r2), (0, .ref (K.2.2.2 0)), (1, .ref (K.2.2.2 40)), (2, .ref (K.2.2.2 41)), (3, .int x3)]) hx hb dL_isFigure_21 hl (by decide) rfl (fun ls hl => ?_)
  obtain ⟨y23_7, h23, h⟩ := mi_b1 h
  refine wL_isFigure_L23 C hst hA _ _ _ _ _ h23 _ _ _ (fun ls H locs hl hH => ?_) _ _ _ (lv_sub hl [4, 5, 7, 3, 2, 1, 0] rfl) hH
  refine lv_iload hx hb dL_isFigure_45 (lv_at hl 5 rfl) ?_
  obtain ⟨v1_0, hd, h2⟩ := mi_b1 h
  have kj : ∀ (ls : Array Slot) (H : Heap) (locs : List Loc), lv_has ls 13 [(0, .ref (K.2.2.2 0)), (1, .ref (K.2.2.2 40)), (3, .int x3), (4, .int r2), (5, .int r9), (6, .int r15)] → fm_H K σ (fm_A K s.heap.size) s H locs → W p l e rmL_isFigure s m args below meth c H locs 0 0 Q (F0 m 67 ls [.int v1_0]) := by
    clear h hd
    intro ls H locs hl hH
    have h := h2
    clear h2
    refine lv_istore (lv' := [(8, .int v1_0), (0, .ref (K.2.2.2 0)), (1, .ref (K.2.2.2 40)), (3, .int x3), (4, .int r2), (5, .int r9), (6, .int r15)]) hx hb dL_isFigure_67 hl (by decide) rfl (fun ls hl => ?_)
    refine lv_aload_n hx hb dL_isFigure_69 rfl (lv_at hl 1 rfl) ?_
    obtain ⟨r70, σ70, h70, h⟩ := mi_b2 h
    refine fm_cl (va_runV (As := []) (rest := []) C (kX4_trees l K h70 _) (cwV 0 hts gL_isFigure_X4_trees rfl rfl rfl (by decide +kernel) ⟨(Nat.le_of_ble_eq_true rfl), (Nat.le_of_ble_eq_true rfl)⟩) ⟨fm_blind, fm_recv hst hH (q := 0) (fm_inb (by decide)) rfl (fm_ob_0 _ _) rfl, fm_pre hst hA hH⟩ rfl rfl hl.1 rfl (lv_room (Nat.le_of_ble_eq_true rfl)) dL_isFigure_70 ⟨(Nat.le_of_ble_eq_true rfl), (Nat.le_of_ble_eq_true rfl)⟩) hA hH (fun H locs hH => ?_)
    refine lv_iload hx hb dL_isFigure_73 (lv_at hl 0 rfl) ?_
    obtain ⟨v2_0, hd, h2⟩ := mi_b1 h
    have kj : ∀ (ls : Array Slot) (H : Heap) (locs : List Loc), lv_has ls 13 [(0, .ref (K.2.2.2 0)), (1, .ref (K.2.2.2 40)), (3, .int x3), (4, .int r2), (5, .int r9), (6, .int r15), (8, .int v1_0)] → fm_H K σ70 (fm_A K s.heap.size) s H locs → W p l e rmL_isFigure s m args below meth c H locs 0 0 Q (F0 m 89 ls [.long v2_0, .long r70]) := by
      clear h hd
      intro ls H locs hl hH
      have h := h2
      clear h2
      refine W.lcmp hx hb dL_isFigure_89 ?_
      obtain ⟨v4_0, σ4, hd, h2⟩ := mi_b2 h
      have kj : ∀ (ls : Array Slot) (H : Heap) (locs : List Loc), lv_has ls 13 [(0, .ref (K.2.2.2 0)), (1, .ref (K.2.2.2 40)), (3, .int x3), (4, .int r2), (5, .int r9)] → fm_H K σ4 (fm_A K s.heap.size) s H locs → W p l e rmL_isFigure s m args below meth c H locs 0 0 Q (F0 m 156 ls [.int v4_0]) := by
        clear h hd
        intro ls H locs hl hH
        have h := h2
        clear h2
        refine lv_istore (lv' := [(9, .int v4_0), (0, .ref (K.2.2.2 0)), (1, .ref (K.2.2.2 40)), (3, .int x3), (4, .int r2), (5, .int r9)]) hx hb dL_isFigure_156 hl (by decide) rfl (fun ls hl => ?_)
        refine lv_iload_n hx hb dL_isFigure_158 rfl (lv_at hl 3 rfl) ?_
        refine lv_aload_n hx hb dL_isFigure_159 rfl (lv_at hl 2 rfl) ?_
        refine lv_bipush (v := 40) hx hb dL_isFigure_160 (by decide) ?_
        obtain ⟨hi6, h⟩ := mi_chk h
        refine fm_ild hx hb hst.1 hH 40 (fm_inb (by decide)) rfl rfl hi6 dL_isFigure_162 ?_
        obtain ⟨hz7, h⟩ := mi_chk h
        refine lv_irem hx hb dL_isFigure_163 hz7 ?_
        obtain ⟨u10_8, hu, h⟩ := mi_b1 h
        rw [Option.some.inj hu]
        clear hu
        refine lv_istore (lv' := [(10, .int u10_8), (9, .int v4_0), (0, .ref (K.2.2.2 0)), (1, .ref (K.2.2.2 40)), (3, .int x3), (4, .int r2), (5, .int r9)]) hx hb dL_isFigure_164 hl (by decide) rfl (fun ls hl => ?_)
        refine lv_iload_n hx hb dL_isFigure_166 rfl (lv_at hl 4 rfl) ?_
        refine lv_iconst (v := 5) hx hb dL_isFigure_167 (by decide) ?_
        refine lv_idiv hx hb dL_isFigure_168 (by decide) ?_
        refine lv_aload_n hx hb dL_isFigure_169 rfl (lv_at hl 3 rfl) ?_
        refine lv_bipush (v := 40) hx hb dL_isFigure_170 (by decide) ?_
        refine fm_ild hx hb hst.1 hH 40 (fm_inb (by decide)) rfl rfl hi6 dL_isFigure_172 ?_
        refine lv_irem hx hb dL_isFigure_173 hz7 ?_
        obtain ⟨u11_9, hu, h⟩ := mi_b1 h
        rw [Option.some.inj hu]
        clear hu
        refine lv_istore (lv' := [(11, .int u11_9), (10, .int u10_8), (9, .int v4_0), (0, .ref (K.2.2.2 0)), (1, .ref (K.2.2.2 40)), (3, .int x3), (4, .int r2), (5, .int r9)]) hx hb dL_isFigure_174 hl (by decide) rfl (fun ls hl => ?_)
        refine lv_iload hx hb dL_isFigure_176 (lv_at hl 1 rfl) ?_
        refine lv_iload hx hb dL_isFigure_178 (lv_at hl 0 rfl) ?_
        obtain ⟨v10_0, hd, h2⟩ := mi_b1 h
        have kj : ∀ (ls : Array Slot) (H : Heap) (locs : List Loc), lv_has ls 13 [(0, .ref (K.2.2.2 0)), (4, .int r2), (5, .int r9), (9, .int v4_0), (10, .int u10_8), (11, .int u11_9)] → fm_H K σ4 (fm_A K s.heap.size) s H locs → W p l e rmL_isFigure s m args below meth c H locs 0 0 Q (F0 m 204 ls [.int v10_0]) := by
          clear h hd
          intro ls H locs hl hH
          have h := h2
          clear h2
          refine lv_istore (lv' := [(12, .int v10_0), (0, .ref (K.2.2.2 0)), (4, .int r2), (5, .int r9), (9, .int v4_0), (10, .int u10_8), (11, .int u11_9)]) hx hb dL_isFigure_204 hl (by decide) rfl (fun ls hl => ?_)
          refine lv_iload hx hb dL_isFigure_206 (lv_at hl 4 rfl) ?_
          refine lv_if_eq (tgt := 262) hx hb dL_isFigure_208 (by decide) (fun hc => ?_) (fun hc => ?_)
          · replace h := mi_pos hc h
            refine lv_iconst (v := 0) hx hb dL_isFigure_262 (by decide) ?_
            cases h
            subst hQ
            exact fm_zretW hx hb hr rfl hlk hst hH (Nat.le_of_ble_eq_true rfl) (Nat.le_of_ble_eq_true rfl) dL_isFigure_263
          · replace h := mi_neg hc h
            refine lv_aload_n hx hb dL_isFigure_211 rfl (lv_at hl 1 rfl) ?_
            refine lv_iload hx hb dL_isFigure_212 (lv_at hl 5 rfl) ?_
            refine lv_iload hx hb dL_isFigure_214 (lv_at hl 6 rfl) ?_
            obtain ⟨r216, σ216, h216, h⟩ := mi_b2 h
            refine fm_ciW (vx_runSW (As := [.ref (K.2.2.2 0), .int u10_8, .int u11_9]) (rest := []) C (kL_spare l K hfl h216 _) (vx_cwSW 3 hts gL_isFigure_L_spare rfl rfl rfl (by decide +kernel) ⟨(Nat.le_of_ble_eq_true rfl), (Nat.le_of_ble_eq_true rfl)⟩) ⟨fm_blind, fm_pre hst hA hH⟩ rfl rfl hl.1 rfl (lv_room (Nat.le_of_ble_eq_true rfl)) dL_isFigure_216 ⟨(Nat.le_of_ble_eq_true rfl), (Nat.le_of_ble_eq_true rfl)⟩) hA hH (fun H locs hH => ?_)
            refine W.widen (k := 1) (n := 6) (Nat.le_of_ble_eq_true rfl) (Nat.le_of_ble_eq_true rfl) ?_
            refine lv_iload hx hb dL_isFigure_219 (lv_at hl 0 rfl) ?_
            obtain ⟨v11_0, hd, h2⟩ := mi_b1 h
            have kj : ∀ (ls : Array Slot) (H : Heap) (locs : List Loc), lv_has ls 13 [] → fm_H K σ216 (fm_A K s.heap.size) s H locs → W p l e rmL_isFigure s m args below meth c H locs 1 6 Q (F0 m 255 ls [.int v11_0, .int r216]) := by
              clear h hd
              intro ls H locs hl hH
              have h := h2
              clear h2
              refine lv_icmp_ne (tgt := 262) hx hb dL_isFigure_255 (by decide) (fun hc => ?_) (fun hc => ?_)
              · replace h := mi_neg hc h
                refine lv_iconst (v := 0) hx hb dL_isFigure_262 (by decide) ?_
                cases h
                subst hQ
                exact fm_zretW hx hb hr rfl hlk hst hH (Nat.le_of_ble_eq_true rfl) (Nat.le_of_ble_eq_true rfl) dL_isFigure_263
              · replace h := mi_pos hc h
                refine lv_iconst (v := 1) hx hb dL_isFigure_258 (by decide) ?_
                refine lv_goto (tgt := 263) hx hb dL_isFigure_259 (by decide) ?_
                cases h
                subst hQ
                exact fm_zretW hx hb hr rfl hlk hst hH (Nat.le_of_ble_eq_true rfl) (Nat.le_of_ble_eq_true rfl) dL_isFigure_263
            replace h := hd
            clear h2 hd
            refine lv_if_ne (tgt := 228) hx hb dL_isFigure_221 (by decide) (fun hc => ?_) (fun hc => ?_)
            · replace h := mi_neg hc h
              refine lv_iload hx hb dL_isFigure_228 (lv_at hl 2 rfl) ?_
              refine lv_iconst (v := 1) hx hb dL_isFigure_230 (by decide) ?_
              refine lv_iload hx hb dL_isFigure_231 (lv_at hl 5 rfl) ?_
              refine lv_iload hx hb dL_isFigure_233 (lv_at hl 6 rfl) ?_
              obtain ⟨r235, h235, h⟩ := mi_b1 h
              refine fm_ci (va_runS (As := [.int u10_8, .int u11_9]) (rest := [.int (1 : Int32), .int r2, .int r216]) C (kL_pair l K h235 _) (va_cwS 2 hts gL_isFigure_L_pair rfl rfl rfl (by decide +kernel) ⟨(Nat.le_of_ble_eq_true rfl), (Nat.le_of_ble_eq_true rfl)⟩) ⟨fm_blind, fm_pre hst hA hH⟩ rfl rfl hl.1 rfl (lv_room (Nat.le_of_ble_eq_true rfl)) dL_isFigure_235 ⟨(Nat.le_of_ble_eq_true rfl), (Nat.le_of_ble_eq_true rfl)⟩) hA hH (fun H locs hH => ?_)
              refine lv_ishl hx hb dL_isFigure_238 ?_
              refine lv_iconst (v := -1) hx hb dL_isFigure_239 (by decide) ?_
              refine lv_ixor hx hb dL_isFigure_240 ?_
              refine lv_iand hx hb dL_isFigure_241 ?_
              obtain ⟨r242, h242, h⟩ := mi_b1 h
              refine fm_ci (va_runS (As := [.int (r2 &&& (((1 : Int32) <<< (r235 &&& 31)) ^^^ (-1 : Int32)))]) (rest := [.int r216]) C (kL_rank l K h242 _) (va_cwS 1 hts gL_isFigure_L_rank rfl rfl rfl (by decide +kernel) ⟨(Nat.le_of_ble_eq_true rfl), (Nat.le_of_ble_eq_true rfl)⟩) ⟨fm_blind, fm_pre hst hA hH⟩ rfl rfl hl.1 rfl (lv_room (Nat.le_of_ble_eq_true rfl)) dL_isFigure_242 ⟨(Nat.le_of_ble_eq_true rfl), (Nat.le_of_ble_eq_true rfl)⟩) hA hH (fun H locs hH => ?_)
              refine lv_iload hx hb dL_isFigure_245 (lv_at hl 3 rfl) ?_
              refine lv_icmp_ne (tgt := 254) hx hb dL_isFigure_247 (by decide) (fun hc => ?_) (fun hc => ?_)
              · replace h := mi_neg hc h
                refine lv_iconst (v := 0) hx hb dL_isFigure_254 (by decide) ?_
                cases h
                exact kj _ _ _ (lv_sub hl [] rfl) hH
              · replace h := mi_pos hc h
                refine lv_iconst (v := 1) hx hb dL_isFigure_250 (by decide) ?_
                refine lv_goto (tgt := 255) hx hb dL_isFigure_251 (by decide) ?_
                cases h
                exact kj _ _ _ (lv_sub hl [] rfl) hH
            · replace h := mi_pos hc h
              refine lv_iconst (v := -1) hx hb dL_isFigure_224 (by decide) ?_
              refine lv_goto (tgt := 255) hx hb dL_isFigure_225 (by decide) ?_
              cases h
              exact kj _ _ _ (lv_sub hl [] rfl) hH
        replace h := hd
        clear h2 hd
        refine lv_icmp_eq (tgt := 203) hx hb dL_isFigure_180 (by decide) (fun hc => ?_) (fun hc => ?_)
        · replace h := mi_pos hc h
          refine lv_iconst (v := 0) hx hb dL_isFigure_203 (by decide) ?_
          cases h
          exact kj _ _ _ (lv_sub hl [3, 6, 7, 2, 1, 0] rfl) hH
        · replace h := mi_neg hc h
          refine lv_iload hx hb dL_isFigure_183 (lv_at hl 6 rfl) ?_
          refine lv_iload hx hb dL_isFigure_185 (lv_at hl 1 rfl) ?_
          refine lv_iload hx hb dL_isFigure_187 (lv_at hl 0 rfl) ?_
          obtain ⟨r189, h189, h⟩ := mi_b1 h
          refine fm_ci (va_runS (As := [.int u10_8, .int u11_9]) (rest := [.int r2]) C (kL_pair l K h189 _) (va_cwS 2 hts gL_isFigure_L_pair rfl rfl rfl (by decide +kernel) ⟨(Nat.le_of_ble_eq_true rfl), (Nat.le_of_ble_eq_true rfl)⟩) ⟨fm_blind, fm_pre hst hA hH⟩ rfl rfl hl.1 rfl (lv_room (Nat.le_of_ble_eq_true rfl)) dL_isFigure_189 ⟨(Nat.le_of_ble_eq_true rfl), (Nat.le_of_ble_eq_true rfl)⟩) hA hH (fun H locs hH => ?_)
          refine lv_ishr hx hb dL_isFigure_192 ?_
          refine lv_iconst (v := 1) hx hb dL_isFigure_193 (by decide) ?_
          refine lv_iand hx hb dL_isFigure_194 ?_
          refine lv_iconst (v := 1) hx hb dL_isFigure_195 (by decide) ?_
          refine lv_icmp_ne (tgt := 203) hx hb dL_isFigure_196 (by decide) (fun hc => ?_) (fun hc => ?_)
          · replace h := mi_neg hc h
            refine lv_iconst (v := 0) hx hb dL_isFigure_203 (by decide) ?_
            cases h
            exact kj _ _ _ (lv_sub hl [3, 6, 7, 2, 1, 0] rfl) hH
          · replace h := mi_pos hc h
            refine lv_iconst (v := 1) hx hb dL_isFigure_199 (by decide) ?_
            refine lv_goto (tgt := 204) hx hb dL_isFigure_200 (by decide) ?_
            cases h
            exact kj _ _ _ (lv_sub hl [3, 6, 7, 2, 1, 0] rfl) hH
      replace h := hd
      clear h2 hd
      refine lv_if_ne (tgt := 155) hx hb dL_isFigure_90 (by decide) (fun hc => ?_) (fun hc => ?_)
      · replace h := mi_neg hc h
        refine lv_iconst (v := 0) hx hb dL_isFigure_155 (by decide) ?_
        cases h
        exact kj _ _ _ (lv_sub hl [0, 1, 2, 3, 4] rfl) hH
      · replace h := mi_pos hc h
        refine lv_aload_n hx hb dL_isFigure_93 rfl (lv_at hl 0 rfl) ?_
        obtain ⟨r94, σ94, h94, h⟩ := mi_b2 h
        refine fm_ci (va_runV (As := []) (rest := []) C (kX4_rank l K h94 _) (cwV 0 hts gL_isFigure_X4_rank rfl rfl rfl (by decide +kernel) ⟨(Nat.le_of_ble_eq_true rfl), (Nat.le_of_ble_eq_true rfl)⟩) ⟨fm_blind, fm_recv hst hH (q := 0) (fm_inb (by decide)) rfl (fm_ob_0 _ _) rfl, fm_pre hst hA hH⟩ rfl rfl hl.1 rfl (lv_room (Nat.le_of_ble_eq_true rfl)) dL_isFigure_94 ⟨(Nat.le_of_ble_eq_true rfl), (Nat.le_of_ble_eq_true rfl)⟩) hA hH (fun H locs hH => ?_)
        refine lv_iload hx hb dL_isFigure_97 (lv_at hl 4 rfl) ?_
        refine lv_icmp_ne (tgt := 155) hx hb dL_isFigure_99 (by decide) (fun hc => ?_) (fun hc => ?_)
        · replace h := mi_neg hc h
          refine lv_iconst (v := 0) hx hb dL_isFigure_155 (by decide) ?_
          cases h
          exact kj _ _ _ (lv_sub hl [0, 1, 2, 3, 4] rfl) hH
        · replace h := mi_pos hc h
          refine lv_aload_n hx hb dL_isFigure_102 rfl (lv_at hl 0 rfl) ?_
          obtain ⟨r103, σ103, h103, h⟩ := mi_b2 h
          refine fm_ci (va_runV (As := []) (rest := []) C (kX4_rankByCounting l K h103 _) (cwV 0 hts gL_isFigure_X4_rankByCounting rfl rfl rfl (by decide +kernel) ⟨(Nat.le_of_ble_eq_true rfl), (Nat.le_of_ble_eq_true rfl)⟩) ⟨fm_blind, fm_recv hst hH (q := 0) (fm_inb (by decide)) rfl (fm_ob_0 _ _) rfl, fm_pre hst hA hH⟩ rfl rfl hl.1 rfl (lv_room (Nat.le_of_ble_eq_true rfl)) dL_isFigure_103 ⟨(Nat.le_of_ble_eq_true rfl), (Nat.le_of_ble_eq_true rfl)⟩) hA hH (fun H locs hH => ?_)
          refine lv_iload hx hb dL_isFigure_106 (lv_at hl 4 rfl) ?_
          refine lv_icmp_ne (tgt := 155) hx hb dL_isFigure_108 (by decide) (fun hc => ?_) (fun hc => ?_)
          · replace h := mi_neg hc h
            refine lv_iconst (v := 0) hx hb dL_isFigure_155 (by decide) ?_
            cases h
            exact kj _ _ _ (lv_sub hl [0, 1, 2, 3, 4] rfl) hH
          · replace h := mi_pos hc h
            refine lv_aload_n hx hb dL_isFigure_111 rfl (lv_at hl 0 rfl) ?_
            obtain ⟨r112, σ112, h112, h⟩ := mi_b2 h
            refine fm_ci (va_runV (As := []) (rest := []) C (kX4_isRigid l K h112 _) (cwV 0 hts gL_isFigure_X4_isRigid rfl rfl rfl (by decide +kernel) ⟨(Nat.le_of_ble_eq_true rfl), (Nat.le_of_ble_eq_true rfl)⟩) ⟨fm_blind, fm_recv hst hH (q := 0) (fm_inb (by decide)) rfl (fm_ob_0 _ _) rfl, fm_pre hst hA hH⟩ rfl rfl hl.1 rfl (lv_room (Nat.le_of_ble_eq_true rfl)) dL_isFigure_112 ⟨(Nat.le_of_ble_eq_true rfl), (Nat.le_of_ble_eq_true rfl)⟩) hA hH (fun H locs hH => ?_)
            refine lv_iload hx hb dL_isFigure_115 (lv_at hl 6 rfl) ?_
            obtain ⟨v5_0, hd, h2⟩ := mi_b1 h
            have kj : ∀ (ls : Array Slot) (H : Heap) (locs : List Loc), lv_has ls 13 [(0, .ref (K.2.2.2 0)), (1, .ref (K.2.2.2 40)), (3, .int x3), (4, .int r2), (5, .int r9)] → fm_H K σ112 (fm_A K s.heap.size) s H locs → W p l e rmL_isFigure s m args below meth c H locs 0 0 Q (F0 m 148 ls [.int v5_0, .int r112]) := by
              clear h hd
              intro ls H locs hl hH
              have h := h2
              clear h2
              refine lv_icmp_ne (tgt := 155) hx hb dL_isFigure_148 (by decide) (fun hc => ?_) (fun hc => ?_)
              · replace h := mi_neg hc h
                refine lv_iconst (v := 0) hx hb dL_isFigure_155 (by decide) ?_
                cases h
                exact kj _ _ _ (lv_sub hl [0, 1, 2, 3, 4] rfl) hH
              · replace h := mi_pos hc h
                refine lv_iconst (v := 1) hx hb dL_isFigure_151 (by decide) ?_
                refine lv_goto (tgt := 156) hx hb dL_isFigure_152 (by decide) ?_
                cases h
                exact kj _ _ _ (lv_sub hl [0, 1, 2, 3, 4] rfl) hH
            replace h := hd
            clear h2 hd
            refine lv_if_eq (tgt := 147) hx hb dL_isFigure_117 (by decide) (fun hc => ?_) (fun hc => ?_)
            · replace h := mi_pos hc h
              refine lv_iconst (v := 0) hx hb dL_isFigure_147 (by decide) ?_
              cases h
              exact kj _ _ _ (lv_sub hl [0, 1, 2, 3, 4] rfl) hH
            · replace h := mi_neg hc h
              refine lv_iload hx hb dL_isFigure_120 (lv_at hl 5 rfl) ?_
              obtain ⟨r122, h122, h⟩ := mi_b1 h
              refine fm_ci (va_runS (As := [.int r15]) (rest := [.int r112]) C (kL_ones l K h122 _) (va_cwS 1 hts gL_isFigure_L_ones rfl rfl rfl (by decide +kernel) ⟨(Nat.le_of_ble_eq_true rfl), (Nat.le_of_ble_eq_true rfl)⟩) ⟨fm_blind, fm_pre hst hA hH⟩ rfl rfl hl.1 rfl (lv_room (Nat.le_of_ble_eq_true rfl)) dL_isFigure_122 ⟨(Nat.le_of_ble_eq_true rfl), (Nat.le_of_ble_eq_true rfl)⟩) hA hH (fun H locs hH => ?_)
              refine lv_iconst (v := 1) hx hb dL_isFigure_125 (by decide) ?_
              refine lv_icmp_le (tgt := 147) hx hb dL_isFigure_126 (by decide) (fun hc => ?_) (fun hc => ?_)
              · replace h := mi_pos hc h
                refine lv_iconst (v := 0) hx hb dL_isFigure_147 (by decide) ?_
                cases h
                exact kj _ _ _ (lv_sub hl [0, 1, 2, 3, 4] rfl) hH
              · replace h := mi_neg hc h
                refine lv_iload hx hb dL_isFigure_129 (lv_at hl 4 rfl) ?_
                refine lv_iconst (v := 2) hx hb dL_isFigure_131 (by decide) ?_
                refine lv_iload hx hb dL_isFigure_132 (lv_at hl 5 rfl) ?_
                obtain ⟨r134, h134, h⟩ := mi_b1 h
                refine fm_ci (va_runS (As := [.int r15]) (rest := [.int (2 : Int32), .int r9, .int r112]) C (kL_ones l K h134 _) (va_cwS 1 hts gL_isFigure_L_ones rfl rfl rfl (by decide +kernel) ⟨(Nat.le_of_ble_eq_true rfl), (Nat.le_of_ble_eq_true rfl)⟩) ⟨fm_blind, fm_pre hst hA hH⟩ rfl rfl hl.1 rfl (lv_room (Nat.le_of_ble_eq_true rfl)) dL_isFigure_134 ⟨(Nat.le_of_ble_eq_true rfl), (Nat.le_of_ble_eq_true rfl)⟩) hA hH (fun H locs hH => ?_)
                refine lv_imul hx hb dL_isFigure_137 ?_
                refine lv_iconst (v := 3) hx hb dL_isFigure_138 (by decide) ?_
                refine lv_isub hx hb dL_isFigure_139 ?_
                refine lv_icmp_ne (tgt := 147) hx hb dL_isFigure_140 (by decide) (fun hc => ?_) (fun hc => ?_)
                · replace h := mi_neg hc h
                  refine lv_iconst (v := 0) hx hb dL_isFigure_147 (by decide) ?_
                  cases h
                  exact kj _ _ _ (lv_sub hl [0, 1, 2, 3, 4] rfl) hH
                · replace h := mi_pos hc h
                  refine lv_iconst (v := 1) hx hb dL_isFigure_143 (by decide) ?_
                  refine lv_goto (tgt := 148) hx hb dL_isFigure_144 (by decide) ?_
                  cases h
                  exact kj _ _ _ (lv_sub hl [0, 1, 2, 3, 4] rfl) hH
    replace h := hd
    clear h2 hd
    refine lv_if_eq (tgt := 88) hx hb dL_isFigure_75 (by decide) (fun hc => ?_) (fun hc => ?_)
    · replace h := mi_pos hc h
      refine lv_lconst (v := 0) hx hb dL_isFigure_88 (by decide) ?_
      cases h
      exact kj _ _ _ (lv_sub hl [1, 2, 3, 4, 5, 6, 0] rfl) hH
    · replace h := mi_neg hc h
      refine lv_iload hx hb dL_isFigure_78 (lv_at hl 4 rfl) ?_
      refine lv_iload hx hb dL_isFigure_80 (lv_at hl 6 rfl) ?_
      obtain ⟨r82, h82, h⟩ := mi_b1 h
      refine fm_cl (va_runS (As := [.int r2, .int r15]) (rest := [.long r70]) C (kL_trees l K h82 _) (va_cwS 2 hts gL_isFigure_L_trees rfl rfl rfl (by decide +kernel) ⟨(Nat.le_of_ble_eq_true rfl), (Nat.le_of_ble_eq_true rfl)⟩) ⟨fm_blind, fm_pre hst hA hH⟩ rfl rfl hl.1 rfl (lv_room (Nat.le_of_ble_eq_true rfl)) dL_isFigure_82 ⟨(Nat.le_of_ble_eq_true rfl), (Nat.le_of_ble_eq_true rfl)⟩) hA hH (fun H locs hH => ?_)
      refine lv_goto (tgt := 89) hx hb dL_isFigure_85 (by decide) ?_
      cases h
      exact kj _ _ _ (lv_sub hl [1, 2, 3, 4, 5, 6, 0] rfl) hH
  replace h := hd
  clear h2 hd
  refine lv_if_eq (tgt := 66) hx hb dL_isFigure_47 (by decide) (fun hc => ?_) (fun hc => ?_)
  · replace h := mi_pos hc h
    refine lv_iconst (v := 0) hx hb dL_isFigure_66 (by decide) ?_
    cases h
    exact kj _ _ _ (lv_sub hl [0, 1, 2, 3, 4, 5] rfl) hH
  · replace h := mi_neg hc h
    refine lv_iload hx hb dL_isFigure_50 (lv_at hl 3 rfl) ?_
    refine lv_iload hx hb dL_isFigure_52 (lv_at hl 6 rfl) ?_
    obtain ⟨r54, h54, h⟩ := mi_b1 h
    refine fm_ci (va_runS (As := [.int r2, .int y23_7]) (rest := []) C (kL_group l K h54 _) (va_cwS 2 hts gL_isFigure_L_group rfl rfl rfl (by decide +kernel) ⟨(Nat.le_of_ble_eq_true rfl), (Nat.le_of_ble_eq_true rfl)⟩) ⟨fm_blind, fm_pre hst hA hH⟩ rfl rfl hl.1 rfl (lv_room (Nat.le_of_ble_eq_true rfl)) dL_isFigure_54 ⟨(Nat.le_of_ble_eq_true rfl), (Nat.le_of_ble_eq_true rfl)⟩) hA hH (fun H locs hH => ?_)
    refine lv_iload hx hb dL_isFigure_57 (lv_at hl 5 rfl) ?_
    refine lv_icmp_ne (tgt := 66) hx hb dL_isFigure_59 (by decide) (fun hc => ?_) (fun hc => ?_)
    · replace h := mi_neg hc h
      refine lv_iconst (v := 0) hx hb dL_isFigure_66 (by decide) ?_
      cases h
      exact kj _ _ _ (lv_sub hl [0, 1, 2, 3, 4, 5] rfl) hH
    · replace h := mi_pos hc h
      refine lv_iconst (v := 1) hx hb dL_isFigure_62 (by decide) ?_
      refine lv_goto (tgt := 67) hx hb dL_isFigure_63 (by decide) ?_
      cases h
      exact kj _ _ _ (lv_sub hl [0, 1, 2, 3, 4, 5] rfl) hH
/-! RL.error([I[I[I)I -/
abbrev rmL_error : Room := { frames := 2, cells := 0, slots := 0, locals := 49 }
def mL_error_L5 : Nat → Int32 → Int32 → fm_S → Option (Int32)
  | 0, _, _, _ => none
  | n + 1, x3, x4, σ =>
    if (25 : Int32) ≤ x4 then
      some x3
    else
      mb1 (some (x4 / (5 : Int32))) fun u5_1 =>
      mb1 (some (x4 - x4 / (5 : Int32) * (5 : Int32))) fun u6_2 =>
      if u6_2 ≤ u5_1 then
        mL_error_L5 n x3 (x4 + 1) σ
      else
        if ((40 : Int32) < 0 ∨ 48 ≤ (40 : Int32).toNatClampNeg) then none else
        if (rI σ 40 (40 : Int32)) ≤ u6_2 then
          mL_error_L5 n x3 (x4 + 1) σ
        else
          if (x4 < 0 ∨ 25 ≤ x4.toNatClampNeg) then none else
          if (rI σ 42 x4) ≤ 0 then
            mL_error_L5 n x3 (x4 + 1) σ
          else
            mb1 (mL_heard u5_1 σ) fun r51 =>
            if ((r51 >>> (u6_2 &&& 31)) &&& (1 : Int32)) = (1 : Int32) then
              mb1 (mL_square u5_1 u6_2 σ) fun r69 =>
              mb1 (show Option (Int32) from
                if r69 ≤ (rI σ 42 x4) then
                  mb1 (mL_square u5_1 u6_2 σ) fun r104 =>
                  some (((rI σ 42 x4) - r104))
                else
                  mb1 (mL_square u5_1 u6_2 σ) fun r84 =>
                  some ((r84 - (rI σ 42 x4)))) fun v5_0 =>
              mb1 (some (x3 + v5_0)) fun u3_6 =>
              mL_error_L5 n u3_6 (x4 + 1) σ
            else
              mL_error_L5 n x3 (x4 + 1) σ
set_option maxHeartbeats 4000000 in
set_option maxRecDepth 100000 in
theorem wL_error_L5 {p : Program} {l : Launch} {e : Env} {s : State} {m : MethodId} {args : Array Value} {below : List Frame} {meth : Method} {c : Code} {Q : State → Prop} {K : fm_K} {A : Nat → Prop} (C : CallFix p m c cL_error 7 s args wsL_error RL) (hst : fm_st K A s s.heap) (hA : ∀ q, fm_A K s.heap.size q → A q) :
    ∀ (n : Nat) (x3 : Int32) (x4 : Int32) (σ : fm_S) (o3 : Int32), mL_error_L5 n x3 x4 σ = some o3 → (∀ (ls : Array Slot) (H : Heap) (locs : List Loc), lv_has ls 7 [(3, .int o3)] → fm_H K σ A s H locs → W p l e rmL_error s m args below meth c H locs 0 0 Q (F0 m 116 ls [])) → ∀ (ls : Array Slot) (H : Heap) (locs : List Loc), lv_has ls 7 [(0, .ref (K.2.2.2 40)), (1, .ref (K.2.2.2 41)), (2, .ref (K.2.2.2 42)), (3, .int x3), (4, .int x4)] → fm_H K σ A s H locs → W p l e rmL_error s m args below meth c H locs 0 0 Q (F0 m 5 ls []) := by
  obtain ⟨hx, hb, hml, hown, hts⟩ := id C
  intro n
  induction n with
  | zero => intro x3 x4 σ o3 h; simp [mL_error_L5] at h
  | succ n ih =>
    intro x3 x4 σ o3 h kk ls H locs hl hH
    rw [mL_error_L5] at h
    refine lv_iload hx hb dL_error_5 (lv_at hl 4 rfl) ?_
    refine lv_bipush (v := 25) hx hb dL_error_7 (by decide) ?_
    refine lv_icmp_ge (tgt := 116) hx hb dL_error_9 (by decide) (fun hc => ?_) (fun hc => ?_)
    · replace h := mi_pos hc h
      cases h
      exact kk _ _ _ (lv_sub hl [3] rfl) hH
    · replace h := mi_neg hc h
      refine lv_iload hx hb dL_error_12 (lv_at hl 4 rfl) ?_
      refine lv_iconst (v := 5) hx hb dL_error_14 (by decide) ?_
      refine lv_idiv hx hb dL_error_15 (by decide) ?_
      obtain ⟨u5_1, hu, h⟩ := mi_b1 h
      rw [Option.some.inj hu]
      clear hu
      refine lv_istore (lv' := [(5, .int u5_1), (0, .ref (K.2.2.2 40)), (1, .ref (K.2.2.2 41)), (2, .ref (K.2.2.2 42)), (3, .int x3), (4, .int x4)]) hx hb dL_error_16 hl (by decide) rfl (fun ls hl => ?_)
      refine lv_iload hx hb dL_error_18 (lv_at hl 5 rfl) ?_
      refine lv_iconst (v := 5) hx hb dL_error_20 (by decide) ?_
      refine lv_irem hx hb dL_error_21 (by decide) ?_
      obtain ⟨u6_2, hu, h⟩ := mi_b1 h
      rw [Option.some.inj hu]
      clear hu
      refine lv_istore (lv' := [(6, .int u6_2), (5, .int u5_1), (0, .ref (K.2.2.2 40)), (1, .ref (K.2.2.2 41)), (2, .ref (K.2.2.2 42)), (3, .int x3), (4, .int x4)]) hx hb dL_error_22 hl (by decide) rfl (fun ls hl => ?_)
      refine lv_iload hx hb dL_error_24 (lv_at hl 1 rfl) ?_
      refine lv_iload hx hb dL_error_26 (lv_at hl 0 rfl) ?_
      refine lv_icmp_ge (tgt := 110) hx hb dL_error_28 (by decide) (fun hc => ?_) (fun hc => ?_)
      · replace h := mi_pos hc h
        refine lv_iinc (v := (x4 + 1)) (lv' := [(4, .int (x4 + 1)), (6, .int u6_2), (5, .int u5_1), (0, .ref (K.2.2.2 40)), (1, .ref (K.2.2.2 41)), (2, .ref (K.2.2.2 42)), (3, .int x3)]) hx hb dL_error_110 hl (k := 6) rfl rfl (by decide) rfl (fun ls hl => ?_)
        refine lv_goto (tgt := 5) hx hb dL_error_113 (by decide) ?_
        exact ih _ _ _ _ h kk _ _ _ (lv_sub hl [3, 4, 5, 6, 0] rfl) hH
      · replace h := mi_neg hc h
        refine lv_iload hx hb dL_error_31 (lv_at hl 0 rfl) ?_
        refine lv_aload_n hx hb dL_error_33 rfl (lv_at hl 2 rfl) ?_
        refine lv_bipush (v := 40) hx hb dL_error_34 (by decide) ?_
        obtain ⟨hi3, h⟩ := mi_chk h
        refine fm_ild hx hb hst.1 hH 40 (fm_inb (by decide)) rfl rfl hi3 dL_error_36 ?_
        refine lv_icmp_ge (tgt := 110) hx hb dL_error_37 (by decide) (fun hc => ?_) (fun hc => ?_)
        · replace h := mi_pos hc h
          refine lv_iinc (v := (x4 + 1)) (lv' := [(4, .int (x4 + 1)), (6, .int u6_2), (5, .int u5_1), (0, .ref (K.2.2.2 40)), (1, .ref (K.2.2.2 41)), (2, .ref (K.2.2.2 42)), (3, .int x3)]) hx hb dL_error_110 hl (k := 6) rfl rfl (by decide) rfl (fun ls hl => ?_)
          refine lv_goto (tgt := 5) hx hb dL_error_113 (by decide) ?_
          exact ih _ _ _ _ h kk _ _ _ (lv_sub hl [3, 4, 5, 6, 0] rfl) hH
        · replace h := mi_neg hc h
          refine lv_aload_n hx hb dL_error_40 rfl (lv_at hl 4 rfl) ?_
          refine lv_iload hx hb dL_error_41 (lv_at hl 6 rfl) ?_
          obtain ⟨hi4, h⟩ := mi_chk h
          refine fm_ild hx hb hst.1 hH 42 (fm_inb (by decide)) rfl rfl hi4 dL_error_43 ?_
          refine lv_if_le (tgt := 110) hx hb dL_error_44 (by decide) (fun hc => ?_) (fun hc => ?_)
          · replace h := mi_pos hc h
            refine lv_iinc (v := (x4 + 1)) (lv' := [(4, .int (x4 + 1)), (6, .int u6_2), (5, .int u5_1), (0, .ref (K.2.2.2 40)), (1, .ref (K.2.2.2 41)), (2, .ref (K.2.2.2 42)), (3, .int x3)]) hx hb dL_error_110 hl (k := 6) rfl rfl (by decide) rfl (fun ls hl => ?_)
            refine lv_goto (tgt := 5) hx hb dL_error_113 (by decide) ?_
            exact ih _ _ _ _ h kk _ _ _ (lv_sub hl [3, 4, 5, 6, 0] rfl) hH
          · replace h := mi_neg hc h
            refine lv_aload_n hx hb dL_error_47 rfl (lv_at hl 2 rfl) ?_
            refine lv_aload_n hx hb dL_error_48 rfl (lv_at hl 3 rfl) ?_
            refine lv_iload hx hb dL_error_49 (lv_at hl 1 rfl) ?_
            obtain ⟨r51, h51, h⟩ := mi_b1 h
            refine fm_ci (va_runS (As := [.ref (K.2.2.2 40), .ref (K.2.2.2 41), .int u5_1]) (rest := []) C (kL_heard l K h51 _) (va_cwS 3 hts gL_error_L_heard rfl rfl rfl (by decide +kernel) ⟨(Nat.le_of_ble_eq_true rfl), (Nat.le_of_ble_eq_true rfl)⟩) ⟨fm_blind, fm_pre hst hA hH⟩ rfl rfl hl.1 rfl (lv_room (Nat.le_of_ble_eq_true rfl)) dL_error_51 ⟨(Nat.le_of_ble_eq_true rfl), (Nat.le_of_ble_eq_true rfl)⟩) hA hH (fun H locs hH => ?_)
            refine lv_iload hx hb dL_error_54 (lv_at hl 0 rfl) ?_
            refine lv_ishr hx hb dL_error_56 ?_
            refine lv_iconst (v := 1) hx hb dL_error_57 (by decide) ?_
            refine lv_iand hx hb dL_error_58 ?_
            refine lv_iconst (v := 1) hx hb dL_error_59 (by decide) ?_
            refine lv_icmp_ne (tgt := 110) hx hb dL_error_60 (by decide) (fun hc => ?_) (fun hc => ?_)
            · replace h := mi_neg hc h
              refine lv_iinc (v := (x4 + 1)) (lv' := [(4, .int (x4 + 1)), (6, .int u6_2), (5, .int u5_1), (0, .ref (K.2.2.2 40)), (1, .ref (K.2.2.2 41)), (2, .ref (K.2.2.2 42)), (3, .int x3)]) hx hb dL_error_110 hl (k := 6) rfl rfl (by decide) rfl (fun ls hl => ?_)
              refine lv_goto (tgt := 5) hx hb dL_error_113 (by decide) ?_
              exact ih _ _ _ _ h kk _ _ _ (lv_sub hl [3, 4, 5, 6, 0] rfl) hH
            · replace h := mi_pos hc h
              refine lv_iload_n hx hb dL_error_63 rfl (lv_at hl 5 rfl) ?_
              refine lv_aload_n hx hb dL_error_64 rfl (lv_at hl 2 rfl) ?_
              refine lv_iload hx hb dL_error_65 (lv_at hl 1 rfl) ?_
              refine lv_iload hx hb dL_error_67 (lv_at hl 0 rfl) ?_
              obtain ⟨r69, h69, h⟩ := mi_b1 h
              refine fm_ci (va_runS (As := [.ref (K.2.2.2 40), .int u5_1, .int u6_2]) (rest := [.int x3]) C (kL_square l K h69 _) (va_cwS 3 hts gL_error_L_square rfl rfl rfl (by decide +kernel) ⟨(Nat.le_of_ble_eq_true rfl), (Nat.le_of_ble_eq_true rfl)⟩) ⟨fm_blind, fm_pre hst hA hH⟩ rfl rfl hl.1 rfl (lv_room (Nat.le_of_ble_eq_true rfl)) dL_error_69 ⟨(Nat.le_of_ble_eq_true rfl), (Nat.le_of_ble_eq_true rfl)⟩) hA hH (fun H locs hH => ?_)
              refine lv_aload_n hx hb dL_error_72 rfl (lv_at hl 4 rfl) ?_
              refine lv_iload hx hb dL_error_73 (lv_at hl 6 rfl) ?_
              refine fm_ild hx hb hst.1 hH 42 (fm_inb (by decide)) rfl rfl hi4 dL_error_75 ?_
              obtain ⟨v5_0, hd, h2⟩ := mi_b1 h
              have kj : ∀ (ls : Array Slot) (H : Heap) (locs : List Loc), lv_has ls 7 [(0, .ref (K.2.2.2 40)), (1, .ref (K.2.2.2 41)), (2, .ref (K.2.2.2 42)), (4, .int x4)] → fm_H K σ A s H locs → W p l e rmL_error s m args below meth c H locs 0 0 Q (F0 m 108 ls [.int v5_0, .int x3]) := by
                clear h hd
                intro ls H locs hl hH
                have h := h2
                clear h2
                refine lv_iadd hx hb dL_error_108 ?_
                obtain ⟨u3_6, hu, h⟩ := mi_b1 h
                rw [Option.some.inj hu]
                clear hu
                refine lv_istore_n (lv' := [(3, .int u3_6), (0, .ref (K.2.2.2 40)), (1, .ref (K.2.2.2 41)), (2, .ref (K.2.2.2 42)), (4, .int x4)]) hx hb dL_error_109 rfl hl (by decide) rfl (fun ls hl => ?_)
                refine lv_iinc (v := (x4 + 1)) (lv' := [(4, .int (x4 + 1)), (3, .int u3_6), (0, .ref (K.2.2.2 40)), (1, .ref (K.2.2.2 41)), (2, .ref (K.2.2.2 42))]) hx hb dL_error_110 hl (k := 4) rfl rfl (by decide) rfl (fun ls hl => ?_)
                refine lv_goto (tgt := 5) hx hb dL_error_113 (by decide) ?_
                exact ih _ _ _ _ h kk _ _ _ (lv_sub hl [2, 3, 4, 1, 0] rfl) hH
              replace h := hd
              clear h2 hd
              refine lv_icmp_le (tgt := 95) hx hb dL_error_76 (by decide) (fun hc => ?_) (fun hc => ?_)
              · replace h := mi_pos hc h
                refine lv_aload_n hx hb dL_error_95 rfl (lv_at hl 4 rfl) ?_
                refine lv_iload hx hb dL_error_96 (lv_at hl 6 rfl) ?_
                refine fm_ild hx hb hst.1 hH 42 (fm_inb (by decide)) rfl rfl hi4 dL_error_98 ?_
                refine lv_aload_n hx hb dL_error_99 rfl (lv_at hl 2 rfl) ?_
                refine lv_iload hx hb dL_error_100 (lv_at hl 1 rfl) ?_
                refine lv_iload hx hb dL_error_102 (lv_at hl 0 rfl) ?_
                obtain ⟨r104, h104, h⟩ := mi_b1 h
                refine fm_ci (va_runS (As := [.ref (K.2.2.2 40), .int u5_1, .int u6_2]) (rest := [.int (rI σ 42 x4), .int x3]) C (kL_square l K h104 _) (va_cwS 3 hts gL_error_L_square rfl rfl rfl (by decide +kernel) ⟨(Nat.le_of_ble_eq_true rfl), (Nat.le_of_ble_eq_true rfl)⟩) ⟨fm_blind, fm_pre hst hA hH⟩ rfl rfl hl.1 rfl (lv_room (Nat.le_of_ble_eq_true rfl)) dL_error_104 ⟨(Nat.le_of_ble_eq_true rfl), (Nat.le_of_ble_eq_true rfl)⟩) hA hH (fun H locs hH => ?_)
                refine lv_isub hx hb dL_error_107 ?_
                cases h
                exact kj _ _ _ (lv_sub hl [2, 3, 4, 6] rfl) hH
              · replace h := mi_neg hc h
                refine lv_aload_n hx hb dL_error_79 rfl (lv_at hl 2 rfl) ?_
                refine lv_iload hx hb dL_error_80 (lv_at hl 1 rfl) ?_
                refine lv_iload hx hb dL_error_82 (lv_at hl 0 rfl) ?_
                obtain ⟨r84, h84, h⟩ := mi_b1 h
                refine fm_ci (va_runS (As := [.ref (K.2.2.2 40), .int u5_1, .int u6_2]) (rest := [.int x3]) C (kL_square l K h84 _) (va_cwS 3 hts gL_error_L_square rfl rfl rfl (by decide +kernel) ⟨(Nat.le_of_ble_eq_true rfl), (Nat.le_of_ble_eq_true rfl)⟩) ⟨fm_blind, fm_pre hst hA hH⟩ rfl rfl hl.1 rfl (lv_room (Nat.le_of_ble_eq_true rfl)) dL_error_84 ⟨(Nat.le_of_ble_eq_true rfl), (Nat.le_of_ble_eq_true rfl)⟩) hA hH (fun H locs hH => ?_)
                refine lv_aload_n hx hb dL_error_87 rfl (lv_at hl 4 rfl) ?_
                refine lv_iload hx hb dL_error_88 (lv_at hl 6 rfl) ?_
                refine fm_ild hx hb hst.1 hH 42 (fm_inb (by decide)) rfl rfl hi4 dL_error_90 ?_
                refine lv_isub hx hb dL_error_91 ?_
                refine lv_goto (tgt := 108) hx hb dL_error_92 (by decide) ?_
                cases h
                exact kj _ _ _ (lv_sub hl [2, 3, 4, 6] rfl) hH
def mL_error (σ : fm_S) : Option Int32 :=
  mb1 (mL_error_L5 fG (0 : Int32) (0 : Int32) σ) fun y5_3 =>
  some y5_3
set_option maxHeartbeats 4000000 in
set_option maxRecDepth 100000 in
theorem kL_error (l : Launch) (K : fm_K) {σ : fm_S} {r : Int32} (h : mL_error σ = some r) : fm_CI l yL_error wsL_error rmL_error K [.ref (K.2.2.2 40), .ref (K.2.2.2 41), .ref (K.2.2.2 42)] σ r σ := by
  intro sz
  refine fm_start (Qc := fun sz => fm_QI K r σ sz) (cc := cL_error) (maxL := 7) (ret := (some .int)) (by decide) rfl (Nat.le_of_ble_eq_true rfl) ?_
  intro p e s m args below meth c C hr hlk hst hH ls hl
  have C : CallFix p m c cL_error 7 s args wsL_error RL := C
  obtain ⟨hx, hb, hml, hown, hts⟩ := id C
  have hA : ∀ q, fm_A K s.heap.size q → fm_A K s.heap.size q := fun _ h => h
  have hl : lv_has ls 7 [(0, .ref (K.2.2.2 40)), (1, .ref (K.2.2.2 41)), (2, .ref (K.2.2.2 42))] := hl
  generalize hQ : MQ below _ args s _ _ _ = Q
  rw [mL_error] at h
  refine lv_iconst (v := 0) hx hb dL_error_0 (by decide) ?_
  refine lv_istore_n (lv' := [(3, .int (0 : Int32)), (0, .ref (K.2.2.2 40)), (1, .ref (K.2.2.2 41)), (2, .ref (K.2.2.2 42))]) hx hb dL_error_1 rfl hl (by decide) rfl (fun ls hl => ?_)
  refine lv_iconst (v := 0) hx hb dL_error_2 (by decide) ?_
  refine lv_istore (lv' := [(4, .int (0 : Int32)), (3, .int (0 : Int32)), (0, .ref (K.2.2.2 40)), (1, .ref (K.2.2.2 41)), (2, .ref (K.2.2.2 42))]) hx hb dL_error_3 hl (by decide) rfl (fun ls hl => ?_)
  obtain ⟨y5_3, h5, h⟩ := mi_b1 h
  refine wL_error_L5 C hst hA _ _ _ _ _ h5 (fun ls H locs hl hH => ?_) _ _ _ (lv_sub hl [2, 3, 4, 1, 0] rfl) hH
  refine lv_iload_n hx hb dL_error_116 rfl (lv_at hl 0 rfl) ?_
  cases h
  subst hQ
  exact fm_iret hx hb hr hlk hst hH dL_error_117
