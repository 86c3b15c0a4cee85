section
variable {s : State} {args : Array Value}
theorem fx_hat (h1 : ∀ w ∈ fx_at200.filter goodWord, w.before args s = true) (h3 : va_Nw (.castable "java/util/NoSuchElementException" "java/util/NoSuchElementException") s) (h4 : ∀ x ∈ fm_sup, va_Nw (.declares (Bundle.initS x)) s) : ∀ w ∈ fx_at200, w.before args s = true :=
  vx_hat (B := fm_oddw "java/util/NoSuchElementException") h1 fm_bad200 (vx_c (va_Nw.use rfl h3) (vx_c (va_Nw.use rfl (h4 _ (List.mem_of_getElem? (i := 0) rfl))) (vx_c (va_Nw.use rfl (h4 _ (List.mem_of_getElem? (i := 1) rfl))) (vx_c (va_Nw.use rfl (h4 _ (List.mem_of_getElem? (i := 2) rfl))) vx_n))))
end
/-! RX4.isSpare(II)Z -/
abbrev rmX4_isSpare : Room := { frames := 6, cells := 1, slots := 6, locals := 142 }
def mX4_isSpare (x1 : Int32) (x2 : Int32) (σ : fm_S) : Option fm_OI :=
  mb1 (mX4_requireMember x1 σ) fun σ2 =>
  mb1 (mX4_requireMember x2 σ2) fun σ7 =>
  mb1 (mX4_hears x1 x2 σ7) fun r13 =>
  if r13 = 0 then
    some (.error ("java/util/NoSuchElementException", σ7))
  else
    mb1 (mX4_drawNet σ7) fun σ30 =>
    mb2 (mX2_rankOf σ30) fun r41 σ41 =>
    mb1 (mX1_cut20 x1 x2 σ41) fun σ51 =>
    mb2 (mX2_rankOf σ51) fun r62 σ62 =>
    if r62 = r41 then
      some (.ok ((1 : Int32), σ62))
    else
      some (.ok ((0 : Int32), σ62))
set_option maxHeartbeats 4000000 in
set_option maxRecDepth 100000 in
theorem kX4_isSpare (l : Launch) (K : fm_K) (hfl : l.stackTraces = false) {x1 : Int32} {x2 : Int32} {σ : fm_S} {o : fm_OI} (h : mX4_isSpare x1 x2 σ = some o) : fm_XI l yX4_isSpare wsX4_isSpare rmX4_isSpare K [.ref (K.2.2.2 0), .int x1, .int x2] σ o 1 := by
  intro sz
  refine fm_startX (Qc := fun sz => fm_YI K o sz) (XC := fun sz => fm_ZI K o sz) (cc := cX4_isSpare) (maxL := 4) (ret := (some .boolean)) (by decide) rfl (Nat.le_of_ble_eq_true rfl) ?_
  intro p e s m args below meth c C hr hlk hex hst hH ls hl
  have C : CallFix p m c cX4_isSpare 4 s args wsX4_isSpare RX4 := C
  obtain ⟨hx, hb, hml, hown, hts⟩ := id C
  have hA : ∀ q, fm_A K s.heap.size q → fm_A K s.heap.size q := fun _ h => h
  have hl : lv_has ls 4 [(0, .ref (K.2.2.2 0)), (1, .int x1), (2, .int x2)] := hl
  generalize hQ : vx_MQ below _ _ args s _ _ _ = Q
  rw [mX4_isSpare] at h
  refine lv_aload_n hx hb dX4_isSpare_0 rfl (lv_at hl 0 rfl) ?_
  refine lv_iload_n hx hb dX4_isSpare_1 rfl (lv_at hl 1 rfl) ?_
  obtain ⟨σ2, h2, h⟩ := mi_b1 h
  refine fm_cv (va_runV (As := [.int x1]) (rest := []) C (kX4_requireMember l K h2 _) (cwV 1 hts gX4_isSpare_X4_requireMember rfl rfl rfl (by decide +kernel) ⟨(Nat.le_of_ble_eq_true rfl), (Nat.le_of_ble_eq_true rfl)⟩) ⟨fm_blind, fm_recv hst hH (q := 0) (fm_inb (by decide)) rfl (fm_ob_0 _ _) rfl, fm_pre hst hA hH⟩ rfl rfl hl.1 rfl (lv_room (Nat.le_of_ble_eq_true rfl)) dX4_isSpare_2 ⟨(Nat.le_of_ble_eq_true rfl), (Nat.le_of_ble_eq_true rfl)⟩) hA hH (fun H locs hH => ?_)
  refine lv_aload_n hx hb dX4_isSpare_5 rfl (lv_at hl 0 rfl) ?_
  refine lv_iload_n hx hb dX4_isSpare_6 rfl (lv_at hl 2 rfl) ?_
  obtain ⟨σ7, h7, h⟩ := mi_b1 h
  refine fm_cv (va_runV (As := [.int x2]) (rest := []) C (kX4_requireMember l K h7 _) (cwV 1 hts gX4_isSpare_X4_requireMember rfl rfl rfl (by decide +kernel) ⟨(Nat.le_of_ble_eq_true rfl), (Nat.le_of_ble_eq_true rfl)⟩) ⟨fm_blind, fm_recv hst hH (q := 0) (fm_inb (by decide)) rfl (fm_ob_0 _ _) rfl, fm_pre hst hA hH⟩ rfl rfl hl.1 rfl (lv_room (Nat.le_of_ble_eq_true rfl)) dX4_isSpare_7 ⟨(Nat.le_of_ble_eq_true rfl), (Nat.le_of_ble_eq_true rfl)⟩) hA hH (fun H locs hH => ?_)
  refine lv_aload_n hx hb dX4_isSpare_10 rfl (lv_at hl 0 rfl) ?_
  refine lv_iload_n hx hb dX4_isSpare_11 rfl (lv_at hl 1 rfl) ?_
  refine lv_iload_n hx hb dX4_isSpare_12 rfl (lv_at hl 2 rfl) ?_
  obtain ⟨r13, h13, h⟩ := mi_b1 h
  refine fm_ci (va_runV (As := [.int x1, .int x2]) (rest := []) C (kX4_hears l K h13 _) (cwV 2 hts gX4_isSpare_X4_hears rfl rfl rfl (by decide +kernel) ⟨(Nat.le_of_ble_eq_true rfl), (Nat.le_of_ble_eq_true rfl)⟩) ⟨fm_blind, fm_recv hst hH (q := 0) (fm_inb (by decide)) rfl (fm_ob_0 _ _) rfl, fm_pre hst hA hH⟩ rfl rfl hl.1 rfl (lv_room (Nat.le_of_ble_eq_true rfl)) dX4_isSpare_13 ⟨(Nat.le_of_ble_eq_true rfl), (Nat.le_of_ble_eq_true rfl)⟩) hA hH (fun H locs hH => ?_)
  refine lv_if_ne (tgt := 29) hx hb dX4_isSpare_16 (by decide) (fun hc => ?_) (fun hc => ?_)
  · replace h := mi_neg hc h
    refine lv_aload_n hx hb dX4_isSpare_29 rfl (lv_at hl 0 rfl) ?_
    obtain ⟨σ30, h30, h⟩ := mi_b1 h
    refine fm_cv (va_runV (As := []) (rest := []) C (kX4_drawNet l K h30 _) (cwV 0 hts gX4_isSpare_X4_drawNet rfl rfl rfl (by decide +kernel) ⟨(Nat.le_of_ble_eq_true rfl), (Nat.le_of_ble_eq_true rfl)⟩) ⟨fm_blind, fm_recv hst hH (q := 0) (fm_inb (by decide)) rfl (fm_ob_0 _ _) rfl, fm_pre hst hA hH⟩ rfl rfl hl.1 rfl (lv_room (Nat.le_of_ble_eq_true rfl)) dX4_isSpare_30 ⟨(Nat.le_of_ble_eq_true rfl), (Nat.le_of_ble_eq_true rfl)⟩) hA hH (fun H locs hH => ?_)
    refine lv_aload_n hx hb dX4_isSpare_33 rfl (lv_at hl 0 rfl) ?_
    refine fm_getf (T := TX4) (N := 18) hx hb hts (fun _ h => List.mem_cons_of_mem _ (List.mem_append_left _ (List.mem_append_left _ (List.mem_append_left _ (List.mem_append_left _ (List.mem_append_right _ h)))))) hown hst.1 hH 0 (fm_inb (by decide)) rfl (fm_ob_0 _ _) rfl 15 (by decide) (List.mem_of_getElem? (i := 3) rfl) rfl rfl dX4_isSpare_34 ?_
    refine lv_aload_n hx hb dX4_isSpare_37 rfl (lv_at hl 0 rfl) ?_
    refine fm_getf (T := TX4) (N := 18) hx hb hts (fun _ h => List.mem_cons_of_mem _ (List.mem_append_left _ (List.mem_append_left _ (List.mem_append_left _ (List.mem_append_left _ (List.mem_append_right _ h)))))) hown hst.1 hH 0 (fm_inb (by decide)) rfl (fm_ob_0 _ _) rfl 12 (by decide) (List.mem_of_getElem? (i := 4) rfl) rfl rfl dX4_isSpare_38 ?_
    obtain ⟨r41, σ41, h41, h⟩ := mi_b2 h
    refine fm_ci (va_runVN (As := [.ref (K.2.2.2 20)]) (rest := []) C (kX2_rankOf l K h41 _) ⟨va_cnB 1 hts gX4_isSpare_X2_rankOf_n186 rfl rfl rfl (hst.2.1 (RX4, 186, yX2_rankOf) (List.mem_of_getElem? (i := 12) rfl)) (hts (.initialized RX2) (List.mem_of_getElem? (i := 52) rfl)) (by decide +kernel) ⟨(Nat.le_of_ble_eq_true rfl), (Nat.le_of_ble_eq_true rfl)⟩, (hts (.instanceMethod yX2_rankOf) (List.mem_of_getElem? (i := 51) rfl)), (hts (.selects RX2 yX2_rankOf yX2_rankOf) (List.mem_of_getElem? (i := 53) rfl))⟩ ⟨fm_blind, fm_recv hst hH (q := 24) (fm_inb (by decide)) rfl (fm_ob_24 _ _) rfl, fm_pre hst hA hH⟩ rfl rfl hl.1 rfl (lv_room (Nat.le_of_ble_eq_true rfl)) dX4_isSpare_41 ⟨(Nat.le_of_ble_eq_true rfl), (Nat.le_of_ble_eq_true rfl)⟩) hA hH (fun H locs hH => ?_)
    refine lv_istore_n (lv' := [(3, .int r41), (0, .ref (K.2.2.2 0)), (1, .int x1), (2, .int x2)]) hx hb dX4_isSpare_44 rfl hl (by decide) rfl (fun ls hl => ?_)
    refine lv_aload_n hx hb dX4_isSpare_45 rfl (lv_at hl 1 rfl) ?_
    refine fm_getf (T := TX4) (N := 18) hx hb hts (fun _ h => List.mem_cons_of_mem _ (List.mem_append_left _ (List.mem_append_left _ (List.mem_append_left _ (List.mem_append_left _ (List.mem_append_right _ h)))))) hown hst.1 hH 0 (fm_inb (by decide)) rfl (fm_ob_0 _ _) rfl 12 (by decide) (List.mem_of_getElem? (i := 4) rfl) rfl rfl dX4_isSpare_46 ?_
    refine lv_iload_n hx hb dX4_isSpare_49 rfl (lv_at hl 2 rfl) ?_
    refine lv_iload_n hx hb dX4_isSpare_50 rfl (lv_at hl 3 rfl) ?_
    obtain ⟨σ51, h51, h⟩ := mi_b1 h
    refine fm_cv (va_runVN (As := [.int x1, .int x2]) (rest := []) C (kX1_cut20 l K h51 _) ⟨va_cnB 2 hts gX4_isSpare_X1_cut_n116 rfl rfl rfl (hst.2.1 (RX4, 116, yX1_cut) (List.mem_of_getElem? (i := 20) rfl)) (hts (.initialized RX1) (List.mem_of_getElem? (i := 21) rfl)) (by decide +kernel) ⟨(Nat.le_of_ble_eq_true rfl), (Nat.le_of_ble_eq_true rfl)⟩, (hts (.instanceMethod yX1_cut) (List.mem_of_getElem? (i := 85) rfl)), (hts (.selects RX1 yX1_cut yX1_cut) (List.mem_of_getElem? (i := 86) rfl))⟩ ⟨fm_blind, fm_recv hst hH (q := 20) (fm_inb (by decide)) rfl (fm_ob_20 _ _) rfl, fm_pre hst hA hH⟩ rfl rfl hl.1 rfl (lv_room (Nat.le_of_ble_eq_true rfl)) dX4_isSpare_51 ⟨(Nat.le_of_ble_eq_true rfl), (Nat.le_of_ble_eq_true rfl)⟩) hA hH (fun H locs hH => ?_)
    refine lv_aload_n hx hb dX4_isSpare_54 rfl (lv_at hl 1 rfl) ?_
    refine fm_getf (T := TX4) (N := 18) hx hb hts (fun _ h => List.mem_cons_of_mem _ (List.mem_append_left _ (List.mem_append_left _ (List.mem_append_left _ (List.mem_append_left _ (List.mem_append_right _ h)))))) hown hst.1 hH 0 (fm_inb (by decide)) rfl (fm_ob_0 _ _) rfl 15 (by decide) (List.mem_of_getElem? (i := 3) rfl) rfl rfl dX4_isSpare_55 ?_
    refine lv_aload_n hx hb dX4_isSpare_58 rfl (lv_at hl 1 rfl) ?_
    refine fm_getf (T := TX4) (N := 18) hx hb hts (fun _ h => List.mem_cons_of_mem _ (List.mem_append_left _ (List.mem_append_left _ (List.mem_append_left _ (List.mem_append_left _ (List.mem_append_right _ h)))))) hown hst.1 hH 0 (fm_inb (by decide)) rfl (fm_ob_0 _ _) rfl 12 (by decide) (List.mem_of_getElem? (i := 4) rfl) rfl rfl dX4_isSpare_59 ?_
    obtain ⟨r62, σ62, h62, h⟩ := mi_b2 h
    refine fm_ci (va_runVN (As := [.ref (K.2.2.2 20)]) (rest := []) C (kX2_rankOf l K h62 _) ⟨va_cnB 1 hts gX4_isSpare_X2_rankOf_n186 rfl rfl rfl (hst.2.1 (RX4, 186, yX2_rankOf) (List.mem_of_getElem? (i := 12) rfl)) (hts (.initialized RX2) (List.mem_of_getElem? (i := 52) rfl)) (by decide +kernel) ⟨(Nat.le_of_ble_eq_true rfl), (Nat.le_of_ble_eq_true rfl)⟩, (hts (.instanceMethod yX2_rankOf) (List.mem_of_getElem? (i := 51) rfl)), (hts (.selects RX2 yX2_rankOf yX2_rankOf) (List.mem_of_getElem? (i := 53) rfl))⟩ ⟨fm_blind, fm_recv hst hH (q := 24) (fm_inb (by decide)) rfl (fm_ob_24 _ _) rfl, fm_pre hst hA hH⟩ rfl rfl hl.1 rfl (lv_room (Nat.le_of_ble_eq_true rfl)) dX4_isSpare_62 ⟨(Nat.le_of_ble_eq_true rfl), (Nat.le_of_ble_eq_true rfl)⟩) hA hH (fun H locs hH => ?_)
    refine lv_iload_n hx hb dX4_isSpare_65 rfl (lv_at hl 0 rfl) ?_
    refine lv_icmp_ne (tgt := 73) hx hb dX4_isSpare_66 (by decide) (fun hc => ?_) (fun hc => ?_)
    · replace h := mi_neg hc h
      refine lv_iconst (v := 0) hx hb dX4_isSpare_73 (by decide) ?_
      cases h
      subst hQ
      exact fm_zretX hx hb hr rfl hlk hst hH rfl (Nat.le_of_ble_eq_true rfl) (Nat.le_of_ble_eq_true rfl) dX4_isSpare_74
    · replace h := mi_pos hc h
      refine lv_iconst (v := 1) hx hb dX4_isSpare_69 (by decide) ?_
      refine lv_goto (tgt := 74) hx hb dX4_isSpare_70 (by decide) ?_
      cases h
      subst hQ
      exact fm_zretX hx hb hr rfl hlk hst hH rfl (Nat.le_of_ble_eq_true rfl) (Nat.le_of_ble_eq_true rfl) dX4_isSpare_74
  · replace h := mi_pos hc h
    cases h
    subst hQ
    obtain ⟨sa, hstr⟩ := hst.2.2.2.2.1 _ (List.mem_of_getElem? (i := 0) rfl)
    have hat9 : ∀ w ∈ fx_at200, w.before args s = true := fx_hat (fun w hw => hts w ((fun _ h => List.mem_cons_of_mem _ (List.mem_append_left _ (List.mem_append_right _ h))) w hw)) (hst.2.2.2.2.2.1 _ (List.mem_of_getElem? (i := 3) rfl)) hst.2.2.2.2.2.2.2.1
    exact fx_throwS (own := RX4) (ik := 196) (ic := 200) (cls := "java/util/NoSuchElementException") (text := "the two members are not linked") (Y9 := "java/lang/RuntimeException") (names := ["java/lang/Exception"]) (ix := 13) (rx := fx_rx) hx hb hfl (by decide +kernel) (by decide +kernel) (by decide +kernel) (by decide +kernel) hown (by decide) (by decide) (by decide) (hts (.classLink RX4 196 "java/util/NoSuchElementException") (List.mem_of_getElem? (i := 1) rfl)) (hts (.initialized "java/util/NoSuchElementException") (List.mem_of_getElem? (i := 2) rfl)) hstr hat9 (by decide +kernel) hst.2.2.1 hst.2.2.2.1 hH.2.2 (hl.1.trans hml.symm) dX4_isSpare_19 dX4_isSpare_22 dX4_isSpare_23 dX4_isSpare_25 dX4_isSpare_28 (fun x hx => (hex x hx).elim) (Nat.le_of_ble_eq_true rfl) (Nat.le_of_ble_eq_true rfl) (Nat.le_of_ble_eq_true rfl) (Nat.le_of_ble_eq_true rfl) hlk (fun t hvm h1 h2 => ⟨σ7, trivial, ⟨rfl, (fm_thrown hst hH hvm h1 h2).1⟩, (fm_thrown hst hH hvm h1 h2).2⟩) hH.2.2.2.2 (Nat.le_of_ble_eq_true rfl) (Nat.le_of_ble_eq_true rfl)
