/-! RL.acts(LFormationist;[I[I[III)Z -/
abbrev rmL_acts : Room := { frames := 6, cells := 8, slots := 64, locals := 135 }
def mL_acts_L575 : Nat → Int32 → Int32 → Int32 → Int32 → fm_S → Option (Int32 × fm_S)
  | 0, _, _, _, _, _ => none
  | n + 1, x4, x9, x10, x11, σ =>
    if x9 ≤ x11 then
      some (x10, σ)
    else
      if (11 : Int32) ≤ x4 then
        if (13 : Int32) ≤ x4 then
          mb1 (mL_settle σ) fun σ622 =>
          mL_acts_L575 n x4 x9 x10 (x11 + 1) σ622
        else
          mb2 (mL_spread σ) fun r610 σ610 =>
          mb1 (some (x10 + r610)) fun u10_7 =>
          mL_acts_L575 n x4 x9 u10_7 (x11 + 1) σ610
      else
        mb2 (mL_agreed σ) fun r591 σ591 =>
        mL_acts_L575 n x4 x9 r591 (x11 + 1) σ591
set_option maxHeartbeats 4000000 in
set_option maxRecDepth 100000 in
theorem wL_acts_L575 {p : Program} {l : Launch} {e : Env} {s : State} {m : MethodId} {args : Array Value} {below : List Frame} {meth : Method} {c : Code} {Q : State → Prop} {K : fm_K} {A : Nat → Prop} (C : CallFix p m c cL_acts 12 s args wsL_acts RL) (hst : fm_st K A s s.heap) (hA : ∀ q, fm_A K s.heap.size q → A q) (hn : fm_n K = 0) :
    ∀ (n : Nat) (ce sl CE SL : Nat) (_ : ce + 2 * n ≤ CE) (_ : sl + 16 * n ≤ SL) (_ : CE ≤ 8) (_ : SL ≤ 64) (x4 : Int32) (x9 : Int32) (x10 : Int32) (x11 : Int32) (σ : fm_S) (o10 : Int32) (σo : fm_S), mL_acts_L575 n x4 x9 x10 x11 σ = some (o10, σo) → (∀ (ls : Array Slot) (H : Heap) (locs : List Loc), lv_has ls 12 [(0, .ref (K.2.2.2 0)), (1, .ref (K.2.2.2 40)), (2, .ref (K.2.2.2 41)), (3, .ref (K.2.2.2 42)), (4, .int x4), (9, .int x9), (10, .int o10)] → fm_H K σo A s H locs → W p l e rmL_acts s m args below meth c H locs CE SL Q (F0 m 631 ls [])) → ∀ (ls : Array Slot) (H : Heap) (locs : List Loc), lv_has ls 12 [(0, .ref (K.2.2.2 0)), (1, .ref (K.2.2.2 40)), (2, .ref (K.2.2.2 41)), (3, .ref (K.2.2.2 42)), (4, .int x4), (9, .int x9), (10, .int x10), (11, .int x11)] → fm_H K σ A s H locs → W p l e rmL_acts s m args below meth c H locs ce sl Q (F0 m 575 ls []) := by
  obtain ⟨hx, hb, hml, hown, hts⟩ := id C
  intro n
  induction n with
  | zero => intro ce sl CE SL hce hsl hCE hSL x4 x9 x10 x11 σ o10 σo h; simp [mL_acts_L575] at h
  | succ n ih =>
    intro ce sl CE SL hce hsl hCE hSL x4 x9 x10 x11 σ o10 σo h kk ls H locs hl hH
    rw [mL_acts_L575] at h
    refine lv_iload hx hb dL_acts_575 (lv_at hl 7 rfl) ?_
    refine lv_iload hx hb dL_acts_577 (lv_at hl 5 rfl) ?_
    refine lv_icmp_ge (tgt := 631) hx hb dL_acts_579 (by decide) (fun hc => ?_) (fun hc => ?_)
    · replace h := mi_pos hc h
      cases h
      refine W.widen (k := CE) (n := SL) (by omega) (by omega) ?_
      exact kk _ _ _ (lv_sub hl [0, 1, 2, 3, 4, 5, 6] rfl) hH
    · replace h := mi_neg hc h
      refine lv_iload hx hb dL_acts_582 (lv_at hl 4 rfl) ?_
      refine lv_bipush (v := 11) hx hb dL_acts_584 (by decide) ?_
      refine lv_icmp_ge (tgt := 599) hx hb dL_acts_586 (by decide) (fun hc => ?_) (fun hc => ?_)
      · replace h := mi_pos hc h
        refine lv_iload hx hb dL_acts_599 (lv_at hl 4 rfl) ?_
        refine lv_bipush (v := 13) hx hb dL_acts_601 (by decide) ?_
        refine lv_icmp_ge (tgt := 619) hx hb dL_acts_603 (by decide) (fun hc => ?_) (fun hc => ?_)
        · replace h := mi_pos hc h
          refine lv_aload_n hx hb dL_acts_619 rfl (lv_at hl 1 rfl) ?_
          refine lv_aload_n hx hb dL_acts_620 rfl (lv_at hl 2 rfl) ?_
          refine lv_aload_n hx hb dL_acts_621 rfl (lv_at hl 3 rfl) ?_
          obtain ⟨σ622, h622, h⟩ := mi_b1 h
          refine fm_cvW (va_runS (As := [.ref (K.2.2.2 40), .ref (K.2.2.2 41), .ref (K.2.2.2 42)]) (rest := []) C (kL_settle l K hn h622 _) (va_cwS 3 hts gL_acts_L_settle rfl rfl rfl (by decide +kernel) ⟨(Nat.le_of_ble_eq_true rfl), (Nat.le_of_ble_eq_true rfl)⟩) ⟨fm_blind, fm_pre hst hA hH⟩ rfl rfl hl.1 rfl (lv_room (Nat.le_of_ble_eq_true rfl)) dL_acts_622 ⟨by show _ ≤ 8; omega, by show _ ≤ 64; omega⟩) hA hH (fun H locs hH => ?_)
          refine W.widen (k := (ce + 1)) (n := (sl + 16)) (by omega) (by omega) ?_
          refine lv_iinc (v := (x11 + 1)) (lv' := [(11, .int (x11 + 1)), (0, .ref (K.2.2.2 0)), (1, .ref (K.2.2.2 40)), (2, .ref (K.2.2.2 41)), (3, .ref (K.2.2.2 42)), (4, .int x4), (9, .int x9), (10, .int x10)]) hx hb dL_acts_625 hl (k := 7) rfl rfl (by decide) rfl (fun ls hl => ?_)
          refine lv_goto (tgt := 575) hx hb dL_acts_628 (by decide) ?_
          refine W.widen (k := ce + 2) (n := sl + 16) (by omega) (by omega) ?_
          exact ih (ce + 2) (sl + 16) CE SL (by omega) (by omega) hCE hSL _ _ _ _ _ _ _ h kk _ _ _ (lv_sub hl [1, 2, 3, 4, 5, 6, 7, 0] rfl) hH
        · replace h := mi_neg hc h
          refine lv_iload hx hb dL_acts_606 (lv_at hl 6 rfl) ?_
          refine lv_aload_n hx hb dL_acts_608 rfl (lv_at hl 1 rfl) ?_
          refine lv_aload_n hx hb dL_acts_609 rfl (lv_at hl 2 rfl) ?_
          obtain ⟨r610, σ610, h610, h⟩ := mi_b2 h
          refine fm_ciW (va_runS (As := [.ref (K.2.2.2 40), .ref (K.2.2.2 41)]) (rest := [.int x10]) C (kL_spread l K hn h610 _) (va_cwS 2 hts gL_acts_L_spread rfl rfl rfl (by decide +kernel) ⟨(Nat.le_of_ble_eq_true rfl), (Nat.le_of_ble_eq_true rfl)⟩) ⟨fm_blind, fm_pre hst hA hH⟩ rfl rfl hl.1 rfl (lv_room (Nat.le_of_ble_eq_true rfl)) dL_acts_610 ⟨by show _ ≤ 8; omega, by show _ ≤ 64; omega⟩) hA hH (fun H locs hH => ?_)
          refine W.widen (k := (ce + 2)) (n := (sl + 16)) (by omega) (by omega) ?_
          refine lv_iadd hx hb dL_acts_613 ?_
          obtain ⟨u10_7, hu, h⟩ := mi_b1 h
          rw [Option.some.inj hu]
          clear hu
          refine lv_istore (lv' := [(10, .int u10_7), (0, .ref (K.2.2.2 0)), (1, .ref (K.2.2.2 40)), (2, .ref (K.2.2.2 41)), (3, .ref (K.2.2.2 42)), (4, .int x4), (9, .int x9), (11, .int x11)]) hx hb dL_acts_614 hl (by decide) rfl (fun ls hl => ?_)
          refine lv_goto (tgt := 625) hx hb dL_acts_616 (by decide) ?_
          refine lv_iinc (v := (x11 + 1)) (lv' := [(11, .int (x11 + 1)), (10, .int u10_7), (0, .ref (K.2.2.2 0)), (1, .ref (K.2.2.2 40)), (2, .ref (K.2.2.2 41)), (3, .ref (K.2.2.2 42)), (4, .int x4), (9, .int x9)]) hx hb dL_acts_625 hl (k := 7) rfl rfl (by decide) rfl (fun ls hl => ?_)
          refine lv_goto (tgt := 575) hx hb dL_acts_628 (by decide) ?_
          refine W.widen (k := ce + 2) (n := sl + 16) (by omega) (by omega) ?_
          exact ih (ce + 2) (sl + 16) CE SL (by omega) (by omega) hCE hSL _ _ _ _ _ _ _ h kk _ _ _ (lv_sub hl [2, 3, 4, 5, 6, 7, 1, 0] rfl) hH
      · replace h := mi_neg hc h
        refine lv_aload_n hx hb dL_acts_589 rfl (lv_at hl 1 rfl) ?_
        refine lv_aload_n hx hb dL_acts_590 rfl (lv_at hl 2 rfl) ?_
        obtain ⟨r591, σ591, h591, h⟩ := mi_b2 h
        refine fm_ciW (va_runS (As := [.ref (K.2.2.2 40), .ref (K.2.2.2 41)]) (rest := []) C (kL_agreed l K hn h591 _) (va_cwS 2 hts gL_acts_L_agreed rfl rfl rfl (by decide +kernel) ⟨(Nat.le_of_ble_eq_true rfl), (Nat.le_of_ble_eq_true rfl)⟩) ⟨fm_blind, fm_pre hst hA hH⟩ rfl rfl hl.1 rfl (lv_room (Nat.le_of_ble_eq_true rfl)) dL_acts_591 ⟨by show _ ≤ 8; omega, by show _ ≤ 64; omega⟩) hA hH (fun H locs hH => ?_)
        refine W.widen (k := (ce + 1)) (n := (sl + 8)) (by omega) (by omega) ?_
        refine lv_istore (lv' := [(10, .int r591), (0, .ref (K.2.2.2 0)), (1, .ref (K.2.2.2 40)), (2, .ref (K.2.2.2 41)), (3, .ref (K.2.2.2 42)), (4, .int x4), (9, .int x9), (11, .int x11)]) hx hb dL_acts_594 hl (by decide) rfl (fun ls hl => ?_)
        refine lv_goto (tgt := 625) hx hb dL_acts_596 (by decide) ?_
        refine lv_iinc (v := (x11 + 1)) (lv' := [(11, .int (x11 + 1)), (10, .int r591), (0, .ref (K.2.2.2 0)), (1, .ref (K.2.2.2 40)), (2, .ref (K.2.2.2 41)), (3, .ref (K.2.2.2 42)), (4, .int x4), (9, .int x9)]) hx hb dL_acts_625 hl (k := 7) rfl rfl (by decide) rfl (fun ls hl => ?_)
        refine lv_goto (tgt := 575) hx hb dL_acts_628 (by decide) ?_
        refine W.widen (k := ce + 2) (n := sl + 16) (by omega) (by omega) ?_
        exact ih (ce + 2) (sl + 16) CE SL (by omega) (by omega) hCE hSL _ _ _ _ _ _ _ h kk _ _ _ (lv_sub hl [2, 3, 4, 5, 6, 7, 1, 0] rfl) hH
def mL_acts (x4 : Int32) (x5 : Int32) (σ : fm_S) : Option (Int32 × fm_S) :=
  if ((40 : Int32) < 0 ∨ 48 ≤ (40 : Int32).toNatClampNeg) then none else
  if (rI σ 40 (40 : Int32)) = 0 then none else
  mb1 (some (x5 - x5 / (rI σ 40 (40 : Int32)) * (rI σ 40 (40 : Int32)))) fun u6_3 =>
  mb1 (some (((u6_3 + (1 : Int32)) + ((x5 / (8 : Int32)) - (x5 / (8 : Int32)) / (4 : Int32) * (4 : Int32))) - ((u6_3 + (1 : Int32)) + ((x5 / (8 : Int32)) - (x5 / (8 : Int32)) / (4 : Int32) * (4 : Int32))) / (rI σ 40 (40 : Int32)) * (rI σ 40 (40 : Int32)))) fun u7_4 =>
  mb1 (some ((8 : Int32) * u6_3)) fun u8_5 =>
  if x4 = 0 then
    if (u8_5 < 0 ∨ 48 ≤ u8_5.toNatClampNeg) then none else
    mb1 (some (sI σ 40 u8_5 (((x5 / (8 : Int32)) - (x5 / (8 : Int32)) / (160 : Int32) * (160 : Int32)) - (80 : Int32)))) fun ρ62 =>
    if ((u8_5 + (1 : Int32)) < 0 ∨ 48 ≤ (u8_5 + (1 : Int32)).toNatClampNeg) then none else
    mb1 (some (sI ρ62 40 (u8_5 + (1 : Int32)) (((x5 / (1280 : Int32)) - (x5 / (1280 : Int32)) / (80 : Int32) * (80 : Int32)) - (40 : Int32)))) fun ρ64 =>
    mb1 (mX4_move u6_3 (rI ρ64 40 u8_5) (rI ρ64 40 (u8_5 + (1 : Int32))) ρ64) fun σ87 =>
    some ((1 : Int32), σ87)
  else
    if x4 = (1 : Int32) then
      mb1 (show Option (Int32) from
        if (x5 - x5 / (3 : Int32) * (3 : Int32)) = 0 then
          if ((u8_5 + (2 : Int32)) < 0 ∨ 48 ≤ (u8_5 + (2 : Int32)).toNatClampNeg) then none else
          some (((1 : Int32) - (rI σ 40 (u8_5 + (2 : Int32)))))
        else
          if ((u8_5 + (2 : Int32)) < 0 ∨ 48 ≤ (u8_5 + (2 : Int32)).toNatClampNeg) then none else
          some ((rI σ 40 (u8_5 + (2 : Int32))))) fun v55_0 =>
      if ((u8_5 + (2 : Int32)) < 0 ∨ 48 ≤ (u8_5 + (2 : Int32)).toNatClampNeg) then none else
      mb1 (some (sI σ 40 (u8_5 + (2 : Int32)) v55_0)) fun ρ59 =>
      if 0 < (x5 - x5 / (3 : Int32) * (3 : Int32)) then
        some ((1 : Int32), ρ59)
      else
        mb2 (mX4_toggle u6_3 ρ59) fun r138 σ138 =>
        mb1 (show Option (Int32) from
          if (rI σ138 40 (u8_5 + (2 : Int32))) = 0 then
            some ((1 : Int32))
          else
            some ((0 : Int32))) fun v60_0 =>
        if r138 = v60_0 then
          some ((1 : Int32), σ138)
        else
          some ((0 : Int32), σ138)
    else
      if x4 = (2 : Int32) then
        if ((u8_5 + (3 : Int32)) < 0 ∨ 48 ≤ (u8_5 + (3 : Int32)).toNatClampNeg) then none else
        mb1 (some (rI σ 40 (u8_5 + (3 : Int32)))) fun u9_51 =>
        mb1 (some (sI σ 40 (u8_5 + (3 : Int32)) ((x5 / (8 : Int32)) - (x5 / (8 : Int32)) / (4 : Int32) * (4 : Int32)))) fun ρ52 =>
        mb2 (mX4_setPriority u6_3 ((x5 / (8 : Int32)) - (x5 / (8 : Int32)) / (4 : Int32) * (4 : Int32)) ρ52) fun r201 σ201 =>
        if r201 = u9_51 then
          some ((1 : Int32), σ201)
        else
          some ((0 : Int32), σ201)
      else
        if x4 = (3 : Int32) then
          if ((41 : Int32) < 0 ∨ 48 ≤ (41 : Int32).toNatClampNeg) then none else
          mb1 (some (rI σ 40 (41 : Int32))) fun u9_47 =>
          mb1 (show Option (Int32) from
            if (x5 - x5 / (4 : Int32) * (4 : Int32)) = 0 then
              some (((x5 / (4 : Int32)) - (x5 / (4 : Int32)) / (200 : Int32) * (200 : Int32)))
            else
              some ((90 : Int32))) fun v48_0 =>
          mb1 (some (sI σ 40 (41 : Int32) v48_0)) fun ρ49 =>
          mb2 (mX4_setRange (rI ρ49 40 (41 : Int32)) ρ49) fun r256 σ256 =>
          if r256 = u9_47 then
            some ((1 : Int32), σ256)
          else
            some ((0 : Int32), σ256)
        else
          if x4 = (4 : Int32) then
            if u6_3 = u7_4 then
              if x4 = (5 : Int32) then
                if ((u8_5 + (4 : Int32)) < 0 ∨ 48 ≤ (u8_5 + (4 : Int32)).toNatClampNeg) then none else
                mb1 (some (rI σ 40 (u8_5 + (4 : Int32)))) fun u9_39 =>
                mb1 (some (sI σ 40 (u8_5 + (4 : Int32)) (((x5 / (8 : Int32)) - (x5 / (8 : Int32)) / (2001 : Int32) * (2001 : Int32)) - (1000 : Int32)))) fun ρ40 =>
                mb2 (mX4_setEstimate u6_3 (rI ρ40 40 (u8_5 + (4 : Int32))) ρ40) fun r380 σ380 =>
                if r380 = u9_39 then
                  some ((1 : Int32), σ380)
                else
                  some ((0 : Int32), σ380)
              else
                if x4 = (6 : Int32) then
                  if ((u8_5 + (5 : Int32)) < 0 ∨ 48 ≤ (u8_5 + (5 : Int32)).toNatClampNeg) then none else
                  mb1 (some (rI σ 40 (u8_5 + (5 : Int32)))) fun u9_36 =>
                  mb1 (some (sI σ 40 (u8_5 + (5 : Int32)) (((x5 / (8 : Int32)) - (x5 / (8 : Int32)) / (2001 : Int32) * (2001 : Int32)) - (1000 : Int32)))) fun ρ37 =>
                  mb2 (mX4_setSum u6_3 (rI ρ37 40 (u8_5 + (5 : Int32))) ρ37) fun r437 σ437 =>
                  if r437 = u9_36 then
                    some ((1 : Int32), σ437)
                  else
                    some ((0 : Int32), σ437)
                else
                  if (9 : Int32) ≤ x4 then
                    mb1 (some ((1 : Int32) + (x5 - x5 / (3 : Int32) * (3 : Int32)))) fun u9_24 =>
                    mb2 (mL_acts_L575 4 x4 u9_24 (0 : Int32) (0 : Int32) σ) fun y575_10 σ575 =>
                    if (11 : Int32) ≤ x4 then
                      if (13 : Int32) ≤ x4 then
                        mb2 (mX4_settle u9_24 σ575) fun r686 σ686 =>
                        mb1 (mL_error σ686) fun r692 =>
                        if r686 = r692 then
                          some ((1 : Int32), σ686)
                        else
                          some ((0 : Int32), σ686)
                      else
                        mb2 (mX4_spread u9_24 σ575) fun r667 σ667 =>
                        if r667 = y575_10 then
                          some ((1 : Int32), σ667)
                        else
                          some ((0 : Int32), σ667)
                    else
                      mb2 (mX4_agree u9_24 σ575) fun r641 σ641 =>
                      if r641 = y575_10 then
                        some ((1 : Int32), σ641)
                      else
                        some ((0 : Int32), σ641)
                  else
                    if u6_3 = u7_4 then
                      mb1 (some ((1 : Int32) + (x5 - x5 / (3 : Int32) * (3 : Int32)))) fun u9_25 =>
                      mb2 (mL_acts_L575 4 x4 u9_25 (0 : Int32) (0 : Int32) σ) fun y575_10 σ575 =>
                      if (11 : Int32) ≤ x4 then
                        if (13 : Int32) ≤ x4 then
                          mb2 (mX4_settle u9_25 σ575) fun r686 σ686 =>
                          mb1 (mL_error σ686) fun r692 =>
                          if r686 = r692 then
                            some ((1 : Int32), σ686)
                          else
                            some ((0 : Int32), σ686)
                        else
                          mb2 (mX4_spread u9_25 σ575) fun r667 σ667 =>
                          if r667 = y575_10 then
                            some ((1 : Int32), σ667)
                          else
                            some ((0 : Int32), σ667)
                      else
                        mb2 (mX4_agree u9_25 σ575) fun r641 σ641 =>
                        if r641 = y575_10 then
                          some ((1 : Int32), σ641)
                        else
                          some ((0 : Int32), σ641)
                    else
                      mb1 (mL_pair u6_3 u7_4) fun r470 =>
                      if (r470 < 0 ∨ 25 ≤ r470.toNatClampNeg) then none else
                      mb1 (some (rI σ 42 r470)) fun u9_27 =>
                      mb1 (mL_pair u6_3 u7_4) fun r481 =>
                      mb1 (show Option (Int32) from
                        if ((x5 / (32 : Int32)) - (x5 / (32 : Int32)) / (5 : Int32) * (5 : Int32)) = 0 then
                          some ((0 : Int32))
                        else
                          some (((1 : Int32) + ((x5 / (160 : Int32)) - (x5 / (160 : Int32)) / (9000 : Int32) * (9000 : Int32))))) fun v28_0 =>
                      if (r481 < 0 ∨ 25 ≤ r481.toNatClampNeg) then none else
                      mb1 (some (sI σ 42 r481 v28_0)) fun ρ30 =>
                      mb1 (mL_pair u6_3 u7_4) fun r516 =>
                      if (r516 < 0 ∨ 25 ≤ r516.toNatClampNeg) then none else
                      mb1 (some (rI ρ30 42 r516)) fun u10_32 =>
                      mb1 (show Option (Int32) from
                        if u10_32 = 0 then
                          some ((-1 : Int32))
                        else
                          some u10_32) fun v33_0 =>
                      mb2 (mX4_want u6_3 u7_4 v33_0 ρ30) fun r538 σ538 =>
                      mb1 (show Option (Int32) from
                        if u9_27 = 0 then
                          some ((-1 : Int32))
                        else
                          some u9_27) fun v34_0 =>
                      if r538 = v34_0 then
                        some ((1 : Int32), σ538)
                      else
                        some ((0 : Int32), σ538)
            else
              mb1 (mL_pair u6_3 u7_4) fun r288 =>
              mb1 (mL_pair u6_3 u7_4) fun r297 =>
              if (r297 < 0 ∨ 25 ≤ r297.toNatClampNeg) then none else
              if (r288 < 0 ∨ 25 ≤ r288.toNatClampNeg) then none else
              mb1 (some (sI σ 41 r288 ((1 : Int32) - (rI σ 41 r297)))) fun ρ43 =>
              mb2 (mX4_block u6_3 u7_4 ρ43) fun r308 σ308 =>
              mb1 (mL_pair u6_3 u7_4) fun r316 =>
              if (r316 < 0 ∨ 25 ≤ r316.toNatClampNeg) then none else
              mb1 (show Option (Int32) from
                if (rI σ308 41 r316) = (1 : Int32) then
                  some ((1 : Int32))
                else
                  some ((0 : Int32))) fun v45_0 =>
              if r308 = v45_0 then
                some ((1 : Int32), σ308)
              else
                some ((0 : Int32), σ308)
          else
            if x4 = (5 : Int32) then
              if ((u8_5 + (4 : Int32)) < 0 ∨ 48 ≤ (u8_5 + (4 : Int32)).toNatClampNeg) then none else
              mb1 (some (rI σ 40 (u8_5 + (4 : Int32)))) fun u9_22 =>
              mb1 (some (sI σ 40 (u8_5 + (4 : Int32)) (((x5 / (8 : Int32)) - (x5 / (8 : Int32)) / (2001 : Int32) * (2001 : Int32)) - (1000 : Int32)))) fun ρ23 =>
              mb2 (mX4_setEstimate u6_3 (rI ρ23 40 (u8_5 + (4 : Int32))) ρ23) fun r380 σ380 =>
              if r380 = u9_22 then
                some ((1 : Int32), σ380)
              else
                some ((0 : Int32), σ380)
            else
              if x4 = (6 : Int32) then
                if ((u8_5 + (5 : Int32)) < 0 ∨ 48 ≤ (u8_5 + (5 : Int32)).toNatClampNeg) then none else
                mb1 (some (rI σ 40 (u8_5 + (5 : Int32)))) fun u9_19 =>
                mb1 (some (sI σ 40 (u8_5 + (5 : Int32)) (((x5 / (8 : Int32)) - (x5 / (8 : Int32)) / (2001 : Int32) * (2001 : Int32)) - (1000 : Int32)))) fun ρ20 =>
                mb2 (mX4_setSum u6_3 (rI ρ20 40 (u8_5 + (5 : Int32))) ρ20) fun r437 σ437 =>
                if r437 = u9_19 then
                  some ((1 : Int32), σ437)
                else
                  some ((0 : Int32), σ437)
              else
                if (9 : Int32) ≤ x4 then
                  mb1 (some ((1 : Int32) + (x5 - x5 / (3 : Int32) * (3 : Int32)))) fun u9_6 =>
                  mb2 (mL_acts_L575 4 x4 u9_6 (0 : Int32) (0 : Int32) σ) fun y575_10 σ575 =>
                  if (11 : Int32) ≤ x4 then
                    if (13 : Int32) ≤ x4 then
                      mb2 (mX4_settle u9_6 σ575) fun r686 σ686 =>
                      mb1 (mL_error σ686) fun r692 =>
                      if r686 = r692 then
                        some ((1 : Int32), σ686)
                      else
                        some ((0 : Int32), σ686)
                    else
                      mb2 (mX4_spread u9_6 σ575) fun r667 σ667 =>
                      if r667 = y575_10 then
                        some ((1 : Int32), σ667)
                      else
                        some ((0 : Int32), σ667)
                  else
                    mb2 (mX4_agree u9_6 σ575) fun r641 σ641 =>
                    if r641 = y575_10 then
                      some ((1 : Int32), σ641)
                    else
                      some ((0 : Int32), σ641)
                else
                  if u6_3 = u7_4 then
                    mb1 (some ((1 : Int32) + (x5 - x5 / (3 : Int32) * (3 : Int32)))) fun u9_8 =>
                    mb2 (mL_acts_L575 4 x4 u9_8 (0 : Int32) (0 : Int32) σ) fun y575_10 σ575 =>
                    if (11 : Int32) ≤ x4 then
                      if (13 : Int32) ≤ x4 then
                        mb2 (mX4_settle u9_8 σ575) fun r686 σ686 =>
                        mb1 (mL_error σ686) fun r692 =>
                        if r686 = r692 then
                          some ((1 : Int32), σ686)
                        else
                          some ((0 : Int32), σ686)
                      else
                        mb2 (mX4_spread u9_8 σ575) fun r667 σ667 =>
                        if r667 = y575_10 then
                          some ((1 : Int32), σ667)
                        else
                          some ((0 : Int32), σ667)
                    else
                      mb2 (mX4_agree u9_8 σ575) fun r641 σ641 =>
                      if r641 = y575_10 then
                        some ((1 : Int32), σ641)
                      else
                        some ((0 : Int32), σ641)
                  else
                    mb1 (mL_pair u6_3 u7_4) fun r470 =>
                    if (r470 < 0 ∨ 25 ≤ r470.toNatClampNeg) then none else
                    mb1 (some (rI σ 42 r470)) fun u9_10 =>
                    mb1 (mL_pair u6_3 u7_4) fun r481 =>
                    mb1 (show Option (Int32) from
                      if ((x5 / (32 : Int32)) - (x5 / (32 : Int32)) / (5 : Int32) * (5 : Int32)) = 0 then
                        some ((0 : Int32))
                      else
                        some (((1 : Int32) + ((x5 / (160 : Int32)) - (x5 / (160 : Int32)) / (9000 : Int32) * (9000 : Int32))))) fun v11_0 =>
                    if (r481 < 0 ∨ 25 ≤ r481.toNatClampNeg) then none else
                    mb1 (some (sI σ 42 r481 v11_0)) fun ρ13 =>
                    mb1 (mL_pair u6_3 u7_4) fun r516 =>
                    if (r516 < 0 ∨ 25 ≤ r516.toNatClampNeg) then none else
                    mb1 (some (rI ρ13 42 r516)) fun u10_15 =>
                    mb1 (show Option (Int32) from
                      if u10_15 = 0 then
                        some ((-1 : Int32))
                      else
                        some u10_15) fun v16_0 =>
                    mb2 (mX4_want u6_3 u7_4 v16_0 ρ13) fun r538 σ538 =>
                    mb1 (show Option (Int32) from
                      if u9_10 = 0 then
                        some ((-1 : Int32))
                      else
                        some u9_10) fun v17_0 =>
                    if r538 = v17_0 then
                      some ((1 : Int32), σ538)
                    else
                      some ((0 : Int32), σ538)
set_option maxHeartbeats 4000000 in
set_option maxRecDepth 100000 in
theorem kL_acts (l : Launch) (K : fm_K) (hn : fm_n K = 0) {x4 : Int32} {x5 : Int32} {σ : fm_S} {r : Int32} {σ' : fm_S} (h : mL_acts x4 x5 σ = some (r, σ')) : fm_WI l yL_acts wsL_acts rmL_acts K [.ref (K.2.2.2 0), .ref (K.2.2.2 40), .ref (K.2.2.2 41), .ref (K.2.2.2 42), .int x4, .int x5] σ r σ' 8 64 := by
  intro sz
  refine fm_start (Qc := fun sz => fm_QI K r σ' sz) (cc := cL_acts) (maxL := 12) (ret := (some .boolean)) (by decide) rfl (Nat.le_of_ble_eq_true rfl) ?_
  intro p e s m args below meth c C hr hlk hst hH ls hl
  have C : CallFix p m c cL_acts 12 s args wsL_acts RL := C
  obtain ⟨hx, hb, hml, hown, hts⟩ := id C
  have hA : ∀ q, fm_A K s.heap.size q → fm_A K s.heap.size q := fun _ h => h
  have hl : lv_has ls 12 [(0, .ref (K.2.2.2 0)), (1, .ref (K.2.2.2 40)), (2, .ref (K.2.2.2 41)), (3, .ref (K.2.2.2 42)), (4, .int x4), (5, .int x5)] := hl
  generalize hQ : MQ below _ args s _ _ _ = Q
  rw [mL_acts] at h
  refine lv_iload hx hb dL_acts_0 (lv_at hl 5 rfl) ?_
  refine lv_aload_n hx hb dL_acts_2 rfl (lv_at hl 1 rfl) ?_
  refine lv_bipush (v := 40) hx hb dL_acts_3 (by decide) ?_
  obtain ⟨hi1, h⟩ := mi_chk h
  refine fm_ild hx hb hst.1 hH 40 (fm_inb (by decide)) rfl rfl hi1 dL_acts_5 ?_
  obtain ⟨hz2, h⟩ := mi_chk h
  refine lv_irem hx hb dL_acts_6 hz2 ?_
  obtain ⟨u6_3, hu, h⟩ := mi_b1 h
  rw [Option.some.inj hu]
  clear hu
  refine lv_istore (lv' := [(6, .int u6_3), (0, .ref (K.2.2.2 0)), (1, .ref (K.2.2.2 40)), (2, .ref (K.2.2.2 41)), (3, .ref (K.2.2.2 42)), (4, .int x4), (5, .int x5)]) hx hb dL_acts_7 hl (by decide) rfl (fun ls hl => ?_)
  refine lv_iload hx hb dL_acts_9 (lv_at hl 0 rfl) ?_
  refine lv_iconst (v := 1) hx hb dL_acts_11 (by decide) ?_
  refine lv_iadd hx hb dL_acts_12 ?_
  refine lv_iload hx hb dL_acts_13 (lv_at hl 6 rfl) ?_
  refine lv_bipush (v := 8) hx hb dL_acts_15 (by decide) ?_
  refine lv_idiv hx hb dL_acts_17 (by decide) ?_
  refine lv_iconst (v := 4) hx hb dL_acts_18 (by decide) ?_
  refine lv_irem hx hb dL_acts_19 (by decide) ?_
  refine lv_iadd hx hb dL_acts_20 ?_
  refine lv_aload_n hx hb dL_acts_21 rfl (lv_at hl 2 rfl) ?_
  refine lv_bipush (v := 40) hx hb dL_acts_22 (by decide) ?_
  refine fm_ild hx hb hst.1 hH 40 (fm_inb (by decide)) rfl rfl hi1 dL_acts_24 ?_
  refine lv_irem hx hb dL_acts_25 hz2 ?_
  obtain ⟨u7_4, hu, h⟩ := mi_b1 h
  rw [Option.some.inj hu]
  clear hu
  refine lv_istore (lv' := [(7, .int u7_4), (6, .int u6_3), (0, .ref (K.2.2.2 0)), (1, .ref (K.2.2.2 40)), (2, .ref (K.2.2.2 41)), (3, .ref (K.2.2.2 42)), (4, .int x4), (5, .int x5)]) hx hb dL_acts_26 hl (by decide) rfl (fun ls hl => ?_)
  refine lv_bipush (v := 8) hx hb dL_acts_28 (by decide) ?_
  refine lv_iload hx hb dL_acts_30 (lv_at hl 1 rfl) ?_
  refine lv_imul hx hb dL_acts_32 ?_
  obtain ⟨u8_5, hu, h⟩ := mi_b1 h
  rw [Option.some.inj hu]
  clear hu
  refine lv_istore (lv' := [(8, .int u8_5), (7, .int u7_4), (6, .int u6_3), (0, .ref (K.2.2.2 0)), (1, .ref (K.2.2.2 40)), (2, .ref (K.2.2.2 41)), (3, .ref (K.2.2.2 42)), (4, .int x4), (5, .int x5)]) hx hb dL_acts_33 hl (by decide) rfl (fun ls hl => ?_)
  refine lv_iload hx hb dL_acts_35 (lv_at hl 7 rfl) ?_
  refine lv_if_ne (tgt := 92) hx hb dL_acts_37 (by decide) (fun hc => ?_) (fun hc => ?_)
  · replace h := mi_neg hc h
    refine lv_iload hx hb dL_acts_92 (lv_at hl 7 rfl) ?_
    refine lv_iconst (v := 1) hx hb dL_acts_94 (by decide) ?_
    refine lv_icmp_ne (tgt := 164) hx hb dL_acts_95 (by decide) (fun hc => ?_) (fun hc => ?_)
    · replace h := mi_neg hc h
      refine lv_iload hx hb dL_acts_164 (lv_at hl 7 rfl) ?_
      refine lv_iconst (v := 2) hx hb dL_acts_166 (by decide) ?_
      refine lv_icmp_ne (tgt := 215) hx hb dL_acts_167 (by decide) (fun hc => ?_) (fun hc => ?_)
      · replace h := mi_neg hc h
        refine lv_iload hx hb dL_acts_215 (lv_at hl 7 rfl) ?_
        refine lv_iconst (v := 3) hx hb dL_acts_217 (by decide) ?_
        refine lv_icmp_ne (tgt := 270) hx hb dL_acts_218 (by decide) (fun hc => ?_) (fun hc => ?_)
        · replace h := mi_neg hc h
          refine lv_iload hx hb dL_acts_270 (lv_at hl 7 rfl) ?_
          refine lv_iconst (v := 4) hx hb dL_acts_272 (by decide) ?_
          refine lv_icmp_ne (tgt := 338) hx hb dL_acts_273 (by decide) (fun hc => ?_) (fun hc => ?_)
          · replace h := mi_neg hc h
            refine lv_iload hx hb dL_acts_338 (lv_at hl 7 rfl) ?_
            refine lv_iconst (v := 5) hx hb dL_acts_340 (by decide) ?_
            refine lv_icmp_ne (tgt := 394) hx hb dL_acts_341 (by decide) (fun hc => ?_) (fun hc => ?_)
            · replace h := mi_neg hc h
              refine lv_iload hx hb dL_acts_394 (lv_at hl 7 rfl) ?_
              refine lv_bipush (v := 6) hx hb dL_acts_396 (by decide) ?_
              refine lv_icmp_ne (tgt := 451) hx hb dL_acts_398 (by decide) (fun hc => ?_) (fun hc => ?_)
              · replace h := mi_neg hc h
                refine lv_iload hx hb dL_acts_451 (lv_at hl 7 rfl) ?_
                refine lv_bipush (v := 9) hx hb dL_acts_453 (by decide) ?_
                refine lv_icmp_ge (tgt := 561) hx hb dL_acts_455 (by decide) (fun hc => ?_) (fun hc => ?_)
                · replace h := mi_pos hc h
                  refine lv_iconst (v := 1) hx hb dL_acts_561 (by decide) ?_
                  refine lv_iload hx hb dL_acts_562 (lv_at hl 8 rfl) ?_
                  refine lv_iconst (v := 3) hx hb dL_acts_564 (by decide) ?_
                  refine lv_irem hx hb dL_acts_565 (by decide) ?_
                  refine lv_iadd hx hb dL_acts_566 ?_
                  obtain ⟨u9_6, hu, h⟩ := mi_b1 h
                  rw [Option.some.inj hu]
                  clear hu
                  refine lv_istore (lv' := [(9, .int u9_6), (8, .int u8_5), (7, .int u7_4), (6, .int u6_3), (0, .ref (K.2.2.2 0)), (1, .ref (K.2.2.2 40)), (2, .ref (K.2.2.2 41)), (3, .ref (K.2.2.2 42)), (4, .int x4), (5, .int x5)]) hx hb dL_acts_567 hl (by decide) rfl (fun ls hl => ?_)
                  refine lv_iconst (v := 0) hx hb dL_acts_569 (by decide) ?_
                  refine lv_istore (lv' := [(10, .int (0 : Int32)), (9, .int u9_6), (8, .int u8_5), (7, .int u7_4), (6, .int u6_3), (0, .ref (K.2.2.2 0)), (1, .ref (K.2.2.2 40)), (2, .ref (K.2.2.2 41)), (3, .ref (K.2.2.2 42)), (4, .int x4), (5, .int x5)]) hx hb dL_acts_570 hl (by decide) rfl (fun ls hl => ?_)
                  refine lv_iconst (v := 0) hx hb dL_acts_572 (by decide) ?_
                  refine lv_istore (lv' := [(11, .int (0 : Int32)), (10, .int (0 : Int32)), (9, .int u9_6), (8, .int u8_5), (7, .int u7_4), (6, .int u6_3), (0, .ref (K.2.2.2 0)), (1, .ref (K.2.2.2 40)), (2, .ref (K.2.2.2 41)), (3, .ref (K.2.2.2 42)), (4, .int x4), (5, .int x5)]) hx hb dL_acts_573 hl (by decide) rfl (fun ls hl => ?_)
                  obtain ⟨y575_10, σ575, h575, h⟩ := mi_b2 h
                  refine wL_acts_L575 C hst hA hn _ 0 0 8 64 (Nat.le_of_ble_eq_true rfl) (Nat.le_of_ble_eq_true rfl) (Nat.le_of_ble_eq_true rfl) (Nat.le_of_ble_eq_true rfl) _ _ _ _ _ _ _ h575 (fun ls H locs hl hH => ?_) _ _ _ (lv_sub hl [6, 7, 8, 9, 10, 2, 1, 0] rfl) hH
                  refine lv_iload hx hb dL_acts_631 (lv_at hl 4 rfl) ?_
                  refine lv_bipush (v := 11) hx hb dL_acts_633 (by decide) ?_
                  refine lv_icmp_ge (tgt := 657) hx hb dL_acts_635 (by decide) (fun hc => ?_) (fun hc => ?_)
                  · replace h := mi_pos hc h
                    refine lv_iload hx hb dL_acts_657 (lv_at hl 4 rfl) ?_
                    refine lv_bipush (v := 13) hx hb dL_acts_659 (by decide) ?_
                    refine lv_icmp_ge (tgt := 683) hx hb dL_acts_661 (by decide) (fun hc => ?_) (fun hc => ?_)
                    · replace h := mi_pos hc h
                      refine lv_aload_n hx hb dL_acts_683 rfl (lv_at hl 0 rfl) ?_
                      refine lv_iload hx hb dL_acts_684 (lv_at hl 5 rfl) ?_
                      obtain ⟨r686, σ686, h686, h⟩ := mi_b2 h
                      refine fm_ci (va_runV (As := [.int u9_6]) (rest := []) C (kX4_settle l K h686 _) (cwV 1 hts gL_acts_X4_settle rfl rfl rfl (by decide +kernel) ⟨(Nat.le_of_ble_eq_true rfl), (Nat.le_of_ble_eq_true rfl)⟩) ⟨fm_blind, fm_recv hst hH (q := 0) (fm_inb (by decide)) rfl (fm_ob_0 _ _) rfl, fm_pre hst hA hH⟩ rfl rfl hl.1 rfl (lv_room (Nat.le_of_ble_eq_true rfl)) dL_acts_686 ⟨(Nat.le_of_ble_eq_true rfl), (Nat.le_of_ble_eq_true rfl)⟩) hA hH (fun H locs hH => ?_)
                      refine lv_aload_n hx hb dL_acts_689 rfl (lv_at hl 1 rfl) ?_
                      refine lv_aload_n hx hb dL_acts_690 rfl (lv_at hl 2 rfl) ?_
                      refine lv_aload_n hx hb dL_acts_691 rfl (lv_at hl 3 rfl) ?_
                      obtain ⟨r692, h692, h⟩ := mi_b1 h
                      refine fm_ci (va_runS (As := [.ref (K.2.2.2 40), .ref (K.2.2.2 41), .ref (K.2.2.2 42)]) (rest := [.int r686]) C (kL_error l K h692 _) (va_cwS 3 hts gL_acts_L_error rfl rfl rfl (by decide +kernel) ⟨(Nat.le_of_ble_eq_true rfl), (Nat.le_of_ble_eq_true rfl)⟩) ⟨fm_blind, fm_pre hst hA hH⟩ rfl rfl hl.1 rfl (lv_room (Nat.le_of_ble_eq_true rfl)) dL_acts_692 ⟨(Nat.le_of_ble_eq_true rfl), (Nat.le_of_ble_eq_true rfl)⟩) hA hH (fun H locs hH => ?_)
                      refine lv_icmp_ne (tgt := 702) hx hb dL_acts_695 (by decide) (fun hc => ?_) (fun hc => ?_)
                      · replace h := mi_neg hc h
                        refine lv_iconst (v := 0) hx hb dL_acts_702 (by decide) ?_
                        cases h
                        subst hQ
                        exact fm_zretW hx hb hr rfl hlk hst hH (Nat.le_of_ble_eq_true rfl) (Nat.le_of_ble_eq_true rfl) dL_acts_703
                      · replace h := mi_pos hc h
                        refine lv_iconst (v := 1) hx hb dL_acts_698 (by decide) ?_
                        refine lv_goto (tgt := 703) hx hb dL_acts_699 (by decide) ?_
                        cases h
                        subst hQ
                        exact fm_zretW hx hb hr rfl hlk hst hH (Nat.le_of_ble_eq_true rfl) (Nat.le_of_ble_eq_true rfl) dL_acts_703
                    · replace h := mi_neg hc h
                      refine lv_aload_n hx hb dL_acts_664 rfl (lv_at hl 0 rfl) ?_
                      refine lv_iload hx hb dL_acts_665 (lv_at hl 5 rfl) ?_
                      obtain ⟨r667, σ667, h667, h⟩ := mi_b2 h
                      refine fm_ci (va_runV (As := [.int u9_6]) (rest := []) C (kX4_spread l K h667 _) (cwV 1 hts gL_acts_X4_spread rfl rfl rfl (by decide +kernel) ⟨(Nat.le_of_ble_eq_true rfl), (Nat.le_of_ble_eq_true rfl)⟩) ⟨fm_blind, fm_recv hst hH (q := 0) (fm_inb (by decide)) rfl (fm_ob_0 _ _) rfl, fm_pre hst hA hH⟩ rfl rfl hl.1 rfl (lv_room (Nat.le_of_ble_eq_true rfl)) dL_acts_667 ⟨(Nat.le_of_ble_eq_true rfl), (Nat.le_of_ble_eq_true rfl)⟩) hA hH (fun H locs hH => ?_)
                      refine lv_iload hx hb dL_acts_670 (lv_at hl 6 rfl) ?_
                      refine lv_icmp_ne (tgt := 679) hx hb dL_acts_672 (by decide) (fun hc => ?_) (fun hc => ?_)
                      · replace h := mi_neg hc h
                        refine lv_iconst (v := 0) hx hb dL_acts_679 (by decide) ?_
                        refine lv_goto (tgt := 703) hx hb dL_acts_680 (by decide) ?_
                        cases h
                        subst hQ
                        exact fm_zretW hx hb hr rfl hlk hst hH (Nat.le_of_ble_eq_true rfl) (Nat.le_of_ble_eq_true rfl) dL_acts_703
                      · replace h := mi_pos hc h
                        refine lv_iconst (v := 1) hx hb dL_acts_675 (by decide) ?_
                        refine lv_goto (tgt := 703) hx hb dL_acts_676 (by decide) ?_
                        cases h
                        subst hQ
                        exact fm_zretW hx hb hr rfl hlk hst hH (Nat.le_of_ble_eq_true rfl) (Nat.le_of_ble_eq_true rfl) dL_acts_703
                  · replace h := mi_neg hc h
                    refine lv_aload_n hx hb dL_acts_638 rfl (lv_at hl 0 rfl) ?_
                    refine lv_iload hx hb dL_acts_639 (lv_at hl 5 rfl) ?_
                    obtain ⟨r641, σ641, h641, h⟩ := mi_b2 h
                    refine fm_ci (va_runV (As := [.int u9_6]) (rest := []) C (kX4_agree l K h641 _) (cwV 1 hts gL_acts_X4_agree rfl rfl rfl (by decide +kernel) ⟨(Nat.le_of_ble_eq_true rfl), (Nat.le_of_ble_eq_true rfl)⟩) ⟨fm_blind, fm_recv hst hH (q := 0) (fm_inb (by decide)) rfl (fm_ob_0 _ _) rfl, fm_pre hst hA hH⟩ rfl rfl hl.1 rfl (lv_room (Nat.le_of_ble_eq_true rfl)) dL_acts_641 ⟨(Nat.le_of_ble_eq_true rfl), (Nat.le_of_ble_eq_true rfl)⟩) hA hH (fun H locs hH => ?_)
                    refine lv_iload hx hb dL_acts_644 (lv_at hl 6 rfl) ?_
                    refine lv_icmp_ne (tgt := 653) hx hb dL_acts_646 (by decide) (fun hc => ?_) (fun hc => ?_)
                    · replace h := mi_neg hc h
                      refine lv_iconst (v := 0) hx hb dL_acts_653 (by decide) ?_
                      refine lv_goto (tgt := 703) hx hb dL_acts_654 (by decide) ?_
                      cases h
                      subst hQ
                      exact fm_zretW hx hb hr rfl hlk hst hH (Nat.le_of_ble_eq_true rfl) (Nat.le_of_ble_eq_true rfl) dL_acts_703
                    · replace h := mi_pos hc h
                      refine lv_iconst (v := 1) hx hb dL_acts_649 (by decide) ?_
                      refine lv_goto (tgt := 703) hx hb dL_acts_650 (by decide) ?_
                      cases h
                      subst hQ
                      exact fm_zretW hx hb hr rfl hlk hst hH (Nat.le_of_ble_eq_true rfl) (Nat.le_of_ble_eq_true rfl) dL_acts_703
                · replace h := mi_neg hc h
                  refine lv_iload hx hb dL_acts_458 (lv_at hl 2 rfl) ?_
                  refine lv_iload hx hb dL_acts_460 (lv_at hl 1 rfl) ?_
                  refine lv_icmp_eq (tgt := 561) hx hb dL_acts_462 (by decide) (fun hc => ?_) (fun hc => ?_)
                  · replace h := mi_pos hc h
                    refine lv_iconst (v := 1) hx hb dL_acts_561 (by decide) ?_
                    refine lv_iload hx hb dL_acts_562 (lv_at hl 8 rfl) ?_
                    refine lv_iconst (v := 3) hx hb dL_acts_564 (by decide) ?_
                    refine lv_irem hx hb dL_acts_565 (by decide) ?_
                    refine lv_iadd hx hb dL_acts_566 ?_
                    obtain ⟨u9_8, hu, h⟩ := mi_b1 h
                    rw [Option.some.inj hu]
                    clear hu
                    refine lv_istore (lv' := [(9, .int u9_8), (8, .int u8_5), (7, .int u7_4), (6, .int u6_3), (0, .ref (K.2.2.2 0)), (1, .ref (K.2.2.2 40)), (2, .ref (K.2.2.2 41)), (3, .ref (K.2.2.2 42)), (4, .int x4), (5, .int x5)]) hx hb dL_acts_567 hl (by decide) rfl (fun ls hl => ?_)
                    refine lv_iconst (v := 0) hx hb dL_acts_569 (by decide) ?_
                    refine lv_istore (lv' := [(10, .int (0 : Int32)), (9, .int u9_8), (8, .int u8_5), (7, .int u7_4), (6, .int u6_3), (0, .ref (K.2.2.2 0)), (1, .ref (K.2.2.2 40)), (2, .ref (K.2.2.2 41)), (3, .ref (K.2.2.2 42)), (4, .int x4), (5, .int x5)]) hx hb dL_acts_570 hl (by decide) rfl (fun ls hl => ?_)
                    refine lv_iconst (v := 0) hx hb dL_acts_572 (by decide) ?_
                    refine lv_istore (lv' := [(11, .int (0 : Int32)), (10, .int (0 : Int32)), (9, .int u9_8), (8, .int u8_5), (7, .int u7_4), (6, .int u6_3), (0, .ref (K.2.2.2 0)), (1, .ref (K.2.2.2 40)), (2, .ref (K.2.2.2 41)), (3, .ref (K.2.2.2 42)), (4, .int x4), (5, .int x5)]) hx hb dL_acts_573 hl (by decide) rfl (fun ls hl => ?_)
                    obtain ⟨y575_10, σ575, h575, h⟩ := mi_b2 h
                    refine wL_acts_L575 C hst hA hn _ 0 0 8 64 (Nat.le_of_ble_eq_true rfl) (Nat.le_of_ble_eq_true rfl) (Nat.le_of_ble_eq_true rfl) (Nat.le_of_ble_eq_true rfl) _ _ _ _ _ _ _ h575 (fun ls H locs hl hH => ?_) _ _ _ (lv_sub hl [6, 7, 8, 9, 10, 2, 1, 0] rfl) hH
                    refine lv_iload hx hb dL_acts_631 (lv_at hl 4 rfl) ?_
                    refine lv_bipush (v := 11) hx hb dL_acts_633 (by decide) ?_
                    refine lv_icmp_ge (tgt := 657) hx hb dL_acts_635 (by decide) (fun hc => ?_) (fun hc => ?_)
                    · replace h := mi_pos hc h
                      refine lv_iload hx hb dL_acts_657 (lv_at hl 4 rfl) ?_
                      refine lv_bipush (v := 13) hx hb dL_acts_659 (by decide) ?_
                      refine lv_icmp_ge (tgt := 683) hx hb dL_acts_661 (by decide) (fun hc => ?_) (fun hc => ?_)
                      · replace h := mi_pos hc h
                        refine lv_aload_n hx hb dL_acts_683 rfl (lv_at hl 0 rfl) ?_
                        refine lv_iload hx hb dL_acts_684 (lv_at hl 5 rfl) ?_
                        obtain ⟨r686, σ686, h686, h⟩ := mi_b2 h
                        refine fm_ci (va_runV (As := [.int u9_8]) (rest := []) C (kX4_settle l K h686 _) (cwV 1 hts gL_acts_X4_settle rfl rfl rfl (by decide +kernel) ⟨(Nat.le_of_ble_eq_true rfl), (Nat.le_of_ble_eq_true rfl)⟩) ⟨fm_blind, fm_recv hst hH (q := 0) (fm_inb (by decide)) rfl (fm_ob_0 _ _) rfl, fm_pre hst hA hH⟩ rfl rfl hl.1 rfl (lv_room (Nat.le_of_ble_eq_true rfl)) dL_acts_686 ⟨(Nat.le_of_ble_eq_true rfl), (Nat.le_of_ble_eq_true rfl)⟩) hA hH (fun H locs hH => ?_)
                        refine lv_aload_n hx hb dL_acts_689 rfl (lv_at hl 1 rfl) ?_
                        refine lv_aload_n hx hb dL_acts_690 rfl (lv_at hl 2 rfl) ?_
                        refine lv_aload_n hx hb dL_acts_691 rfl (lv_at hl 3 rfl) ?_
                        obtain ⟨r692, h692, h⟩ := mi_b1 h
                        refine fm_ci (va_runS (As := [.ref (K.2.2.2 40), .ref (K.2.2.2 41), .ref (K.2.2.2 42)]) (rest := [.int r686]) C (kL_error l K h692 _) (va_cwS 3 hts gL_acts_L_error rfl rfl rfl (by decide +kernel) ⟨(Nat.le_of_ble_eq_true rfl), (Nat.le_of_ble_eq_true rfl)⟩) ⟨fm_blind, fm_pre hst hA hH⟩ rfl rfl hl.1 rfl (lv_room (Nat.le_of_ble_eq_true rfl)) dL_acts_692 ⟨(Nat.le_of_ble_eq_true rfl), (Nat.le_of_ble_eq_true rfl)⟩) hA hH (fun H locs hH => ?_)
                        refine lv_icmp_ne (tgt := 702) hx hb dL_acts_695 (by decide) (fun hc => ?_) (fun hc => ?_)
                        · replace h := mi_neg hc h
                          refine lv_iconst (v := 0) hx hb dL_acts_702 (by decide) ?_
                          cases h
                          subst hQ
                          exact fm_zretW hx hb hr rfl hlk hst hH (Nat.le_of_ble_eq_true rfl) (Nat.le_of_ble_eq_true rfl) dL_acts_703
                        · replace h := mi_pos hc h
                          refine lv_iconst (v := 1) hx hb dL_acts_698 (by decide) ?_
                          refine lv_goto (tgt := 703) hx hb dL_acts_699 (by decide) ?_
                          cases h
                          subst hQ
                          exact fm_zretW hx hb hr rfl hlk hst hH (Nat.le_of_ble_eq_true rfl) (Nat.le_of_ble_eq_true rfl) dL_acts_703
                      · replace h := mi_neg hc h
                        refine lv_aload_n hx hb dL_acts_664 rfl (lv_at hl 0 rfl) ?_
                        refine lv_iload hx hb dL_acts_665 (lv_at hl 5 rfl) ?_
                        obtain ⟨r667, σ667, h667, h⟩ := mi_b2 h
                        refine fm_ci (va_runV (As := [.int u9_8]) (rest := []) C (kX4_spread l K h667 _) (cwV 1 hts gL_acts_X4_spread rfl rfl rfl (by decide +kernel) ⟨(Nat.le_of_ble_eq_true rfl), (Nat.le_of_ble_eq_true rfl)⟩) ⟨fm_blind, fm_recv hst hH (q := 0) (fm_inb (by decide)) rfl (fm_ob_0 _ _) rfl, fm_pre hst hA hH⟩ rfl rfl hl.1 rfl (lv_room (Nat.le_of_ble_eq_true rfl)) dL_acts_667 ⟨(Nat.le_of_ble_eq_true rfl), (Nat.le_of_ble_eq_true rfl)⟩) hA hH (fun H locs hH => ?_)
                        refine lv_iload hx hb dL_acts_670 (lv_at hl 6 rfl) ?_
                        refine lv_icmp_ne (tgt := 679) hx hb dL_acts_672 (by decide) (fun hc => ?_) (fun hc => ?_)
                        · replace h := mi_neg hc h
                          refine lv_iconst (v := 0) hx hb dL_acts_679 (by decide) ?_
                          refine lv_goto (tgt := 703) hx hb dL_acts_680 (by decide) ?_
                          cases h
                          subst hQ
                          exact fm_zretW hx hb hr rfl hlk hst hH (Nat.le_of_ble_eq_true rfl) (Nat.le_of_ble_eq_true rfl) dL_acts_703
                        · replace h := mi_pos hc h
                          refine lv_iconst (v := 1) hx hb dL_acts_675 (by decide) ?_
                          refine lv_goto (tgt := 703) hx hb dL_acts_676 (by decide) ?_
                          cases h
                          subst hQ
                          exact fm_zretW hx hb hr rfl hlk hst hH (Nat.le_of_ble_eq_true rfl) (Nat.le_of_ble_eq_true rfl) dL_acts_703
                    · replace h := mi_neg hc h
                      refine lv_aload_n hx hb dL_acts_638 rfl (lv_at hl 0 rfl) ?_
                      refine lv_iload hx hb dL_acts_639 (lv_at hl 5 rfl) ?_
                      obtain ⟨r641, σ641, h641, h⟩ := mi_b2 h
                      refine fm_ci (va_runV (As := [.int u9_8]) (rest := []) C (kX4_agree l K h641 _) (cwV 1 hts gL_acts_X4_agree rfl rfl rfl (by decide +kernel) ⟨(Nat.le_of_ble_eq_true rfl), (Nat.le_of_ble_eq_true rfl)⟩) ⟨fm_blind, fm_recv hst hH (q := 0) (fm_inb (by decide)) rfl (fm_ob_0 _ _) rfl, fm_pre hst hA hH⟩ rfl rfl hl.1 rfl (lv_room (Nat.le_of_ble_eq_true rfl)) dL_acts_641 ⟨(Nat.le_of_ble_eq_true rfl), (Nat.le_of_ble_eq_true rfl)⟩) hA hH (fun H locs hH => ?_)
                      refine lv_iload hx hb dL_acts_644 (lv_at hl 6 rfl) ?_
                      refine lv_icmp_ne (tgt := 653) hx hb dL_acts_646 (by decide) (fun hc => ?_) (fun hc => ?_)
                      · replace h := mi_neg hc h
                        refine lv_iconst (v := 0) hx hb dL_acts_653 (by decide) ?_
                        refine lv_goto (tgt := 703) hx hb dL_acts_654 (by decide) ?_
                        cases h
                        subst hQ
                        exact fm_zretW hx hb hr rfl hlk hst hH (Nat.le_of_ble_eq_true rfl) (Nat.le_of_ble_eq_true rfl) dL_acts_703
                      · replace h := mi_pos hc h
                        refine lv_iconst (v := 1) hx hb dL_acts_649 (by decide) ?_
                        refine lv_goto (tgt := 703) hx hb dL_acts_650 (by decide) ?_
                        cases h
                        subst hQ
                        exact fm_zretW hx hb hr rfl hlk hst hH (Nat.le_of_ble_eq_true rfl) (Nat.le_of_ble_eq_true rfl) dL_acts_703
                  · replace h := mi_neg hc h
                    refine lv_aload_n hx hb dL_acts_465 rfl (lv_at hl 6 rfl) ?_
                    refine lv_iload hx hb dL_acts_466 (lv_at hl 2 rfl) ?_
                    refine lv_iload hx hb dL_acts_468 (lv_at hl 1 rfl) ?_
                    obtain ⟨r470, h470, h⟩ := mi_b1 h
                    refine fm_ci (va_runS (As := [.int u6_3, .int u7_4]) (rest := [.ref (K.2.2.2 42)]) C (kL_pair l K h470 _) (va_cwS 2 hts gL_acts_L_pair rfl rfl rfl (by decide +kernel) ⟨(Nat.le_of_ble_eq_true rfl), (Nat.le_of_ble_eq_true rfl)⟩) ⟨fm_blind, fm_pre hst hA hH⟩ rfl rfl hl.1 rfl (lv_room (Nat.le_of_ble_eq_true rfl)) dL_acts_470 ⟨(Nat.le_of_ble_eq_true rfl), (Nat.le_of_ble_eq_true rfl)⟩) hA hH (fun H locs hH => ?_)
                    obtain ⟨hi9, h⟩ := mi_chk h
                    refine fm_ild hx hb hst.1 hH 42 (fm_inb (by decide)) rfl rfl hi9 dL_acts_473 ?_
                    obtain ⟨u9_10, hu, h⟩ := mi_b1 h
                    rw [Option.some.inj hu]
                    clear hu
                    refine lv_istore (lv' := [(9, .int u9_10), (8, .int u8_5), (7, .int u7_4), (6, .int u6_3), (0, .ref (K.2.2.2 0)), (1, .ref (K.2.2.2 40)), (2, .ref (K.2.2.2 41)), (3, .ref (K.2.2.2 42)), (4, .int x4), (5, .int x5)]) hx hb dL_acts_474 hl (by decide) rfl (fun ls hl => ?_)
                    refine lv_aload_n hx hb dL_acts_476 rfl (lv_at hl 7 rfl) ?_
                    refine lv_iload hx hb dL_acts_477 (lv_at hl 3 rfl) ?_
                    refine lv_iload hx hb dL_acts_479 (lv_at hl 2 rfl) ?_
                    obtain ⟨r481, h481, h⟩ := mi_b1 h
                    refine fm_ci (va_runS (As := [.int u6_3, .int u7_4]) (rest := [.ref (K.2.2.2 42)]) C (kL_pair l K h481 _) (va_cwS 2 hts gL_acts_L_pair rfl rfl rfl (by decide +kernel) ⟨(Nat.le_of_ble_eq_true rfl), (Nat.le_of_ble_eq_true rfl)⟩) ⟨fm_blind, fm_pre hst hA hH⟩ rfl rfl hl.1 rfl (lv_room (Nat.le_of_ble_eq_true rfl)) dL_acts_481 ⟨(Nat.le_of_ble_eq_true rfl), (Nat.le_of_ble_eq_true rfl)⟩) hA hH (fun H locs hH => ?_)
                    refine lv_iload hx hb dL_acts_484 (lv_at hl 9 rfl) ?_
                    refine lv_bipush (v := 32) hx hb dL_acts_486 (by decide) ?_
                    refine lv_idiv hx hb dL_acts_488 (by decide) ?_
                    refine lv_iconst (v := 5) hx hb dL_acts_489 (by decide) ?_
                    refine lv_irem hx hb dL_acts_490 (by decide) ?_
                    obtain ⟨v11_0, hd, h2⟩ := mi_b1 h
                    have kj : ∀ (ls : Array Slot) (H : Heap) (locs : List Loc), lv_has ls 12 [(0, .ref (K.2.2.2 0)), (3, .ref (K.2.2.2 42)), (6, .int u6_3), (7, .int u7_4), (9, .int u9_10)] → fm_H K σ (fm_A K s.heap.size) s H locs → W p l e rmL_acts s m args below meth c H locs 0 0 Q (F0 m 510 ls [.int v11_0, .int r481, .ref (K.2.2.2 42)]) := by
                      clear h hd
                      intro ls H locs hl hH
                      have h := h2
                      clear h2
                      obtain ⟨hi12, h⟩ := mi_chk h
                      refine fm_ist hx hb hst.1 hH 42 (fm_inb (by decide)) rfl rfl hi12 dL_acts_510 (fun H locs hH => ?_)
                      obtain ⟨ρ13, hu, h⟩ := mi_b1 h
                      rw [Option.some.inj hu] at hH
                      clear hu
                      refine lv_aload_n hx hb dL_acts_511 rfl (lv_at hl 1 rfl) ?_
                      refine lv_iload hx hb dL_acts_512 (lv_at hl 2 rfl) ?_
                      refine lv_iload hx hb dL_acts_514 (lv_at hl 3 rfl) ?_
                      obtain ⟨r516, h516, h⟩ := mi_b1 h
                      refine fm_ci (va_runS (As := [.int u6_3, .int u7_4]) (rest := [.ref (K.2.2.2 42)]) C (kL_pair l K h516 _) (va_cwS 2 hts gL_acts_L_pair rfl rfl rfl (by decide +kernel) ⟨(Nat.le_of_ble_eq_true rfl), (Nat.le_of_ble_eq_true rfl)⟩) ⟨fm_blind, fm_pre hst hA hH⟩ rfl rfl hl.1 rfl (lv_room (Nat.le_of_ble_eq_true rfl)) dL_acts_516 ⟨(Nat.le_of_ble_eq_true rfl), (Nat.le_of_ble_eq_true rfl)⟩) hA hH (fun H locs hH => ?_)
                      obtain ⟨hi14, h⟩ := mi_chk h
                      refine fm_ild hx hb hst.1 hH 42 (fm_inb (by decide)) rfl rfl hi14 dL_acts_519 ?_
                      obtain ⟨u10_15, hu, h⟩ := mi_b1 h
                      rw [Option.some.inj hu]
                      clear hu
                      refine lv_istore (lv' := [(10, .int u10_15), (0, .ref (K.2.2.2 0)), (3, .ref (K.2.2.2 42)), (6, .int u6_3), (7, .int u7_4), (9, .int u9_10)]) hx hb dL_acts_520 hl (by decide) rfl (fun ls hl => ?_)
                      refine lv_aload_n hx hb dL_acts_522 rfl (lv_at hl 1 rfl) ?_
                      refine lv_iload hx hb dL_acts_523 (lv_at hl 3 rfl) ?_
                      refine lv_iload hx hb dL_acts_525 (lv_at hl 4 rfl) ?_
                      refine lv_iload hx hb dL_acts_527 (lv_at hl 0 rfl) ?_
                      obtain ⟨v16_0, hd, h2⟩ := mi_b1 h
                      have kj : ∀ (ls : Array Slot) (H : Heap) (locs : List Loc), lv_has ls 12 [(9, .int u9_10)] → fm_H K ρ13 (fm_A K s.heap.size) s H locs → W p l e rmL_acts s m args below meth c H locs 0 0 Q (F0 m 538 ls [.int v16_0, .int u7_4, .int u6_3, .ref (K.2.2.2 0)]) := by
                        clear h hd
                        intro ls H locs hl hH
                        have h := h2
                        clear h2
                        obtain ⟨r538, σ538, h538, h⟩ := mi_b2 h
                        refine fm_ci (va_runV (As := [.int u6_3, .int u7_4, .int v16_0]) (rest := []) C (kX4_want l K h538 _) (cwV 3 hts gL_acts_X4_want rfl rfl rfl (by decide +kernel) ⟨(Nat.le_of_ble_eq_true rfl), (Nat.le_of_ble_eq_true rfl)⟩) ⟨fm_blind, fm_recv hst hH (q := 0) (fm_inb (by decide)) rfl (fm_ob_0 _ _) rfl, fm_pre hst hA hH⟩ rfl rfl hl.1 rfl (lv_room (Nat.le_of_ble_eq_true rfl)) dL_acts_538 ⟨(Nat.le_of_ble_eq_true rfl), (Nat.le_of_ble_eq_true rfl)⟩) hA hH (fun H locs hH => ?_)
                        refine lv_iload hx hb dL_acts_541 (lv_at hl 0 rfl) ?_
                        obtain ⟨v17_0, hd, h2⟩ := mi_b1 h
                        have kj : ∀ (ls : Array Slot) (H : Heap) (locs : List Loc), lv_has ls 12 [] → fm_H K σ538 (fm_A K s.heap.size) s H locs → W p l e rmL_acts s m args below meth c H locs 0 0 Q (F0 m 552 ls [.int v17_0, .int r538]) := by
                          clear h hd
                          intro ls H locs hl hH
                          have h := h2
                          clear h2
                          refine lv_icmp_ne (tgt := 559) hx hb dL_acts_552 (by decide) (fun hc => ?_) (fun hc => ?_)
                          · replace h := mi_neg hc h
                            refine lv_iconst (v := 0) hx hb dL_acts_559 (by decide) ?_
                            cases h
                            subst hQ
                            exact fm_zretW hx hb hr rfl hlk hst hH (Nat.le_of_ble_eq_true rfl) (Nat.le_of_ble_eq_true rfl) dL_acts_560
                          · replace h := mi_pos hc h
                            refine lv_iconst (v := 1) hx hb dL_acts_555 (by decide) ?_
                            refine lv_goto (tgt := 560) hx hb dL_acts_556 (by decide) ?_
                            cases h
                            subst hQ
                            exact fm_zretW hx hb hr rfl hlk hst hH (Nat.le_of_ble_eq_true rfl) (Nat.le_of_ble_eq_true rfl) dL_acts_560
                        replace h := hd
                        clear h2 hd
                        refine lv_if_ne (tgt := 550) hx hb dL_acts_543 (by decide) (fun hc => ?_) (fun hc => ?_)
                        · replace h := mi_neg hc h
                          refine lv_iload hx hb dL_acts_550 (lv_at hl 0 rfl) ?_
                          cases h
                          exact kj _ _ _ (lv_sub hl [] rfl) hH
                        · replace h := mi_pos hc h
                          refine lv_iconst (v := -1) hx hb dL_acts_546 (by decide) ?_
                          refine lv_goto (tgt := 552) hx hb dL_acts_547 (by decide) ?_
                          cases h
                          exact kj _ _ _ (lv_sub hl [] rfl) hH
                      replace h := hd
                      clear h2 hd
                      refine lv_if_ne (tgt := 536) hx hb dL_acts_529 (by decide) (fun hc => ?_) (fun hc => ?_)
                      · replace h := mi_neg hc h
                        refine lv_iload hx hb dL_acts_536 (lv_at hl 0 rfl) ?_
                        cases h
                        exact kj _ _ _ (lv_sub hl [5] rfl) hH
                      · replace h := mi_pos hc h
                        refine lv_iconst (v := -1) hx hb dL_acts_532 (by decide) ?_
                        refine lv_goto (tgt := 538) hx hb dL_acts_533 (by decide) ?_
                        cases h
                        exact kj _ _ _ (lv_sub hl [5] rfl) hH
                    replace h := hd
                    clear h2 hd
                    refine lv_if_ne (tgt := 498) hx hb dL_acts_491 (by decide) (fun hc => ?_) (fun hc => ?_)
                    · replace h := mi_neg hc h
                      refine lv_iconst (v := 1) hx hb dL_acts_498 (by decide) ?_
                      refine lv_iload hx hb dL_acts_499 (lv_at hl 9 rfl) ?_
                      refine lv_sipush (v := 160) hx hb dL_acts_501 (by decide) ?_
                      refine lv_idiv hx hb dL_acts_504 (by decide) ?_
                      refine lv_sipush (v := 9000) hx hb dL_acts_505 (by decide) ?_
                      refine lv_irem hx hb dL_acts_508 (by decide) ?_
                      refine lv_iadd hx hb dL_acts_509 ?_
                      cases h
                      exact kj _ _ _ (lv_sub hl [4, 7, 3, 2, 0] rfl) hH
                    · replace h := mi_pos hc h
                      refine lv_iconst (v := 0) hx hb dL_acts_494 (by decide) ?_
                      refine lv_goto (tgt := 510) hx hb dL_acts_495 (by decide) ?_
                      cases h
                      exact kj _ _ _ (lv_sub hl [4, 7, 3, 2, 0] rfl) hH
              · replace h := mi_pos hc h
                refine lv_aload_n hx hb dL_acts_401 rfl (lv_at hl 4 rfl) ?_
                refine lv_iload hx hb dL_acts_402 (lv_at hl 0 rfl) ?_
                refine lv_iconst (v := 5) hx hb dL_acts_404 (by decide) ?_
                refine lv_iadd hx hb dL_acts_405 ?_
                obtain ⟨hi18, h⟩ := mi_chk h
                refine fm_ild hx hb hst.1 hH 40 (fm_inb (by decide)) rfl rfl hi18 dL_acts_406 ?_
                obtain ⟨u9_19, hu, h⟩ := mi_b1 h
                rw [Option.some.inj hu]
                clear hu
                refine lv_istore (lv' := [(9, .int u9_19), (8, .int u8_5), (7, .int u7_4), (6, .int u6_3), (0, .ref (K.2.2.2 0)), (1, .ref (K.2.2.2 40)), (2, .ref (K.2.2.2 41)), (3, .ref (K.2.2.2 42)), (4, .int x4), (5, .int x5)]) hx hb dL_acts_407 hl (by decide) rfl (fun ls hl => ?_)
                refine lv_aload_n hx hb dL_acts_409 rfl (lv_at hl 5 rfl) ?_
                refine lv_iload hx hb dL_acts_410 (lv_at hl 1 rfl) ?_
                refine lv_iconst (v := 5) hx hb dL_acts_412 (by decide) ?_
                refine lv_iadd hx hb dL_acts_413 ?_
                refine lv_iload hx hb dL_acts_414 (lv_at hl 9 rfl) ?_
                refine lv_bipush (v := 8) hx hb dL_acts_416 (by decide) ?_
                refine lv_idiv hx hb dL_acts_418 (by decide) ?_
                refine lv_sipush (v := 2001) hx hb dL_acts_419 (by decide) ?_
                refine lv_irem hx hb dL_acts_422 (by decide) ?_
                refine lv_sipush (v := 1000) hx hb dL_acts_423 (by decide) ?_
                refine lv_isub hx hb dL_acts_426 ?_
                refine fm_ist hx hb hst.1 hH 40 (fm_inb (by decide)) rfl rfl hi18 dL_acts_427 (fun H locs hH => ?_)
                obtain ⟨ρ20, hu, h⟩ := mi_b1 h
                rw [Option.some.inj hu] at hH
                clear hu
                refine lv_aload_n hx hb dL_acts_428 rfl (lv_at hl 4 rfl) ?_
                refine lv_iload hx hb dL_acts_429 (lv_at hl 3 rfl) ?_
                refine lv_aload_n hx hb dL_acts_431 rfl (lv_at hl 5 rfl) ?_
                refine lv_iload hx hb dL_acts_432 (lv_at hl 1 rfl) ?_
                refine lv_iconst (v := 5) hx hb dL_acts_434 (by decide) ?_
                refine lv_iadd hx hb dL_acts_435 ?_
                refine fm_ild hx hb hst.1 hH 40 (fm_inb (by decide)) rfl rfl hi18 dL_acts_436 ?_
                obtain ⟨r437, σ437, h437, h⟩ := mi_b2 h
                refine fm_ci (va_runV (As := [.int u6_3, .int (rI ρ20 40 (u8_5 + (5 : Int32)))]) (rest := []) C (kX4_setSum l K h437 _) (cwV 2 hts gL_acts_X4_setSum rfl rfl rfl (by decide +kernel) ⟨(Nat.le_of_ble_eq_true rfl), (Nat.le_of_ble_eq_true rfl)⟩) ⟨fm_blind, fm_recv hst hH (q := 0) (fm_inb (by decide)) rfl (fm_ob_0 _ _) rfl, fm_pre hst hA hH⟩ rfl rfl hl.1 rfl (lv_room (Nat.le_of_ble_eq_true rfl)) dL_acts_437 ⟨(Nat.le_of_ble_eq_true rfl), (Nat.le_of_ble_eq_true rfl)⟩) hA hH (fun H locs hH => ?_)
                refine lv_iload hx hb dL_acts_440 (lv_at hl 0 rfl) ?_
                refine lv_icmp_ne (tgt := 449) hx hb dL_acts_442 (by decide) (fun hc => ?_) (fun hc => ?_)
                · replace h := mi_neg hc h
                  refine lv_iconst (v := 0) hx hb dL_acts_449 (by decide) ?_
                  cases h
                  subst hQ
                  exact fm_zretW hx hb hr rfl hlk hst hH (Nat.le_of_ble_eq_true rfl) (Nat.le_of_ble_eq_true rfl) dL_acts_450
                · replace h := mi_pos hc h
                  refine lv_iconst (v := 1) hx hb dL_acts_445 (by decide) ?_
                  refine lv_goto (tgt := 450) hx hb dL_acts_446 (by decide) ?_
                  cases h
                  subst hQ
                  exact fm_zretW hx hb hr rfl hlk hst hH (Nat.le_of_ble_eq_true rfl) (Nat.le_of_ble_eq_true rfl) dL_acts_450
            · replace h := mi_pos hc h
              refine lv_aload_n hx hb dL_acts_344 rfl (lv_at hl 4 rfl) ?_
              refine lv_iload hx hb dL_acts_345 (lv_at hl 0 rfl) ?_
              refine lv_iconst (v := 4) hx hb dL_acts_347 (by decide) ?_
              refine lv_iadd hx hb dL_acts_348 ?_
              obtain ⟨hi21, h⟩ := mi_chk h
              refine fm_ild hx hb hst.1 hH 40 (fm_inb (by decide)) rfl rfl hi21 dL_acts_349 ?_
              obtain ⟨u9_22, hu, h⟩ := mi_b1 h
              rw [Option.some.inj hu]
              clear hu
              refine lv_istore (lv' := [(9, .int u9_22), (8, .int u8_5), (7, .int u7_4), (6, .int u6_3), (0, .ref (K.2.2.2 0)), (1, .ref (K.2.2.2 40)), (2, .ref (K.2.2.2 41)), (3, .ref (K.2.2.2 42)), (4, .int x4), (5, .int x5)]) hx hb dL_acts_350 hl (by decide) rfl (fun ls hl => ?_)
              refine lv_aload_n hx hb dL_acts_352 rfl (lv_at hl 5 rfl) ?_
              refine lv_iload hx hb dL_acts_353 (lv_at hl 1 rfl) ?_
              refine lv_iconst (v := 4) hx hb dL_acts_355 (by decide) ?_
              refine lv_iadd hx hb dL_acts_356 ?_
              refine lv_iload hx hb dL_acts_357 (lv_at hl 9 rfl) ?_
              refine lv_bipush (v := 8) hx hb dL_acts_359 (by decide) ?_
              refine lv_idiv hx hb dL_acts_361 (by decide) ?_
              refine lv_sipush (v := 2001) hx hb dL_acts_362 (by decide) ?_
              refine lv_irem hx hb dL_acts_365 (by decide) ?_
              refine lv_sipush (v := 1000) hx hb dL_acts_366 (by decide) ?_
              refine lv_isub hx hb dL_acts_369 ?_
              refine fm_ist hx hb hst.1 hH 40 (fm_inb (by decide)) rfl rfl hi21 dL_acts_370 (fun H locs hH => ?_)
              obtain ⟨ρ23, hu, h⟩ := mi_b1 h
              rw [Option.some.inj hu] at hH
              clear hu
              refine lv_aload_n hx hb dL_acts_371 rfl (lv_at hl 4 rfl) ?_
              refine lv_iload hx hb dL_acts_372 (lv_at hl 3 rfl) ?_
              refine lv_aload_n hx hb dL_acts_374 rfl (lv_at hl 5 rfl) ?_
              refine lv_iload hx hb dL_acts_375 (lv_at hl 1 rfl) ?_
              refine lv_iconst (v := 4) hx hb dL_acts_377 (by decide) ?_
              refine lv_iadd hx hb dL_acts_378 ?_
              refine fm_ild hx hb hst.1 hH 40 (fm_inb (by decide)) rfl rfl hi21 dL_acts_379 ?_
              obtain ⟨r380, σ380, h380, h⟩ := mi_b2 h
              refine fm_ci (va_runV (As := [.int u6_3, .int (rI ρ23 40 (u8_5 + (4 : Int32)))]) (rest := []) C (kX4_setEstimate l K h380 _) (cwV 2 hts gL_acts_X4_setEstimate rfl rfl rfl (by decide +kernel) ⟨(Nat.le_of_ble_eq_true rfl), (Nat.le_of_ble_eq_true rfl)⟩) ⟨fm_blind, fm_recv hst hH (q := 0) (fm_inb (by decide)) rfl (fm_ob_0 _ _) rfl, fm_pre hst hA hH⟩ rfl rfl hl.1 rfl (lv_room (Nat.le_of_ble_eq_true rfl)) dL_acts_380 ⟨(Nat.le_of_ble_eq_true rfl), (Nat.le_of_ble_eq_true rfl)⟩) hA hH (fun H locs hH => ?_)
              refine lv_iload hx hb dL_acts_383 (lv_at hl 0 rfl) ?_
              refine lv_icmp_ne (tgt := 392) hx hb dL_acts_385 (by decide) (fun hc => ?_) (fun hc => ?_)
              · replace h := mi_neg hc h
                refine lv_iconst (v := 0) hx hb dL_acts_392 (by decide) ?_
                cases h
                subst hQ
                exact fm_zretW hx hb hr rfl hlk hst hH (Nat.le_of_ble_eq_true rfl) (Nat.le_of_ble_eq_true rfl) dL_acts_393
              · replace h := mi_pos hc h
                refine lv_iconst (v := 1) hx hb dL_acts_388 (by decide) ?_
                refine lv_goto (tgt := 393) hx hb dL_acts_389 (by decide) ?_
                cases h
                subst hQ
                exact fm_zretW hx hb hr rfl hlk hst hH (Nat.le_of_ble_eq_true rfl) (Nat.le_of_ble_eq_true rfl) dL_acts_393
          · replace h := mi_pos hc h
            refine lv_iload hx hb dL_acts_276 (lv_at hl 2 rfl) ?_
            refine lv_iload hx hb dL_acts_278 (lv_at hl 1 rfl) ?_
            refine lv_icmp_eq (tgt := 338) hx hb dL_acts_280 (by decide) (fun hc => ?_) (fun hc => ?_)
            · replace h := mi_pos hc h
              refine lv_iload hx hb dL_acts_338 (lv_at hl 7 rfl) ?_
              refine lv_iconst (v := 5) hx hb dL_acts_340 (by decide) ?_
              refine lv_icmp_ne (tgt := 394) hx hb dL_acts_341 (by decide) (fun hc => ?_) (fun hc => ?_)
              · replace h := mi_neg hc h
                refine lv_iload hx hb dL_acts_394 (lv_at hl 7 rfl) ?_
                refine lv_bipush (v := 6) hx hb dL_acts_396 (by decide) ?_
                refine lv_icmp_ne (tgt := 451) hx hb dL_acts_398 (by decide) (fun hc => ?_) (fun hc => ?_)
                · replace h := mi_neg hc h
                  refine lv_iload hx hb dL_acts_451 (lv_at hl 7 rfl) ?_
                  refine lv_bipush (v := 9) hx hb dL_acts_453 (by decide) ?_
                  refine lv_icmp_ge (tgt := 561) hx hb dL_acts_455 (by decide) (fun hc => ?_) (fun hc => ?_)
                  · replace h := mi_pos hc h
                    refine lv_iconst (v := 1) hx hb dL_acts_561 (by decide) ?_
                    refine lv_iload hx hb dL_acts_562 (lv_at hl 8 rfl) ?_
                    refine lv_iconst (v := 3) hx hb dL_acts_564 (by decide) ?_
                    refine lv_irem hx hb dL_acts_565 (by decide) ?_
                    refine lv_iadd hx hb dL_acts_566 ?_
                    obtain ⟨u9_24, hu, h⟩ := mi_b1 h
                    rw [Option.some.inj hu]
                    clear hu
                    refine lv_istore (lv' := [(9, .int u9_24), (8, .int u8_5), (7, .int u7_4), (6, .int u6_3), (0, .ref (K.2.2.2 0)), (1, .ref (K.2.2.2 40)), (2, .ref (K.2.2.2 41)), (3, .ref (K.2.2.2 42)), (4, .int x4), (5, .int x5)]) hx hb dL_acts_567 hl (by decide) rfl (fun ls hl => ?_)
                    refine lv_iconst (v := 0) hx hb dL_acts_569 (by decide) ?_
                    refine lv_istore (lv' := [(10, .int (0 : Int32)), (9, .int u9_24), (8, .int u8_5), (7, .int u7_4), (6, .int u6_3), (0, .ref (K.2.2.2 0)), (1, .ref (K.2.2.2 40)), (2, .ref (K.2.2.2 41)), (3, .ref (K.2.2.2 42)), (4, .int x4), (5, .int x5)]) hx hb dL_acts_570 hl (by decide) rfl (fun ls hl => ?_)
                    refine lv_iconst (v := 0) hx hb dL_acts_572 (by decide) ?_
                    refine lv_istore (lv' := [(11, .int (0 : Int32)), (10, .int (0 : Int32)), (9, .int u9_24), (8, .int u8_5), (7, .int u7_4), (6, .int u6_3), (0, .ref (K.2.2.2 0)), (1, .ref (K.2.2.2 40)), (2, .ref (K.2.2.2 41)), (3, .ref (K.2.2.2 42)), (4, .int x4), (5, .int x5)]) hx hb dL_acts_573 hl (by decide) rfl (fun ls hl => ?_)
                    obtain ⟨y575_10, σ575, h575, h⟩ := mi_b2 h
                    refine wL_acts_L575 C hst hA hn _ 0 0 8 64 (Nat.le_of_ble_eq_true rfl) (Nat.le_of_ble_eq_true rfl) (Nat.le_of_ble_eq_true rfl) (Nat.le_of_ble_eq_true rfl) _ _ _ _ _ _ _ h575 (fun ls H locs hl hH => ?_) _ _ _ (lv_sub hl [6, 7, 8, 9, 10, 2, 1, 0] rfl) hH
                    refine lv_iload hx hb dL_acts_631 (lv_at hl 4 rfl) ?_
                    refine lv_bipush (v := 11) hx hb dL_acts_633 (by decide) ?_
                    refine lv_icmp_ge (tgt := 657) hx hb dL_acts_635 (by decide) (fun hc => ?_) (fun hc => ?_)
                    · replace h := mi_pos hc h
                      refine lv_iload hx hb dL_acts_657 (lv_at hl 4 rfl) ?_
                      refine lv_bipush (v := 13) hx hb dL_acts_659 (by decide) ?_
                      refine lv_icmp_ge (tgt := 683) hx hb dL_acts_661 (by decide) (fun hc => ?_) (fun hc => ?_)
                      · replace h := mi_pos hc h
                        refine lv_aload_n hx hb dL_acts_683 rfl (lv_at hl 0 rfl) ?_
                        refine lv_iload hx hb dL_acts_684 (lv_at hl 5 rfl) ?_
                        obtain ⟨r686, σ686, h686, h⟩ := mi_b2 h
                        refine fm_ci (va_runV (As := [.int u9_24]) (rest := []) C (kX4_settle l K h686 _) (cwV 1 hts gL_acts_X4_settle rfl rfl rfl (by decide +kernel) ⟨(Nat.le_of_ble_eq_true rfl), (Nat.le_of_ble_eq_true rfl)⟩) ⟨fm_blind, fm_recv hst hH (q := 0) (fm_inb (by decide)) rfl (fm_ob_0 _ _) rfl, fm_pre hst hA hH⟩ rfl rfl hl.1 rfl (lv_room (Nat.le_of_ble_eq_true rfl)) dL_acts_686 ⟨(Nat.le_of_ble_eq_true rfl), (Nat.le_of_ble_eq_true rfl)⟩) hA hH (fun H locs hH => ?_)
                        refine lv_aload_n hx hb dL_acts_689 rfl (lv_at hl 1 rfl) ?_
                        refine lv_aload_n hx hb dL_acts_690 rfl (lv_at hl 2 rfl) ?_
                        refine lv_aload_n hx hb dL_acts_691 rfl (lv_at hl 3 rfl) ?_
                        obtain ⟨r692, h692, h⟩ := mi_b1 h
                        refine fm_ci (va_runS (As := [.ref (K.2.2.2 40), .ref (K.2.2.2 41), .ref (K.2.2.2 42)]) (rest := [.int r686]) C (kL_error l K h692 _) (va_cwS 3 hts gL_acts_L_error rfl rfl rfl (by decide +kernel) ⟨(Nat.le_of_ble_eq_true rfl), (Nat.le_of_ble_eq_true rfl)⟩) ⟨fm_blind, fm_pre hst hA hH⟩ rfl rfl hl.1 rfl (lv_room (Nat.le_of_ble_eq_true rfl)) dL_acts_692 ⟨(Nat.le_of_ble_eq_true rfl), (Nat.le_of_ble_eq_true rfl)⟩) hA hH (fun H locs hH => ?_)
                        refine lv_icmp_ne (tgt := 702) hx hb dL_acts_695 (by decide) (fun hc => ?_) (fun hc => ?_)
                        · replace h := mi_neg hc h
                          refine lv_iconst (v := 0) hx hb dL_acts_702 (by decide) ?_
                          cases h
                          subst hQ
                          exact fm_zretW hx hb hr rfl hlk hst hH (Nat.le_of_ble_eq_true rfl) (Nat.le_of_ble_eq_true rfl) dL_acts_703
                        · replace h := mi_pos hc h
                          refine lv_iconst (v := 1) hx hb dL_acts_698 (by decide) ?_
                          refine lv_goto (tgt := 703) hx hb dL_acts_699 (by decide) ?_
                          cases h
                          subst hQ
                          exact fm_zretW hx hb hr rfl hlk hst hH (Nat.le_of_ble_eq_true rfl) (Nat.le_of_ble_eq_true rfl) dL_acts_703
                      · replace h := mi_neg hc h
                        refine lv_aload_n hx hb dL_acts_664 rfl (lv_at hl 0 rfl) ?_
                        refine lv_iload hx hb dL_acts_665 (lv_at hl 5 rfl) ?_
                        obtain ⟨r667, σ667, h667, h⟩ := mi_b2 h
                        refine fm_ci (va_runV (As := [.int u9_24]) (rest := []) C (kX4_spread l K h667 _) (cwV 1 hts gL_acts_X4_spread rfl rfl rfl (by decide +kernel) ⟨(Nat.le_of_ble_eq_true rfl), (Nat.le_of_ble_eq_true rfl)⟩) ⟨fm_blind, fm_recv hst hH (q := 0) (fm_inb (by decide)) rfl (fm_ob_0 _ _) rfl, fm_pre hst hA hH⟩ rfl rfl hl.1 rfl (lv_room (Nat.le_of_ble_eq_true rfl)) dL_acts_667 ⟨(Nat.le_of_ble_eq_true rfl), (Nat.le_of_ble_eq_true rfl)⟩) hA hH (fun H locs hH => ?_)
                        refine lv_iload hx hb dL_acts_670 (lv_at hl 6 rfl) ?_
                        refine lv_icmp_ne (tgt := 679) hx hb dL_acts_672 (by decide) (fun hc => ?_) (fun hc => ?_)
                        · replace h := mi_neg hc h
                          refine lv_iconst (v := 0) hx hb dL_acts_679 (by decide) ?_
                          refine lv_goto (tgt := 703) hx hb dL_acts_680 (by decide) ?_
                          cases h
                          subst hQ
                          exact fm_zretW hx hb hr rfl hlk hst hH (Nat.le_of_ble_eq_true rfl) (Nat.le_of_ble_eq_true rfl) dL_acts_703
                        · replace h := mi_pos hc h
                          refine lv_iconst (v := 1) hx hb dL_acts_675 (by decide) ?_
                          refine lv_goto (tgt := 703) hx hb dL_acts_676 (by decide) ?_
                          cases h
                          subst hQ
                          exact fm_zretW hx hb hr rfl hlk hst hH (Nat.le_of_ble_eq_true rfl) (Nat.le_of_ble_eq_true rfl) dL_acts_703
                    · replace h := mi_neg hc h
                      refine lv_aload_n hx hb dL_acts_638 rfl (lv_at hl 0 rfl) ?_
                      refine lv_iload hx hb dL_acts_639 (lv_at hl 5 rfl) ?_
                      obtain ⟨r641, σ641, h641, h⟩ := mi_b2 h
                      refine fm_ci (va_runV (As := [.int u9_24]) (rest := []) C (kX4_agree l K h641 _) (cwV 1 hts gL_acts_X4_agree rfl rfl rfl (by decide +kernel) ⟨(Nat.le_of_ble_eq_true rfl), (Nat.le_of_ble_eq_true rfl)⟩) ⟨fm_blind, fm_recv hst hH (q := 0) (fm_inb (by decide)) rfl (fm_ob_0 _ _) rfl, fm_pre hst hA hH⟩ rfl rfl hl.1 rfl (lv_room (Nat.le_of_ble_eq_true rfl)) dL_acts_641 ⟨(Nat.le_of_ble_eq_true rfl), (Nat.le_of_ble_eq_true rfl)⟩) hA hH (fun H locs hH => ?_)
                      refine lv_iload hx hb dL_acts_644 (lv_at hl 6 rfl) ?_
                      refine lv_icmp_ne (tgt := 653) hx hb dL_acts_646 (by decide) (fun hc => ?_) (fun hc => ?_)
                      · replace h := mi_neg hc h
                        refine lv_iconst (v := 0) hx hb dL_acts_653 (by decide) ?_
                        refine lv_goto (tgt := 703) hx hb dL_acts_654 (by decide) ?_
                        cases h
                        subst hQ
                        exact fm_zretW hx hb hr rfl hlk hst hH (Nat.le_of_ble_eq_true rfl) (Nat.le_of_ble_eq_true rfl) dL_acts_703
                      · replace h := mi_pos hc h
                        refine lv_iconst (v := 1) hx hb dL_acts_649 (by decide) ?_
                        refine lv_goto (tgt := 703) hx hb dL_acts_650 (by decide) ?_
                        cases h
                        subst hQ
                        exact fm_zretW hx hb hr rfl hlk hst hH (Nat.le_of_ble_eq_true rfl) (Nat.le_of_ble_eq_true rfl) dL_acts_703
                  · replace h := mi_neg hc h
                    refine lv_iload hx hb dL_acts_458 (lv_at hl 2 rfl) ?_
                    refine lv_iload hx hb dL_acts_460 (lv_at hl 1 rfl) ?_
                    refine lv_icmp_eq (tgt := 561) hx hb dL_acts_462 (by decide) (fun hc => ?_) (fun hc => ?_)
                    · replace h := mi_pos hc h
                      refine lv_iconst (v := 1) hx hb dL_acts_561 (by decide) ?_
                      refine lv_iload hx hb dL_acts_562 (lv_at hl 8 rfl) ?_
                      refine lv_iconst (v := 3) hx hb dL_acts_564 (by decide) ?_
                      refine lv_irem hx hb dL_acts_565 (by decide) ?_
                      refine lv_iadd hx hb dL_acts_566 ?_
                      obtain ⟨u9_25, hu, h⟩ := mi_b1 h
                      rw [Option.some.inj hu]
                      clear hu
                      refine lv_istore (lv' := [(9, .int u9_25), (8, .int u8_5), (7, .int u7_4), (6, .int u6_3), (0, .ref (K.2.2.2 0)), (1, .ref (K.2.2.2 40)), (2, .ref (K.2.2.2 41)), (3, .ref (K.2.2.2 42)), (4, .int x4), (5, .int x5)]) hx hb dL_acts_567 hl (by decide) rfl (fun ls hl => ?_)
                      refine lv_iconst (v := 0) hx hb dL_acts_569 (by decide) ?_
                      refine lv_istore (lv' := [(10, .int (0 : Int32)), (9, .int u9_25), (8, .int u8_5), (7, .int u7_4), (6, .int u6_3), (0, .ref (K.2.2.2 0)), (1, .ref (K.2.2.2 40)), (2, .ref (K.2.2.2 41)), (3, .ref (K.2.2.2 42)), (4, .int x4), (5, .int x5)]) hx hb dL_acts_570 hl (by decide) rfl (fun ls hl => ?_)
                      refine lv_iconst (v := 0) hx hb dL_acts_572 (by decide) ?_
                      refine lv_istore (lv' := [(11, .int (0 : Int32)), (10, .int (0 : Int32)), (9, .int u9_25), (8, .int u8_5), (7, .int u7_4), (6, .int u6_3), (0, .ref (K.2.2.2 0)), (1, .ref (K.2.2.2 40)), (2, .ref (K.2.2.2 41)), (3, .ref (K.2.2.2 42)), (4, .int x4), (5, .int x5)]) hx hb dL_acts_573 hl (by decide) rfl (fun ls hl => ?_)
                      obtain ⟨y575_10, σ575, h575, h⟩ := mi_b2 h
                      refine wL_acts_L575 C hst hA hn _ 0 0 8 64 (Nat.le_of_ble_eq_true rfl) (Nat.le_of_ble_eq_true rfl) (Nat.le_of_ble_eq_true rfl) (Nat.le_of_ble_eq_true rfl) _ _ _ _ _ _ _ h575 (fun ls H locs hl hH => ?_) _ _ _ (lv_sub hl [6, 7, 8, 9, 10, 2, 1, 0] rfl) hH
                      refine lv_iload hx hb dL_acts_631 (lv_at hl 4 rfl) ?_
                      refine lv_bipush (v := 11) hx hb dL_acts_633 (by decide) ?_
                      refine lv_icmp_ge (tgt := 657) hx hb dL_acts_635 (by decide) (fun hc => ?_) (fun hc => ?_)
                      · replace h := mi_pos hc h
                        refine lv_iload hx hb dL_acts_657 (lv_at hl 4 rfl) ?_
                        refine lv_bipush (v := 13) hx hb dL_acts_659 (by decide) ?_
                        refine lv_icmp_ge (tgt := 683) hx hb dL_acts_661 (by decide) (fun hc => ?_) (fun hc => ?_)
                        · replace h := mi_pos hc h
                          refine lv_aload_n hx hb dL_acts_683 rfl (lv_at hl 0 rfl) ?_
                          refine lv_iload hx hb dL_acts_684 (lv_at hl 5 rfl) ?_
                          obtain ⟨r686, σ686, h686, h⟩ := mi_b2 h
                          refine fm_ci (va_runV (As := [.int u9_25]) (rest := []) C (kX4_settle l K h686 _) (cwV 1 hts gL_acts_X4_settle rfl rfl rfl (by decide +kernel) ⟨(Nat.le_of_ble_eq_true rfl), (Nat.le_of_ble_eq_true rfl)⟩) ⟨fm_blind, fm_recv hst hH (q := 0) (fm_inb (by decide)) rfl (fm_ob_0 _ _) rfl, fm_pre hst hA hH⟩ rfl rfl hl.1 rfl (lv_room (Nat.le_of_ble_eq_true rfl)) dL_acts_686 ⟨(Nat.le_of_ble_eq_true rfl), (Nat.le_of_ble_eq_true rfl)⟩) hA hH (fun H locs hH => ?_)
                          refine lv_aload_n hx hb dL_acts_689 rfl (lv_at hl 1 rfl) ?_
                          refine lv_aload_n hx hb dL_acts_690 rfl (lv_at hl 2 rfl) ?_
                          refine lv_aload_n hx hb dL_acts_691 rfl (lv_at hl 3 rfl) ?_
                          obtain ⟨r692, h692, h⟩ := mi_b1 h
                          refine fm_ci (va_runS (As := [.ref (K.2.2.2 40), .ref (K.2.2.2 41), .ref (K.2.2.2 42)]) (rest := [.int r686]) C (kL_error l K h692 _) (va_cwS 3 hts gL_acts_L_error rfl rfl rfl (by decide +kernel) ⟨(Nat.le_of_ble_eq_true rfl), (Nat.le_of_ble_eq_true rfl)⟩) ⟨fm_blind, fm_pre hst hA hH⟩ rfl rfl hl.1 rfl (lv_room (Nat.le_of_ble_eq_true rfl)) dL_acts_692 ⟨(Nat.le_of_ble_eq_true rfl), (Nat.le_of_ble_eq_true rfl)⟩) hA hH (fun H locs hH => ?_)
                          refine lv_icmp_ne (tgt := 702) hx hb dL_acts_695 (by decide) (fun hc => ?_) (fun hc => ?_)
                          · replace h := mi_neg hc h
                            refine lv_iconst (v := 0) hx hb dL_acts_702 (by decide) ?_
                            cases h
                            subst hQ
                            exact fm_zretW hx hb hr rfl hlk hst hH (Nat.le_of_ble_eq_true rfl) (Nat.le_of_ble_eq_true rfl) dL_acts_703
                          · replace h := mi_pos hc h
                            refine lv_iconst (v := 1) hx hb dL_acts_698 (by decide) ?_
                            refine lv_goto (tgt := 703) hx hb dL_acts_699 (by decide) ?_
                            cases h
                            subst hQ
                            exact fm_zretW hx hb hr rfl hlk hst hH (Nat.le_of_ble_eq_true rfl) (Nat.le_of_ble_eq_true rfl) dL_acts_703
                        · replace h := mi_neg hc h
                          refine lv_aload_n hx hb dL_acts_664 rfl (lv_at hl 0 rfl) ?_
                          refine lv_iload hx hb dL_acts_665 (lv_at hl 5 rfl) ?_
                          obtain ⟨r667, σ667, h667, h⟩ := mi_b2 h
                          refine fm_ci (va_runV (As := [.int u9_25]) (rest := []) C (kX4_spread l K h667 _) (cwV 1 hts gL_acts_X4_spread rfl rfl rfl (by decide +kernel) ⟨(Nat.le_of_ble_eq_true rfl), (Nat.le_of_ble_eq_true rfl)⟩) ⟨fm_blind, fm_recv hst hH (q := 0) (fm_inb (by decide)) rfl (fm_ob_0 _ _) rfl, fm_pre hst hA hH⟩ rfl rfl hl.1 rfl (lv_room (Nat.le_of_ble_eq_true rfl)) dL_acts_667 ⟨(Nat.le_of_ble_eq_true rfl), (Nat.le_of_ble_eq_true rfl)⟩) hA hH (fun H locs hH => ?_)
                          refine lv_iload hx hb dL_acts_670 (lv_at hl 6 rfl) ?_
                          refine lv_icmp_ne (tgt := 679) hx hb dL_acts_672 (by decide) (fun hc => ?_) (fun hc => ?_)
                          · replace h := mi_neg hc h
                            refine lv_iconst (v := 0) hx hb dL_acts_679 (by decide) ?_
                            refine lv_goto (tgt := 703) hx hb dL_acts_680 (by decide) ?_
                            cases h
                            subst hQ
                            exact fm_zretW hx hb hr rfl hlk hst hH (Nat.le_of_ble_eq_true rfl) (Nat.le_of_ble_eq_true rfl) dL_acts_703
                          · replace h := mi_pos hc h
                            refine lv_iconst (v := 1) hx hb dL_acts_675 (by decide) ?_
                            refine lv_goto (tgt := 703) hx hb dL_acts_676 (by decide) ?_
                            cases h
                            subst hQ
                            exact fm_zretW hx hb hr rfl hlk hst hH (Nat.le_of_ble_eq_true rfl) (Nat.le_of_ble_eq_true rfl) dL_acts_703
                      · replace h := mi_neg hc h
                        refine lv_aload_n hx hb dL_acts_638 rfl (lv_at hl 0 rfl) ?_
                        refine lv_iload hx hb dL_acts_639 (lv_at hl 5 rfl) ?_
                        obtain ⟨r641, σ641, h641, h⟩ := mi_b2 h
                        refine fm_ci (va_runV (As := [.int u9_25]) (rest := []) C (kX4_agree l K h641 _) (cwV 1 hts gL_acts_X4_agree rfl rfl rfl (by decide +kernel) ⟨(Nat.le_of_ble_eq_true rfl), (Nat.le_of_ble_eq_true rfl)⟩) ⟨fm_blind, fm_recv hst hH (q := 0) (fm_inb (by decide)) rfl (fm_ob_0 _ _) rfl, fm_pre hst hA hH⟩ rfl rfl hl.1 rfl (lv_room (Nat.le_of_ble_eq_true rfl)) dL_acts_641 ⟨(Nat.le_of_ble_eq_true rfl), (Nat.le_of_ble_eq_true rfl)⟩) hA hH (fun H locs hH => ?_)
                        refine lv_iload hx hb dL_acts_644 (lv_at hl 6 rfl) ?_
                        refine lv_icmp_ne (tgt := 653) hx hb dL_acts_646 (by decide) (fun hc => ?_) (fun hc => ?_)
                        · replace h := mi_neg hc h
                          refine lv_iconst (v := 0) hx hb dL_acts_653 (by decide) ?_
                          refine lv_goto (tgt := 703) hx hb dL_acts_654 (by decide) ?_
                          cases h
                          subst hQ
                          exact fm_zretW hx hb hr rfl hlk hst hH (Nat.le_of_ble_eq_true rfl) (Nat.le_of_ble_eq_true rfl) dL_acts_703
                        · replace h := mi_pos hc h
                          refine lv_iconst (v := 1) hx hb dL_acts_649 (by decide) ?_
                          refine lv_goto (tgt := 703) hx hb dL_acts_650 (by decide) ?_
                          cases h
                          subst hQ
                          exact fm_zretW hx hb hr rfl hlk hst hH (Nat.le_of_ble_eq_true rfl) (Nat.le_of_ble_eq_true rfl) dL_acts_703
                    · replace h := mi_neg hc h
                      refine lv_aload_n hx hb dL_acts_465 rfl (lv_at hl 6 rfl) ?_
                      refine lv_iload hx hb dL_acts_466 (lv_at hl 2 rfl) ?_
                      refine lv_iload hx hb dL_acts_468 (lv_at hl 1 rfl) ?_
                      obtain ⟨r470, h470, h⟩ := mi_b1 h
                      refine fm_ci (va_runS (As := [.int u6_3, .int u7_4]) (rest := [.ref (K.2.2.2 42)]) C (kL_pair l K h470 _) (va_cwS 2 hts gL_acts_L_pair rfl rfl rfl (by decide +kernel) ⟨(Nat.le_of_ble_eq_true rfl), (Nat.le_of_ble_eq_true rfl)⟩) ⟨fm_blind, fm_pre hst hA hH⟩ rfl rfl hl.1 rfl (lv_room (Nat.le_of_ble_eq_true rfl)) dL_acts_470 ⟨(Nat.le_of_ble_eq_true rfl), (Nat.le_of_ble_eq_true rfl)⟩) hA hH (fun H locs hH => ?_)
                      obtain ⟨hi26, h⟩ := mi_chk h
                      refine fm_ild hx hb hst.1 hH 42 (fm_inb (by decide)) rfl rfl hi26 dL_acts_473 ?_
                      obtain ⟨u9_27, hu, h⟩ := mi_b1 h
                      rw [Option.some.inj hu]
                      clear hu
                      refine lv_istore (lv' := [(9, .int u9_27), (8, .int u8_5), (7, .int u7_4), (6, .int u6_3), (0, .ref (K.2.2.2 0)), (1, .ref (K.2.2.2 40)), (2, .ref (K.2.2.2 41)), (3, .ref (K.2.2.2 42)), (4, .int x4), (5, .int x5)]) hx hb dL_acts_474 hl (by decide) rfl (fun ls hl => ?_)
                      refine lv_aload_n hx hb dL_acts_476 rfl (lv_at hl 7 rfl) ?_
                      refine lv_iload hx hb dL_acts_477 (lv_at hl 3 rfl) ?_
                      refine lv_iload hx hb dL_acts_479 (lv_at hl 2 rfl) ?_
                      obtain ⟨r481, h481, h⟩ := mi_b1 h
                      refine fm_ci (va_runS (As := [.int u6_3, .int u7_4]) (rest := [.ref (K.2.2.2 42)]) C (kL_pair l K h481 _) (va_cwS 2 hts gL_acts_L_pair rfl rfl rfl (by decide +kernel) ⟨(Nat.le_of_ble_eq_true rfl), (Nat.le_of_ble_eq_true rfl)⟩) ⟨fm_blind, fm_pre hst hA hH⟩ rfl rfl hl.1 rfl (lv_room (Nat.le_of_ble_eq_true rfl)) dL_acts_481 ⟨(Nat.le_of_ble_eq_true rfl), (Nat.le_of_ble_eq_true rfl)⟩) hA hH (fun H locs hH => ?_)
                      refine lv_iload hx hb dL_acts_484 (lv_at hl 9 rfl) ?_
                      refine lv_bipush (v := 32) hx hb dL_acts_486 (by decide) ?_
                      refine lv_idiv hx hb dL_acts_488 (by decide) ?_
                      refine lv_iconst (v := 5) hx hb dL_acts_489 (by decide) ?_
                      refine lv_irem hx hb dL_acts_490 (by decide) ?_
                      obtain ⟨v28_0, hd, h2⟩ := mi_b1 h
                      have kj : ∀ (ls : Array Slot) (H : Heap) (locs : List Loc), lv_has ls 12 [(0, .ref (K.2.2.2 0)), (3, .ref (K.2.2.2 42)), (6, .int u6_3), (7, .int u7_4), (9, .int u9_27)] → fm_H K σ (fm_A K s.heap.size) s H locs → W p l e rmL_acts s m args below meth c H locs 0 0 Q (F0 m 510 ls [.int v28_0, .int r481, .ref (K.2.2.2 42)]) := by
                        clear h hd
                        intro ls H locs hl hH
                        have h := h2
                        clear h2
                        obtain ⟨hi29, h⟩ := mi_chk h
                        refine fm_ist hx hb hst.1 hH 42 (fm_inb (by decide)) rfl rfl hi29 dL_acts_510 (fun H locs hH => ?_)
                        obtain ⟨ρ30, hu, h⟩ := mi_b1 h
                        rw [Option.some.inj hu] at hH
                        clear hu
                        refine lv_aload_n hx hb dL_acts_511 rfl (lv_at hl 1 rfl) ?_
                        refine lv_iload hx hb dL_acts_512 (lv_at hl 2 rfl) ?_
                        refine lv_iload hx hb dL_acts_514 (lv_at hl 3 rfl) ?_
                        obtain ⟨r516, h516, h⟩ := mi_b1 h
                        refine fm_ci (va_runS (As := [.int u6_3, .int u7_4]) (rest := [.ref (K.2.2.2 42)]) C (kL_pair l K h516 _) (va_cwS 2 hts gL_acts_L_pair rfl rfl rfl (by decide +kernel) ⟨(Nat.le_of_ble_eq_true rfl), (Nat.le_of_ble_eq_true rfl)⟩) ⟨fm_blind, fm_pre hst hA hH⟩ rfl rfl hl.1 rfl (lv_room (Nat.le_of_ble_eq_true rfl)) dL_acts_516 ⟨(Nat.le_of_ble_eq_true rfl), (Nat.le_of_ble_eq_true rfl)⟩) hA hH (fun H locs hH => ?_)
                        obtain ⟨hi31, h⟩ := mi_chk h
                        refine fm_ild hx hb hst.1 hH 42 (fm_inb (by decide)) rfl rfl hi31 dL_acts_519 ?_
                        obtain ⟨u10_32, hu, h⟩ := mi_b1 h
                        rw [Option.some.inj hu]
                        clear hu
                        refine lv_istore (lv' := [(10, .int u10_32), (0, .ref (K.2.2.2 0)), (3, .ref (K.2.2.2 42)), (6, .int u6_3), (7, .int u7_4), (9, .int u9_27)]) hx hb dL_acts_520 hl (by decide) rfl (fun ls hl => ?_)
                        refine lv_aload_n hx hb dL_acts_522 rfl (lv_at hl 1 rfl) ?_
                        refine lv_iload hx hb dL_acts_523 (lv_at hl 3 rfl) ?_
                        refine lv_iload hx hb dL_acts_525 (lv_at hl 4 rfl) ?_
                        refine lv_iload hx hb dL_acts_527 (lv_at hl 0 rfl) ?_
                        obtain ⟨v33_0, hd, h2⟩ := mi_b1 h
                        have kj : ∀ (ls : Array Slot) (H : Heap) (locs : List Loc), lv_has ls 12 [(9, .int u9_27)] → fm_H K ρ30 (fm_A K s.heap.size) s H locs → W p l e rmL_acts s m args below meth c H locs 0 0 Q (F0 m 538 ls [.int v33_0, .int u7_4, .int u6_3, .ref (K.2.2.2 0)]) := by
                          clear h hd
                          intro ls H locs hl hH
                          have h := h2
                          clear h2
                          obtain ⟨r538, σ538, h538, h⟩ := mi_b2 h
                          refine fm_ci (va_runV (As := [.int u6_3, .int u7_4, .int v33_0]) (rest := []) C (kX4_want l K h538 _) (cwV 3 hts gL_acts_X4_want rfl rfl rfl (by decide +kernel) ⟨(Nat.le_of_ble_eq_true rfl), (Nat.le_of_ble_eq_true rfl)⟩) ⟨fm_blind, fm_recv hst hH (q := 0) (fm_inb (by decide)) rfl (fm_ob_0 _ _) rfl, fm_pre hst hA hH⟩ rfl rfl hl.1 rfl (lv_room (Nat.le_of_ble_eq_true rfl)) dL_acts_538 ⟨(Nat.le_of_ble_eq_true rfl), (Nat.le_of_ble_eq_true rfl)⟩) hA hH (fun H locs hH => ?_)
                          refine lv_iload hx hb dL_acts_541 (lv_at hl 0 rfl) ?_
                          obtain ⟨v34_0, hd, h2⟩ := mi_b1 h
                          have kj : ∀ (ls : Array Slot) (H : Heap) (locs : List Loc), lv_has ls 12 [] → fm_H K σ538 (fm_A K s.heap.size) s H locs → W p l e rmL_acts s m args below meth c H locs 0 0 Q (F0 m 552 ls [.int v34_0, .int r538]) := by
                            clear h hd
                            intro ls H locs hl hH
                            have h := h2
                            clear h2
                            refine lv_icmp_ne (tgt := 559) hx hb dL_acts_552 (by decide) (fun hc => ?_) (fun hc => ?_)
                            · replace h := mi_neg hc h
                              refine lv_iconst (v := 0) hx hb dL_acts_559 (by decide) ?_
                              cases h
                              subst hQ
                              exact fm_zretW hx hb hr rfl hlk hst hH (Nat.le_of_ble_eq_true rfl) (Nat.le_of_ble_eq_true rfl) dL_acts_560
                            · replace h := mi_pos hc h
                              refine lv_iconst (v := 1) hx hb dL_acts_555 (by decide) ?_
                              refine lv_goto (tgt := 560) hx hb dL_acts_556 (by decide) ?_
                              cases h
                              subst hQ
                              exact fm_zretW hx hb hr rfl hlk hst hH (Nat.le_of_ble_eq_true rfl) (Nat.le_of_ble_eq_true rfl) dL_acts_560
                          replace h := hd
                          clear h2 hd
                          refine lv_if_ne (tgt := 550) hx hb dL_acts_543 (by decide) (fun hc => ?_) (fun hc => ?_)
                          · replace h := mi_neg hc h
                            refine lv_iload hx hb dL_acts_550 (lv_at hl 0 rfl) ?_
                            cases h
                            exact kj _ _ _ (lv_sub hl [] rfl) hH
                          · replace h := mi_pos hc h
                            refine lv_iconst (v := -1) hx hb dL_acts_546 (by decide) ?_
                            refine lv_goto (tgt := 552) hx hb dL_acts_547 (by decide) ?_
                            cases h
                            exact kj _ _ _ (lv_sub hl [] rfl) hH
                        replace h := hd
                        clear h2 hd
                        refine lv_if_ne (tgt := 536) hx hb dL_acts_529 (by decide) (fun hc => ?_) (fun hc => ?_)
                        · replace h := mi_neg hc h
                          refine lv_iload hx hb dL_acts_536 (lv_at hl 0 rfl) ?_
                          cases h
                          exact kj _ _ _ (lv_sub hl [5] rfl) hH
                        · replace h := mi_pos hc h
                          refine lv_iconst (v := -1) hx hb dL_acts_532 (by decide) ?_
                          refine lv_goto (tgt := 538) hx hb dL_acts_533 (by decide) ?_
                          cases h
                          exact kj _ _ _ (lv_sub hl [5] rfl) hH
                      replace h := hd
                      clear h2 hd
                      refine lv_if_ne (tgt := 498) hx hb dL_acts_491 (by decide) (fun hc => ?_) (fun hc => ?_)
                      · replace h := mi_neg hc h
                        refine lv_iconst (v := 1) hx hb dL_acts_498 (by decide) ?_
                        refine lv_iload hx hb dL_acts_499 (lv_at hl 9 rfl) ?_
                        refine lv_sipush (v := 160) hx hb dL_acts_501 (by decide) ?_
                        refine lv_idiv hx hb dL_acts_504 (by decide) ?_
                        refine lv_sipush (v := 9000) hx hb dL_acts_505 (by decide) ?_
                        refine lv_irem hx hb dL_acts_508 (by decide) ?_
                        refine lv_iadd hx hb dL_acts_509 ?_
                        cases h
                        exact kj _ _ _ (lv_sub hl [4, 7, 3, 2, 0] rfl) hH
                      · replace h := mi_pos hc h
                        refine lv_iconst (v := 0) hx hb dL_acts_494 (by decide) ?_
                        refine lv_goto (tgt := 510) hx hb dL_acts_495 (by decide) ?_
                        cases h
                        exact kj _ _ _ (lv_sub hl [4, 7, 3, 2, 0] rfl) hH
                · replace h := mi_pos hc h
                  refine lv_aload_n hx hb dL_acts_401 rfl (lv_at hl 4 rfl) ?_
                  refine lv_iload hx hb dL_acts_402 (lv_at hl 0 rfl) ?_
                  refine lv_iconst (v := 5) hx hb dL_acts_404 (by decide) ?_
                  refine lv_iadd hx hb dL_acts_405 ?_
                  obtain ⟨hi35, h⟩ := mi_chk h
                  refine fm_ild hx hb hst.1 hH 40 (fm_inb (by decide)) rfl rfl hi35 dL_acts_406 ?_
                  obtain ⟨u9_36, hu, h⟩ := mi_b1 h
                  rw [Option.some.inj hu]
                  clear hu
                  refine lv_istore (lv' := [(9, .int u9_36), (8, .int u8_5), (7, .int u7_4), (6, .int u6_3), (0, .ref (K.2.2.2 0)), (1, .ref (K.2.2.2 40)), (2, .ref (K.2.2.2 41)), (3, .ref (K.2.2.2 42)), (4, .int x4), (5, .int x5)]) hx hb dL_acts_407 hl (by decide) rfl (fun ls hl => ?_)
                  refine lv_aload_n hx hb dL_acts_409 rfl (lv_at hl 5 rfl) ?_
                  refine lv_iload hx hb dL_acts_410 (lv_at hl 1 rfl) ?_
                  refine lv_iconst (v := 5) hx hb dL_acts_412 (by decide) ?_
                  refine lv_iadd hx hb dL_acts_413 ?_
                  refine lv_iload hx hb dL_acts_414 (lv_at hl 9 rfl) ?_
                  refine lv_bipush (v := 8) hx hb dL_acts_416 (by decide) ?_
                  refine lv_idiv hx hb dL_acts_418 (by decide) ?_
                  refine lv_sipush (v := 2001) hx hb dL_acts_419 (by decide) ?_
                  refine lv_irem hx hb dL_acts_422 (by decide) ?_
                  refine lv_sipush (v := 1000) hx hb dL_acts_423 (by decide) ?_
                  refine lv_isub hx hb dL_acts_426 ?_
                  refine fm_ist hx hb hst.1 hH 40 (fm_inb (by decide)) rfl rfl hi35 dL_acts_427 (fun H locs hH => ?_)
                  obtain ⟨ρ37, hu, h⟩ := mi_b1 h
                  rw [Option.some.inj hu] at hH
                  clear hu
                  refine lv_aload_n hx hb dL_acts_428 rfl (lv_at hl 4 rfl) ?_
                  refine lv_iload hx hb dL_acts_429 (lv_at hl 3 rfl) ?_
                  refine lv_aload_n hx hb dL_acts_431 rfl (lv_at hl 5 rfl) ?_
                  refine lv_iload hx hb dL_acts_432 (lv_at hl 1 rfl) ?_
                  refine lv_iconst (v := 5) hx hb dL_acts_434 (by decide) ?_
                  refine lv_iadd hx hb dL_acts_435 ?_
                  refine fm_ild hx hb hst.1 hH 40 (fm_inb (by decide)) rfl rfl hi35 dL_acts_436 ?_
                  obtain ⟨r437, σ437, h437, h⟩ := mi_b2 h
                  refine fm_ci (va_runV (As := [.int u6_3, .int (rI ρ37 40 (u8_5 + (5 : Int32)))]) (rest := []) C (kX4_setSum l K h437 _) (cwV 2 hts gL_acts_X4_setSum rfl rfl rfl (by decide +kernel) ⟨(Nat.le_of_ble_eq_true rfl), (Nat.le_of_ble_eq_true rfl)⟩) ⟨fm_blind, fm_recv hst hH (q := 0) (fm_inb (by decide)) rfl (fm_ob_0 _ _) rfl, fm_pre hst hA hH⟩ rfl rfl hl.1 rfl (lv_room (Nat.le_of_ble_eq_true rfl)) dL_acts_437 ⟨(Nat.le_of_ble_eq_true rfl), (Nat.le_of_ble_eq_true rfl)⟩) hA hH (fun H locs hH => ?_)
                  refine lv_iload hx hb dL_acts_440 (lv_at hl 0 rfl) ?_
                  refine lv_icmp_ne (tgt := 449) hx hb dL_acts_442 (by decide) (fun hc => ?_) (fun hc => ?_)
                  · replace h := mi_neg hc h
                    refine lv_iconst (v := 0) hx hb dL_acts_449 (by decide) ?_
                    cases h
                    subst hQ
                    exact fm_zretW hx hb hr rfl hlk hst hH (Nat.le_of_ble_eq_true rfl) (Nat.le_of_ble_eq_true rfl) dL_acts_450
                  · replace h := mi_pos hc h
                    refine lv_iconst (v := 1) hx hb dL_acts_445 (by decide) ?_
                    refine lv_goto (tgt := 450) hx hb dL_acts_446 (by decide) ?_
                    cases h
                    subst hQ
                    exact fm_zretW hx hb hr rfl hlk hst hH (Nat.le_of_ble_eq_true rfl) (Nat.le_of_ble_eq_true rfl) dL_acts_450
              · replace h := mi_pos hc h
                refine lv_aload_n hx hb dL_acts_344 rfl (lv_at hl 4 rfl) ?_
                refine lv_iload hx hb dL_acts_345 (lv_at hl 0 rfl) ?_
                refine lv_iconst (v := 4) hx hb dL_acts_347 (by decide) ?_
                refine lv_iadd hx hb dL_acts_348 ?_
                obtain ⟨hi38, h⟩ := mi_chk h
                refine fm_ild hx hb hst.1 hH 40 (fm_inb (by decide)) rfl rfl hi38 dL_acts_349 ?_
                obtain ⟨u9_39, hu, h⟩ := mi_b1 h
                rw [Option.some.inj hu]
                clear hu
                refine lv_istore (lv' := [(9, .int u9_39), (8, .int u8_5), (7, .int u7_4), (6, .int u6_3), (0, .ref (K.2.2.2 0)), (1, .ref (K.2.2.2 40)), (2, .ref (K.2.2.2 41)), (3, .ref (K.2.2.2 42)), (4, .int x4), (5, .int x5)]) hx hb dL_acts_350 hl (by decide) rfl (fun ls hl => ?_)
                refine lv_aload_n hx hb dL_acts_352 rfl (lv_at hl 5 rfl) ?_
                refine lv_iload hx hb dL_acts_353 (lv_at hl 1 rfl) ?_
                refine lv_iconst (v := 4) hx hb dL_acts_355 (by decide) ?_
                refine lv_iadd hx hb dL_acts_356 ?_
                refine lv_iload hx hb dL_acts_357 (lv_at hl 9 rfl) ?_
                refine lv_bipush (v := 8) hx hb dL_acts_359 (by decide) ?_
                refine lv_idiv hx hb dL_acts_361 (by decide) ?_
                refine lv_sipush (v := 2001) hx hb dL_acts_362 (by decide) ?_
                refine lv_irem hx hb dL_acts_365 (by decide) ?_
                refine lv_sipush (v := 1000) hx hb dL_acts_366 (by decide) ?_
                refine lv_isub hx hb dL_acts_369 ?_
                refine fm_ist hx hb hst.1 hH 40 (fm_inb (by decide)) rfl rfl hi38 dL_acts_370 (fun H locs hH => ?_)
                obtain ⟨ρ40, hu, h⟩ := mi_b1 h
                rw [Option.some.inj hu] at hH
                clear hu
                refine lv_aload_n hx hb dL_acts_371 rfl (lv_at hl 4 rfl) ?_
                refine lv_iload hx hb dL_acts_372 (lv_at hl 3 rfl) ?_
                refine lv_aload_n hx hb dL_acts_374 rfl (lv_at hl 5 rfl) ?_
                refine lv_iload hx hb dL_acts_375 (lv_at hl 1 rfl) ?_
                refine lv_iconst (v := 4) hx hb dL_acts_377 (by decide) ?_
                refine lv_iadd hx hb dL_acts_378 ?_
                refine fm_ild hx hb hst.1 hH 40 (fm_inb (by decide)) rfl rfl hi38 dL_acts_379 ?_
                obtain ⟨r380, σ380, h380, h⟩ := mi_b2 h
                refine fm_ci (va_runV (As := [.int u6_3, .int (rI ρ40 40 (u8_5 + (4 : Int32)))]) (rest := []) C (kX4_setEstimate l K h380 _) (cwV 2 hts gL_acts_X4_setEstimate rfl rfl rfl (by decide +kernel) ⟨(Nat.le_of_ble_eq_true rfl), (Nat.le_of_ble_eq_true rfl)⟩) ⟨fm_blind, fm_recv hst hH (q := 0) (fm_inb (by decide)) rfl (fm_ob_0 _ _) rfl, fm_pre hst hA hH⟩ rfl rfl hl.1 rfl (lv_room (Nat.le_of_ble_eq_true rfl)) dL_acts_380 ⟨(Nat.le_of_ble_eq_true rfl), (Nat.le_of_ble_eq_true rfl)⟩) hA hH (fun H locs hH => ?_)
                refine lv_iload hx hb dL_acts_383 (lv_at hl 0 rfl) ?_
                refine lv_icmp_ne (tgt := 392) hx hb dL_acts_385 (by decide) (fun hc => ?_) (fun hc => ?_)
                · replace h := mi_neg hc h
                  refine lv_iconst (v := 0) hx hb dL_acts_392 (by decide) ?_
                  cases h
                  subst hQ
                  exact fm_zretW hx hb hr rfl hlk hst hH (Nat.le_of_ble_eq_true rfl) (Nat.le_of_ble_eq_true rfl) dL_acts_393
                · replace h := mi_pos hc h
                  refine lv_iconst (v := 1) hx hb dL_acts_388 (by decide) ?_
                  refine lv_goto (tgt := 393) hx hb dL_acts_389 (by decide) ?_
                  cases h
                  subst hQ
                  exact fm_zretW hx hb hr rfl hlk hst hH (Nat.le_of_ble_eq_true rfl) (Nat.le_of_ble_eq_true rfl) dL_acts_393
            · replace h := mi_neg hc h
              refine lv_aload_n hx hb dL_acts_283 rfl (lv_at hl 5 rfl) ?_
              refine lv_iload hx hb dL_acts_284 (lv_at hl 2 rfl) ?_
              refine lv_iload hx hb dL_acts_286 (lv_at hl 1 rfl) ?_
              obtain ⟨r288, h288, h⟩ := mi_b1 h
              refine fm_ci (va_runS (As := [.int u6_3, .int u7_4]) (rest := [.ref (K.2.2.2 41)]) C (kL_pair l K h288 _) (va_cwS 2 hts gL_acts_L_pair rfl rfl rfl (by decide +kernel) ⟨(Nat.le_of_ble_eq_true rfl), (Nat.le_of_ble_eq_true rfl)⟩) ⟨fm_blind, fm_pre hst hA hH⟩ rfl rfl hl.1 rfl (lv_room (Nat.le_of_ble_eq_true rfl)) dL_acts_288 ⟨(Nat.le_of_ble_eq_true rfl), (Nat.le_of_ble_eq_true rfl)⟩) hA hH (fun H locs hH => ?_)
              refine lv_iconst (v := 1) hx hb dL_acts_291 (by decide) ?_
              refine lv_aload_n hx hb dL_acts_292 rfl (lv_at hl 5 rfl) ?_
              refine lv_iload hx hb dL_acts_293 (lv_at hl 2 rfl) ?_
              refine lv_iload hx hb dL_acts_295 (lv_at hl 1 rfl) ?_
              obtain ⟨r297, h297, h⟩ := mi_b1 h
              refine fm_ci (va_runS (As := [.int u6_3, .int u7_4]) (rest := [.ref (K.2.2.2 41), .int (1 : Int32), .int r288, .ref (K.2.2.2 41)]) C (kL_pair l K h297 _) (va_cwS 2 hts gL_acts_L_pair rfl rfl rfl (by decide +kernel) ⟨(Nat.le_of_ble_eq_true rfl), (Nat.le_of_ble_eq_true rfl)⟩) ⟨fm_blind, fm_pre hst hA hH⟩ rfl rfl hl.1 rfl (lv_room (Nat.le_of_ble_eq_true rfl)) dL_acts_297 ⟨(Nat.le_of_ble_eq_true rfl), (Nat.le_of_ble_eq_true rfl)⟩) hA hH (fun H locs hH => ?_)
              obtain ⟨hi41, h⟩ := mi_chk h
              refine fm_ild hx hb hst.1 hH 41 (fm_inb (by decide)) rfl rfl hi41 dL_acts_300 ?_
              refine lv_isub hx hb dL_acts_301 ?_
              obtain ⟨hi42, h⟩ := mi_chk h
              refine fm_ist hx hb hst.1 hH 41 (fm_inb (by decide)) rfl rfl hi42 dL_acts_302 (fun H locs hH => ?_)
              obtain ⟨ρ43, hu, h⟩ := mi_b1 h
              rw [Option.some.inj hu] at hH
              clear hu
              refine lv_aload_n hx hb dL_acts_303 rfl (lv_at hl 3 rfl) ?_
              refine lv_iload hx hb dL_acts_304 (lv_at hl 2 rfl) ?_
              refine lv_iload hx hb dL_acts_306 (lv_at hl 1 rfl) ?_
              obtain ⟨r308, σ308, h308, h⟩ := mi_b2 h
              refine fm_ci (va_runV (As := [.int u6_3, .int u7_4]) (rest := []) C (kX4_block l K h308 _) (cwV 2 hts gL_acts_X4_block rfl rfl rfl (by decide +kernel) ⟨(Nat.le_of_ble_eq_true rfl), (Nat.le_of_ble_eq_true rfl)⟩) ⟨fm_blind, fm_recv hst hH (q := 0) (fm_inb (by decide)) rfl (fm_ob_0 _ _) rfl, fm_pre hst hA hH⟩ rfl rfl hl.1 rfl (lv_room (Nat.le_of_ble_eq_true rfl)) dL_acts_308 ⟨(Nat.le_of_ble_eq_true rfl), (Nat.le_of_ble_eq_true rfl)⟩) hA hH (fun H locs hH => ?_)
              refine lv_aload_n hx hb dL_acts_311 rfl (lv_at hl 5 rfl) ?_
              refine lv_iload hx hb dL_acts_312 (lv_at hl 2 rfl) ?_
              refine lv_iload hx hb dL_acts_314 (lv_at hl 1 rfl) ?_
              obtain ⟨r316, h316, h⟩ := mi_b1 h
              refine fm_ci (va_runS (As := [.int u6_3, .int u7_4]) (rest := [.ref (K.2.2.2 41), .int r308]) C (kL_pair l K h316 _) (va_cwS 2 hts gL_acts_L_pair rfl rfl rfl (by decide +kernel) ⟨(Nat.le_of_ble_eq_true rfl), (Nat.le_of_ble_eq_true rfl)⟩) ⟨fm_blind, fm_pre hst hA hH⟩ rfl rfl hl.1 rfl (lv_room (Nat.le_of_ble_eq_true rfl)) dL_acts_316 ⟨(Nat.le_of_ble_eq_true rfl), (Nat.le_of_ble_eq_true rfl)⟩) hA hH (fun H locs hH => ?_)
              obtain ⟨hi44, h⟩ := mi_chk h
              refine fm_ild hx hb hst.1 hH 41 (fm_inb (by decide)) rfl rfl hi44 dL_acts_319 ?_
              refine lv_iconst (v := 1) hx hb dL_acts_320 (by decide) ?_
              obtain ⟨v45_0, hd, h2⟩ := mi_b1 h
              have kj : ∀ (ls : Array Slot) (H : Heap) (locs : List Loc), lv_has ls 12 [] → fm_H K σ308 (fm_A K s.heap.size) s H locs → W p l e rmL_acts s m args below meth c H locs 0 0 Q (F0 m 329 ls [.int v45_0, .int r308]) := by
                clear h hd
                intro ls H locs hl hH
                have h := h2
                clear h2
                refine lv_icmp_ne (tgt := 336) hx hb dL_acts_329 (by decide) (fun hc => ?_) (fun hc => ?_)
                · replace h := mi_neg hc h
                  refine lv_iconst (v := 0) hx hb dL_acts_336 (by decide) ?_
                  cases h
                  subst hQ
                  exact fm_zretW hx hb hr rfl hlk hst hH (Nat.le_of_ble_eq_true rfl) (Nat.le_of_ble_eq_true rfl) dL_acts_337
                · replace h := mi_pos hc h
                  refine lv_iconst (v := 1) hx hb dL_acts_332 (by decide) ?_
                  refine lv_goto (tgt := 337) hx hb dL_acts_333 (by decide) ?_
                  cases h
                  subst hQ
                  exact fm_zretW hx hb hr rfl hlk hst hH (Nat.le_of_ble_eq_true rfl) (Nat.le_of_ble_eq_true rfl) dL_acts_337
              replace h := hd
              clear h2 hd
              refine lv_icmp_ne (tgt := 328) hx hb dL_acts_321 (by decide) (fun hc => ?_) (fun hc => ?_)
              · replace h := mi_neg hc h
                refine lv_iconst (v := 0) hx hb dL_acts_328 (by decide) ?_
                cases h
                exact kj _ _ _ (lv_sub hl [] rfl) hH
              · replace h := mi_pos hc h
                refine lv_iconst (v := 1) hx hb dL_acts_324 (by decide) ?_
                refine lv_goto (tgt := 329) hx hb dL_acts_325 (by decide) ?_
                cases h
                exact kj _ _ _ (lv_sub hl [] rfl) hH
        · replace h := mi_pos hc h
          refine lv_aload_n hx hb dL_acts_221 rfl (lv_at hl 4 rfl) ?_
          refine lv_bipush (v := 41) hx hb dL_acts_222 (by decide) ?_
          obtain ⟨hi46, h⟩ := mi_chk h
          refine fm_ild hx hb hst.1 hH 40 (fm_inb (by decide)) rfl rfl hi46 dL_acts_224 ?_
          obtain ⟨u9_47, hu, h⟩ := mi_b1 h
          rw [Option.some.inj hu]
          clear hu
          refine lv_istore (lv' := [(9, .int u9_47), (8, .int u8_5), (7, .int u7_4), (6, .int u6_3), (0, .ref (K.2.2.2 0)), (1, .ref (K.2.2.2 40)), (2, .ref (K.2.2.2 41)), (3, .ref (K.2.2.2 42)), (4, .int x4), (5, .int x5)]) hx hb dL_acts_225 hl (by decide) rfl (fun ls hl => ?_)
          refine lv_aload_n hx hb dL_acts_227 rfl (lv_at hl 5 rfl) ?_
          refine lv_bipush (v := 41) hx hb dL_acts_228 (by decide) ?_
          refine lv_iload hx hb dL_acts_230 (lv_at hl 9 rfl) ?_
          refine lv_iconst (v := 4) hx hb dL_acts_232 (by decide) ?_
          refine lv_irem hx hb dL_acts_233 (by decide) ?_
          obtain ⟨v48_0, hd, h2⟩ := mi_b1 h
          have kj : ∀ (ls : Array Slot) (H : Heap) (locs : List Loc), lv_has ls 12 [(0, .ref (K.2.2.2 0)), (1, .ref (K.2.2.2 40)), (9, .int u9_47)] → fm_H K σ (fm_A K s.heap.size) s H locs → W p l e rmL_acts s m args below meth c H locs 0 0 Q (F0 m 250 ls [.int v48_0, .int (41 : Int32), .ref (K.2.2.2 40)]) := by
            clear h hd
            intro ls H locs hl hH
            have h := h2
            clear h2
            refine fm_ist hx hb hst.1 hH 40 (fm_inb (by decide)) rfl rfl hi46 dL_acts_250 (fun H locs hH => ?_)
            obtain ⟨ρ49, hu, h⟩ := mi_b1 h
            rw [Option.some.inj hu] at hH
            clear hu
            refine lv_aload_n hx hb dL_acts_251 rfl (lv_at hl 0 rfl) ?_
            refine lv_aload_n hx hb dL_acts_252 rfl (lv_at hl 1 rfl) ?_
            refine lv_bipush (v := 41) hx hb dL_acts_253 (by decide) ?_
            refine fm_ild hx hb hst.1 hH 40 (fm_inb (by decide)) rfl rfl hi46 dL_acts_255 ?_
            obtain ⟨r256, σ256, h256, h⟩ := mi_b2 h
            refine fm_ci (va_runV (As := [.int (rI ρ49 40 (41 : Int32))]) (rest := []) C (kX4_setRange l K h256 _) (cwV 1 hts gL_acts_X4_setRange rfl rfl rfl (by decide +kernel) ⟨(Nat.le_of_ble_eq_true rfl), (Nat.le_of_ble_eq_true rfl)⟩) ⟨fm_blind, fm_recv hst hH (q := 0) (fm_inb (by decide)) rfl (fm_ob_0 _ _) rfl, fm_pre hst hA hH⟩ rfl rfl hl.1 rfl (lv_room (Nat.le_of_ble_eq_true rfl)) dL_acts_256 ⟨(Nat.le_of_ble_eq_true rfl), (Nat.le_of_ble_eq_true rfl)⟩) hA hH (fun H locs hH => ?_)
            refine lv_iload hx hb dL_acts_259 (lv_at hl 2 rfl) ?_
            refine lv_icmp_ne (tgt := 268) hx hb dL_acts_261 (by decide) (fun hc => ?_) (fun hc => ?_)
            · replace h := mi_neg hc h
              refine lv_iconst (v := 0) hx hb dL_acts_268 (by decide) ?_
              cases h
              subst hQ
              exact fm_zretW hx hb hr rfl hlk hst hH (Nat.le_of_ble_eq_true rfl) (Nat.le_of_ble_eq_true rfl) dL_acts_269
            · replace h := mi_pos hc h
              refine lv_iconst (v := 1) hx hb dL_acts_264 (by decide) ?_
              refine lv_goto (tgt := 269) hx hb dL_acts_265 (by decide) ?_
              cases h
              subst hQ
              exact fm_zretW hx hb hr rfl hlk hst hH (Nat.le_of_ble_eq_true rfl) (Nat.le_of_ble_eq_true rfl) dL_acts_269
          replace h := hd
          clear h2 hd
          refine lv_if_ne (tgt := 248) hx hb dL_acts_234 (by decide) (fun hc => ?_) (fun hc => ?_)
          · replace h := mi_neg hc h
            refine lv_bipush (v := 90) hx hb dL_acts_248 (by decide) ?_
            cases h
            exact kj _ _ _ (lv_sub hl [4, 5, 0] rfl) hH
          · replace h := mi_pos hc h
            refine lv_iload hx hb dL_acts_237 (lv_at hl 9 rfl) ?_
            refine lv_iconst (v := 4) hx hb dL_acts_239 (by decide) ?_
            refine lv_idiv hx hb dL_acts_240 (by decide) ?_
            refine lv_sipush (v := 200) hx hb dL_acts_241 (by decide) ?_
            refine lv_irem hx hb dL_acts_244 (by decide) ?_
            refine lv_goto (tgt := 250) hx hb dL_acts_245 (by decide) ?_
            cases h
            exact kj _ _ _ (lv_sub hl [4, 5, 0] rfl) hH
      · replace h := mi_pos hc h
        refine lv_aload_n hx hb dL_acts_170 rfl (lv_at hl 4 rfl) ?_
        refine lv_iload hx hb dL_acts_171 (lv_at hl 0 rfl) ?_
        refine lv_iconst (v := 3) hx hb dL_acts_173 (by decide) ?_
        refine lv_iadd hx hb dL_acts_174 ?_
        obtain ⟨hi50, h⟩ := mi_chk h
        refine fm_ild hx hb hst.1 hH 40 (fm_inb (by decide)) rfl rfl hi50 dL_acts_175 ?_
        obtain ⟨u9_51, hu, h⟩ := mi_b1 h
        rw [Option.some.inj hu]
        clear hu
        refine lv_istore (lv' := [(9, .int u9_51), (8, .int u8_5), (7, .int u7_4), (6, .int u6_3), (0, .ref (K.2.2.2 0)), (1, .ref (K.2.2.2 40)), (2, .ref (K.2.2.2 41)), (3, .ref (K.2.2.2 42)), (4, .int x4), (5, .int x5)]) hx hb dL_acts_176 hl (by decide) rfl (fun ls hl => ?_)
        refine lv_aload_n hx hb dL_acts_178 rfl (lv_at hl 5 rfl) ?_
        refine lv_iload hx hb dL_acts_179 (lv_at hl 1 rfl) ?_
        refine lv_iconst (v := 3) hx hb dL_acts_181 (by decide) ?_
        refine lv_iadd hx hb dL_acts_182 ?_
        refine lv_iload hx hb dL_acts_183 (lv_at hl 9 rfl) ?_
        refine lv_bipush (v := 8) hx hb dL_acts_185 (by decide) ?_
        refine lv_idiv hx hb dL_acts_187 (by decide) ?_
        refine lv_iconst (v := 4) hx hb dL_acts_188 (by decide) ?_
        refine lv_irem hx hb dL_acts_189 (by decide) ?_
        refine fm_ist hx hb hst.1 hH 40 (fm_inb (by decide)) rfl rfl hi50 dL_acts_190 (fun H locs hH => ?_)
        obtain ⟨ρ52, hu, h⟩ := mi_b1 h
        rw [Option.some.inj hu] at hH
        clear hu
        refine lv_aload_n hx hb dL_acts_191 rfl (lv_at hl 4 rfl) ?_
        refine lv_iload hx hb dL_acts_192 (lv_at hl 3 rfl) ?_
        refine lv_iload hx hb dL_acts_194 (lv_at hl 9 rfl) ?_
        refine lv_bipush (v := 8) hx hb dL_acts_196 (by decide) ?_
        refine lv_idiv hx hb dL_acts_198 (by decide) ?_
        refine lv_iconst (v := 4) hx hb dL_acts_199 (by decide) ?_
        refine lv_irem hx hb dL_acts_200 (by decide) ?_
        obtain ⟨r201, σ201, h201, h⟩ := mi_b2 h
        refine fm_ci (va_runV (As := [.int u6_3, .int ((x5 / (8 : Int32)) - (x5 / (8 : Int32)) / (4 : Int32) * (4 : Int32))]) (rest := []) C (kX4_setPriority l K h201 _) (cwV 2 hts gL_acts_X4_setPriority rfl rfl rfl (by decide +kernel) ⟨(Nat.le_of_ble_eq_true rfl), (Nat.le_of_ble_eq_true rfl)⟩) ⟨fm_blind, fm_recv hst hH (q := 0) (fm_inb (by decide)) rfl (fm_ob_0 _ _) rfl, fm_pre hst hA hH⟩ rfl rfl hl.1 rfl (lv_room (Nat.le_of_ble_eq_true rfl)) dL_acts_201 ⟨(Nat.le_of_ble_eq_true rfl), (Nat.le_of_ble_eq_true rfl)⟩) hA hH (fun H locs hH => ?_)
        refine lv_iload hx hb dL_acts_204 (lv_at hl 0 rfl) ?_
        refine lv_icmp_ne (tgt := 213) hx hb dL_acts_206 (by decide) (fun hc => ?_) (fun hc => ?_)
        · replace h := mi_neg hc h
          refine lv_iconst (v := 0) hx hb dL_acts_213 (by decide) ?_
          cases h
          subst hQ
          exact fm_zretW hx hb hr rfl hlk hst hH (Nat.le_of_ble_eq_true rfl) (Nat.le_of_ble_eq_true rfl) dL_acts_214
        · replace h := mi_pos hc h
          refine lv_iconst (v := 1) hx hb dL_acts_209 (by decide) ?_
          refine lv_goto (tgt := 214) hx hb dL_acts_210 (by decide) ?_
          cases h
          subst hQ
          exact fm_zretW hx hb hr rfl hlk hst hH (Nat.le_of_ble_eq_true rfl) (Nat.le_of_ble_eq_true rfl) dL_acts_214
    · replace h := mi_pos hc h
      refine lv_aload_n hx hb dL_acts_98 rfl (lv_at hl 4 rfl) ?_
      refine lv_iload hx hb dL_acts_99 (lv_at hl 0 rfl) ?_
      refine lv_iconst (v := 2) hx hb dL_acts_101 (by decide) ?_
      refine lv_iadd hx hb dL_acts_102 ?_
      refine lv_iload hx hb dL_acts_103 (lv_at hl 8 rfl) ?_
      refine lv_iconst (v := 3) hx hb dL_acts_105 (by decide) ?_
      refine lv_irem hx hb dL_acts_106 (by decide) ?_
      obtain ⟨v55_0, hd, h2⟩ := mi_b1 h
      have kj : ∀ (ls : Array Slot) (H : Heap) (locs : List Loc), lv_has ls 12 [(0, .ref (K.2.2.2 0)), (1, .ref (K.2.2.2 40)), (5, .int x5), (6, .int u6_3), (8, .int u8_5)] → fm_H K σ (fm_A K s.heap.size) s H locs → W p l e rmL_acts s m args below meth c H locs 0 0 Q (F0 m 127 ls [.int v55_0, .int (u8_5 + (2 : Int32)), .ref (K.2.2.2 40)]) := by
        clear h hd
        intro ls H locs hl hH
        have h := h2
        clear h2
        obtain ⟨hi58, h⟩ := mi_chk h
        refine fm_ist hx hb hst.1 hH 40 (fm_inb (by decide)) rfl rfl hi58 dL_acts_127 (fun H locs hH => ?_)
        obtain ⟨ρ59, hu, h⟩ := mi_b1 h
        rw [Option.some.inj hu] at hH
        clear hu
        refine lv_iload hx hb dL_acts_128 (lv_at hl 2 rfl) ?_
        refine lv_iconst (v := 3) hx hb dL_acts_130 (by decide) ?_
        refine lv_irem hx hb dL_acts_131 (by decide) ?_
        refine lv_if_gt (tgt := 158) hx hb dL_acts_132 (by decide) (fun hc => ?_) (fun hc => ?_)
        · replace h := mi_pos hc h
          refine lv_iconst (v := 1) hx hb dL_acts_158 (by decide) ?_
          refine lv_goto (tgt := 163) hx hb dL_acts_159 (by decide) ?_
          cases h
          subst hQ
          exact fm_zretW hx hb hr rfl hlk hst hH (Nat.le_of_ble_eq_true rfl) (Nat.le_of_ble_eq_true rfl) dL_acts_163
        · replace h := mi_neg hc h
          refine lv_aload_n hx hb dL_acts_135 rfl (lv_at hl 0 rfl) ?_
          refine lv_iload hx hb dL_acts_136 (lv_at hl 3 rfl) ?_
          obtain ⟨r138, σ138, h138, h⟩ := mi_b2 h
          refine fm_ci (va_runV (As := [.int u6_3]) (rest := []) C (kX4_toggle l K h138 _) (cwV 1 hts gL_acts_X4_toggle rfl rfl rfl (by decide +kernel) ⟨(Nat.le_of_ble_eq_true rfl), (Nat.le_of_ble_eq_true rfl)⟩) ⟨fm_blind, fm_recv hst hH (q := 0) (fm_inb (by decide)) rfl (fm_ob_0 _ _) rfl, fm_pre hst hA hH⟩ rfl rfl hl.1 rfl (lv_room (Nat.le_of_ble_eq_true rfl)) dL_acts_138 ⟨(Nat.le_of_ble_eq_true rfl), (Nat.le_of_ble_eq_true rfl)⟩) hA hH (fun H locs hH => ?_)
          refine lv_aload_n hx hb dL_acts_141 rfl (lv_at hl 1 rfl) ?_
          refine lv_iload hx hb dL_acts_142 (lv_at hl 4 rfl) ?_
          refine lv_iconst (v := 2) hx hb dL_acts_144 (by decide) ?_
          refine lv_iadd hx hb dL_acts_145 ?_
          refine fm_ild hx hb hst.1 hH 40 (fm_inb (by decide)) rfl rfl hi58 dL_acts_146 ?_
          obtain ⟨v60_0, hd, h2⟩ := mi_b1 h
          have kj : ∀ (ls : Array Slot) (H : Heap) (locs : List Loc), lv_has ls 12 [] → fm_H K σ138 (fm_A K s.heap.size) s H locs → W p l e rmL_acts s m args below meth c H locs 0 0 Q (F0 m 155 ls [.int v60_0, .int r138]) := by
            clear h hd
            intro ls H locs hl hH
            have h := h2
            clear h2
            refine lv_icmp_ne (tgt := 162) hx hb dL_acts_155 (by decide) (fun hc => ?_) (fun hc => ?_)
            · replace h := mi_neg hc h
              refine lv_iconst (v := 0) hx hb dL_acts_162 (by decide) ?_
              cases h
              subst hQ
              exact fm_zretW hx hb hr rfl hlk hst hH (Nat.le_of_ble_eq_true rfl) (Nat.le_of_ble_eq_true rfl) dL_acts_163
            · replace h := mi_pos hc h
              refine lv_iconst (v := 1) hx hb dL_acts_158 (by decide) ?_
              refine lv_goto (tgt := 163) hx hb dL_acts_159 (by decide) ?_
              cases h
              subst hQ
              exact fm_zretW hx hb hr rfl hlk hst hH (Nat.le_of_ble_eq_true rfl) (Nat.le_of_ble_eq_true rfl) dL_acts_163
          replace h := hd
          clear h2 hd
          refine lv_if_ne (tgt := 154) hx hb dL_acts_147 (by decide) (fun hc => ?_) (fun hc => ?_)
          · replace h := mi_neg hc h
            refine lv_iconst (v := 0) hx hb dL_acts_154 (by decide) ?_
            cases h
            exact kj _ _ _ (lv_sub hl [] rfl) hH
          · replace h := mi_pos hc h
            refine lv_iconst (v := 1) hx hb dL_acts_150 (by decide) ?_
            refine lv_goto (tgt := 155) hx hb dL_acts_151 (by decide) ?_
            cases h
            exact kj _ _ _ (lv_sub hl [] rfl) hH
      replace h := hd
      clear h2 hd
      refine lv_if_ne (tgt := 121) hx hb dL_acts_107 (by decide) (fun hc => ?_) (fun hc => ?_)
      · replace h := mi_neg hc h
        refine lv_aload_n hx hb dL_acts_121 rfl (lv_at hl 4 rfl) ?_
        refine lv_iload hx hb dL_acts_122 (lv_at hl 0 rfl) ?_
        refine lv_iconst (v := 2) hx hb dL_acts_124 (by decide) ?_
        refine lv_iadd hx hb dL_acts_125 ?_
        obtain ⟨hi56, h⟩ := mi_chk h
        refine fm_ild hx hb hst.1 hH 40 (fm_inb (by decide)) rfl rfl hi56 dL_acts_126 ?_
        cases h
        exact kj _ _ _ (lv_sub hl [3, 4, 8, 2, 0] rfl) hH
      · replace h := mi_pos hc h
        refine lv_iconst (v := 1) hx hb dL_acts_110 (by decide) ?_
        refine lv_aload_n hx hb dL_acts_111 rfl (lv_at hl 4 rfl) ?_
        refine lv_iload hx hb dL_acts_112 (lv_at hl 0 rfl) ?_
        refine lv_iconst (v := 2) hx hb dL_acts_114 (by decide) ?_
        refine lv_iadd hx hb dL_acts_115 ?_
        obtain ⟨hi57, h⟩ := mi_chk h
        refine fm_ild hx hb hst.1 hH 40 (fm_inb (by decide)) rfl rfl hi57 dL_acts_116 ?_
        refine lv_isub hx hb dL_acts_117 ?_
        refine lv_goto (tgt := 127) hx hb dL_acts_118 (by decide) ?_
        cases h
        exact kj _ _ _ (lv_sub hl [3, 4, 8, 2, 0] rfl) hH
  · replace h := mi_pos hc h
    refine lv_aload_n hx hb dL_acts_40 rfl (lv_at hl 4 rfl) ?_
    refine lv_iload hx hb dL_acts_41 (lv_at hl 0 rfl) ?_
    refine lv_iload hx hb dL_acts_43 (lv_at hl 8 rfl) ?_
    refine lv_bipush (v := 8) hx hb dL_acts_45 (by decide) ?_
    refine lv_idiv hx hb dL_acts_47 (by decide) ?_
    refine lv_sipush (v := 160) hx hb dL_acts_48 (by decide) ?_
    refine lv_irem hx hb dL_acts_51 (by decide) ?_
    refine lv_bipush (v := 80) hx hb dL_acts_52 (by decide) ?_
    refine lv_isub hx hb dL_acts_54 ?_
    obtain ⟨hi61, h⟩ := mi_chk h
    refine fm_ist hx hb hst.1 hH 40 (fm_inb (by decide)) rfl rfl hi61 dL_acts_55 (fun H locs hH => ?_)
    obtain ⟨ρ62, hu, h⟩ := mi_b1 h
    rw [Option.some.inj hu] at hH
    clear hu
    refine lv_aload_n hx hb dL_acts_56 rfl (lv_at hl 4 rfl) ?_
    refine lv_iload hx hb dL_acts_57 (lv_at hl 0 rfl) ?_
    refine lv_iconst (v := 1) hx hb dL_acts_59 (by decide) ?_
    refine lv_iadd hx hb dL_acts_60 ?_
    refine lv_iload hx hb dL_acts_61 (lv_at hl 8 rfl) ?_
    refine lv_sipush (v := 1280) hx hb dL_acts_63 (by decide) ?_
    refine lv_idiv hx hb dL_acts_66 (by decide) ?_
    refine lv_bipush (v := 80) hx hb dL_acts_67 (by decide) ?_
    refine lv_irem hx hb dL_acts_69 (by decide) ?_
    refine lv_bipush (v := 40) hx hb dL_acts_70 (by decide) ?_
    refine lv_isub hx hb dL_acts_72 ?_
    obtain ⟨hi63, h⟩ := mi_chk h
    refine fm_ist hx hb hst.1 hH 40 (fm_inb (by decide)) rfl rfl hi63 dL_acts_73 (fun H locs hH => ?_)
    obtain ⟨ρ64, hu, h⟩ := mi_b1 h
    rw [Option.some.inj hu] at hH
    clear hu
    refine lv_aload_n hx hb dL_acts_74 rfl (lv_at hl 3 rfl) ?_
    refine lv_iload hx hb dL_acts_75 (lv_at hl 2 rfl) ?_
    refine lv_aload_n hx hb dL_acts_77 rfl (lv_at hl 4 rfl) ?_
    refine lv_iload hx hb dL_acts_78 (lv_at hl 0 rfl) ?_
    refine fm_ild hx hb hst.1 hH 40 (fm_inb (by decide)) rfl rfl hi61 dL_acts_80 ?_
    refine lv_aload_n hx hb dL_acts_81 rfl (lv_at hl 4 rfl) ?_
    refine lv_iload hx hb dL_acts_82 (lv_at hl 0 rfl) ?_
    refine lv_iconst (v := 1) hx hb dL_acts_84 (by decide) ?_
    refine lv_iadd hx hb dL_acts_85 ?_
    refine fm_ild hx hb hst.1 hH 40 (fm_inb (by decide)) rfl rfl hi63 dL_acts_86 ?_
    obtain ⟨σ87, h87, h⟩ := mi_b1 h
    refine fm_cv (va_runV (As := [.int u6_3, .int (rI ρ64 40 u8_5), .int (rI ρ64 40 (u8_5 + (1 : Int32)))]) (rest := []) C (kX4_move l K h87 _) (cwV 3 hts gL_acts_X4_move rfl rfl rfl (by decide +kernel) ⟨(Nat.le_of_ble_eq_true rfl), (Nat.le_of_ble_eq_true rfl)⟩) ⟨fm_blind, fm_recv hst hH (q := 0) (fm_inb (by decide)) rfl (fm_ob_0 _ _) rfl, fm_pre hst hA hH⟩ rfl rfl hl.1 rfl (lv_room (Nat.le_of_ble_eq_true rfl)) dL_acts_87 ⟨(Nat.le_of_ble_eq_true rfl), (Nat.le_of_ble_eq_true rfl)⟩) hA hH (fun H locs hH => ?_)
    refine lv_iconst (v := 1) hx hb dL_acts_90 (by decide) ?_
    cases h
    subst hQ
    exact fm_zretW hx hb hr rfl hlk hst hH (Nat.le_of_ble_eq_true rfl) (Nat.le_of_ble_eq_true rfl) dL_acts_91
