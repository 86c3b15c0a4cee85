/-! RL.holds, from its rows on -/
abbrev rmL_holds : Room := { frames := 9, cells := 900, slots := 7100, locals := 220 }
def mL_holds_L72 (xs : Nat → Int32) (L : Nat) : Nat → Int32 → Int32 → fm_S → Option (Int32 × fm_S)
  | 0, _, _, _ => none
  | n + 1, x5, x6, σ =>
    if (90 : Int32) ≤ x6 then
      some (x5, σ)
    else
      if x5 = 0 then
        some (x5, σ)
      else
        mb1 (mL_from xs L ((2 : Int32) * x6) (15 : Int32)) fun r91 =>
        mb1 (mL_from xs L (((2 : Int32) * x6) + (1 : Int32)) (1000000 : Int32)) fun r105 =>
        if ((40 : Int32) < 0 ∨ 48 ≤ (40 : Int32).toNatClampNeg) then none else
        mb2 (show Option (Int32 × fm_S) from
          if (5 : Int32) ≤ (rI σ 40 (40 : Int32)) then
            mb2 (mL_acts r91 r105 σ) fun r227 σ227 =>
            some (r227, σ227)
          else
            if x6 < (3 : Int32) then
              mb1 (some ((8 : Int32) * (rI σ 40 (40 : Int32)))) fun u9_24 =>
              if (u9_24 < 0 ∨ 48 ≤ u9_24.toNatClampNeg) then none else
              mb1 (some (sI σ 40 u9_24 ((r105 - r105 / (120 : Int32) * (120 : Int32)) - (60 : Int32)))) fun ρ26 =>
              if ((u9_24 + (1 : Int32)) < 0 ∨ 48 ≤ (u9_24 + (1 : Int32)).toNatClampNeg) then none else
              mb1 (some (sI ρ26 40 (u9_24 + (1 : Int32)) (((r105 / (120 : Int32)) - (r105 / (120 : Int32)) / (80 : Int32) * (80 : Int32)) - (40 : Int32)))) fun ρ28 =>
              if ((u9_24 + (6 : Int32)) < 0 ∨ 48 ≤ (u9_24 + (6 : Int32)).toNatClampNeg) then none else
              mb1 (some (sI ρ28 40 (u9_24 + (6 : Int32)) (1024 : Int32))) fun ρ30 =>
              mb2 (mX4_addMember (rI ρ30 40 u9_24) (rI ρ30 40 (u9_24 + (1 : Int32))) ρ30) fun r190 σ190 =>
              mb1 (show Option (Int32) from
                if r190 = (rI σ190 40 (40 : Int32)) then
                  some ((1 : Int32))
                else
                  some ((0 : Int32))) fun v31_0 =>
              mb1 (some (sI σ190 40 (40 : Int32) ((rI σ190 40 (40 : Int32)) + (1 : Int32)))) fun ρ32 =>
              some (v31_0, ρ32)
            else
              if r91 = (14 : Int32) then
                mb1 (some ((8 : Int32) * (rI σ 40 (40 : Int32)))) fun u9_33 =>
                if (u9_33 < 0 ∨ 48 ≤ u9_33.toNatClampNeg) then none else
                mb1 (some (sI σ 40 u9_33 ((r105 - r105 / (120 : Int32) * (120 : Int32)) - (60 : Int32)))) fun ρ35 =>
                if ((u9_33 + (1 : Int32)) < 0 ∨ 48 ≤ (u9_33 + (1 : Int32)).toNatClampNeg) then none else
                mb1 (some (sI ρ35 40 (u9_33 + (1 : Int32)) (((r105 / (120 : Int32)) - (r105 / (120 : Int32)) / (80 : Int32) * (80 : Int32)) - (40 : Int32)))) fun ρ37 =>
                if ((u9_33 + (6 : Int32)) < 0 ∨ 48 ≤ (u9_33 + (6 : Int32)).toNatClampNeg) then none else
                mb1 (some (sI ρ37 40 (u9_33 + (6 : Int32)) (1024 : Int32))) fun ρ39 =>
                mb2 (mX4_addMember (rI ρ39 40 u9_33) (rI ρ39 40 (u9_33 + (1 : Int32))) ρ39) fun r190 σ190 =>
                mb1 (show Option (Int32) from
                  if r190 = (rI σ190 40 (40 : Int32)) then
                    some ((1 : Int32))
                  else
                    some ((0 : Int32))) fun v40_0 =>
                mb1 (some (sI σ190 40 (40 : Int32) ((rI σ190 40 (40 : Int32)) + (1 : Int32)))) fun ρ41 =>
                some (v40_0, ρ41)
              else
                mb2 (mL_acts r91 r105 σ) fun r227 σ227 =>
                some (r227, σ227)) fun w23_5 σ23 =>
        if w23_5 = 0 then
          mL_holds_L72 xs L n (0 : Int32) (x6 + 1) σ23
        else
          mb2 (mL_isLinked σ23) fun r240 σ240 =>
          if r240 = 0 then
            mL_holds_L72 xs L n (0 : Int32) (x6 + 1) σ240
          else
            mb2 (mX4_error σ240) fun r247 σ247 =>
            mb1 (mL_error σ247) fun r254 =>
            if r247 = r254 then
              if (x6 - x6 / (9 : Int32) * (9 : Int32)) < (8 : Int32) then
                mL_holds_L72 xs L n (1 : Int32) (x6 + 1) σ247
              else
                mb2 (mL_isFigure r105 σ247) fun r275 σ275 =>
                if r275 = 0 then
                  mL_holds_L72 xs L n (0 : Int32) (x6 + 1) σ275
                else
                  mL_holds_L72 xs L n (1 : Int32) (x6 + 1) σ275
            else
              mL_holds_L72 xs L n (0 : Int32) (x6 + 1) σ247
set_option maxHeartbeats 4000000 in
set_option maxRecDepth 100000 in
theorem wL_holds_L72 {p : Program} {l : Launch} {e : Env} {s : State} {m : MethodId} {args : Array Value} {below : List Frame} {meth : Method} {c : Code} {Q : State → Prop} {K : fm_K} {A : Nat → Prop} {b L : Nat} {xs : Nat → Int32} (hsc : fm_scr K b L xs) (C : CallFix p m c cL_holds 10 s args wsL_holds RL) (hst : fm_st K A s s.heap) (hA : ∀ q, fm_A K s.heap.size q → A q) (hn : fm_n K = 0) (hfl : l.stackTraces = false) :
    ∀ (n : Nat) (ce sl CE SL : Nat) (_ : ce + 9 * n ≤ CE) (_ : sl + 70 * n ≤ SL) (_ : CE ≤ 900) (_ : SL ≤ 7100) (x5 : Int32) (x6 : Int32) (σ : fm_S) (o5 : Int32) (σo : fm_S), mL_holds_L72 xs L n x5 x6 σ = some (o5, σo) → (∀ (ls : Array Slot) (H : Heap) (locs : List Loc), lv_has ls 10 [(5, .int o5)] → fm_H K σo A s H locs → W p l e rmL_holds s m args below meth c H locs CE SL Q (F0 m 294 ls [])) → ∀ (ls : Array Slot) (H : Heap) (locs : List Loc), lv_has ls 10 [(0, .ref b), (1, .ref (K.2.2.2 0)), (2, .ref (K.2.2.2 40)), (3, .ref (K.2.2.2 41)), (4, .ref (K.2.2.2 42)), (5, .int x5), (6, .int x6)] → fm_H K σ A s H locs → W p l e rmL_holds s m args below meth c H locs ce sl Q (F0 m 72 ls []) := by
  obtain ⟨hx, hb, hml, hown, hts⟩ := id C
  obtain ⟨hX, hbl, hbA⟩ := fm_scr_at hsc hst
  intro n
  induction n with
  | zero => intro ce sl CE SL hce hsl hCE hSL x5 x6 σ o5 σo h; simp [mL_holds_L72] at h
  | succ n ih =>
    intro ce sl CE SL hce hsl hCE hSL x5 x6 σ o5 σo h kk ls H locs hl hH
    rw [mL_holds_L72] at h
    refine lv_iload hx hb dL_holds_72 (lv_at hl 6 rfl) ?_
    refine lv_bipush (v := 90) hx hb dL_holds_74 (by decide) ?_
    refine lv_icmp_ge (tgt := 294) hx hb dL_holds_76 (by decide) (fun hc => ?_) (fun hc => ?_)
    · replace h := mi_pos hc h
      cases h
      refine W.widen (k := CE) (n := SL) (by omega) (by omega) ?_
      exact kk _ _ _ (lv_sub hl [5] rfl) hH
    · replace h := mi_neg hc h
      refine lv_iload hx hb dL_holds_79 (lv_at hl 5 rfl) ?_
      refine lv_if_eq (tgt := 294) hx hb dL_holds_81 (by decide) (fun hc => ?_) (fun hc => ?_)
      · replace h := mi_pos hc h
        cases h
        refine W.widen (k := CE) (n := SL) (by omega) (by omega) ?_
        exact kk _ _ _ (lv_sub hl [5] rfl) hH
      · replace h := mi_neg hc h
        refine lv_aload_n hx hb dL_holds_84 rfl (lv_at hl 0 rfl) ?_
        refine lv_iconst (v := 2) hx hb dL_holds_85 (by decide) ?_
        refine lv_iload hx hb dL_holds_86 (lv_at hl 6 rfl) ?_
        refine lv_imul hx hb dL_holds_88 ?_
        refine lv_bipush (v := 15) hx hb dL_holds_89 (by decide) ?_
        obtain ⟨r91, h91, h⟩ := mi_b1 h
        refine fm_ci (va_runS (As := [.ref b, .int ((2 : Int32) * x6), .int (15 : Int32)]) (rest := []) C (kL_from l K hsc h91 _) (va_cwS 3 hts gL_holds_L_from rfl rfl rfl (by decide +kernel) ⟨(Nat.le_of_ble_eq_true rfl), (Nat.le_of_ble_eq_true rfl)⟩) ⟨fm_blind, fm_pre hst hA hH⟩ rfl rfl hl.1 rfl (lv_room (Nat.le_of_ble_eq_true rfl)) dL_holds_91 ⟨by show _ ≤ 900; omega, by show _ ≤ 7100; omega⟩) hA hH (fun H locs hH => ?_)
        refine lv_istore (lv' := [(7, .int r91), (0, .ref b), (1, .ref (K.2.2.2 0)), (2, .ref (K.2.2.2 40)), (3, .ref (K.2.2.2 41)), (4, .ref (K.2.2.2 42)), (5, .int x5), (6, .int x6)]) hx hb dL_holds_94 hl (by decide) rfl (fun ls hl => ?_)
        refine lv_aload_n hx hb dL_holds_96 rfl (lv_at hl 1 rfl) ?_
        refine lv_iconst (v := 2) hx hb dL_holds_97 (by decide) ?_
        refine lv_iload hx hb dL_holds_98 (lv_at hl 7 rfl) ?_
        refine lv_imul hx hb dL_holds_100 ?_
        refine lv_iconst (v := 1) hx hb dL_holds_101 (by decide) ?_
        refine lv_iadd hx hb dL_holds_102 ?_
        refine lv_ldc (v := 1000000) hx hb hown (hts (.constant RL 171 (1000000)) (List.mem_of_getElem? (i := 5) rfl)) dL_holds_103 ?_
        obtain ⟨r105, h105, h⟩ := mi_b1 h
        refine fm_ci (va_runS (As := [.ref b, .int (((2 : Int32) * x6) + (1 : Int32)), .int (1000000 : Int32)]) (rest := []) C (kL_from l K hsc h105 _) (va_cwS 3 hts gL_holds_L_from rfl rfl rfl (by decide +kernel) ⟨(Nat.le_of_ble_eq_true rfl), (Nat.le_of_ble_eq_true rfl)⟩) ⟨fm_blind, fm_pre hst hA hH⟩ rfl rfl hl.1 rfl (lv_room (Nat.le_of_ble_eq_true rfl)) dL_holds_105 ⟨by show _ ≤ 900; omega, by show _ ≤ 7100; omega⟩) hA hH (fun H locs hH => ?_)
        refine lv_istore (lv' := [(8, .int r105), (7, .int r91), (0, .ref b), (1, .ref (K.2.2.2 0)), (2, .ref (K.2.2.2 40)), (3, .ref (K.2.2.2 41)), (4, .ref (K.2.2.2 42)), (5, .int x5), (6, .int x6)]) hx hb dL_holds_108 hl (by decide) rfl (fun ls hl => ?_)
        refine lv_aload_n hx hb dL_holds_110 rfl (lv_at hl 4 rfl) ?_
        refine lv_bipush (v := 40) hx hb dL_holds_111 (by decide) ?_
        obtain ⟨hi4, h⟩ := mi_chk h
        refine fm_ild hx hb hst.1 hH 40 (fm_inb (by decide)) rfl rfl hi4 dL_holds_113 ?_
        refine lv_iconst (v := 5) hx hb dL_holds_114 (by decide) ?_
        obtain ⟨w23_5, σ23, hd, h2⟩ := mi_b2 h
        have kj : ∀ (ls : Array Slot) (H : Heap) (locs : List Loc), lv_has ls 10 [(0, .ref b), (1, .ref (K.2.2.2 0)), (2, .ref (K.2.2.2 40)), (3, .ref (K.2.2.2 41)), (4, .ref (K.2.2.2 42)), (5, .int w23_5), (6, .int x6), (8, .int r105)] → fm_H K σ23 A s H locs → W p l e rmL_holds s m args below meth c H locs (ce + 8) (sl + 64) Q (F0 m 232 ls []) := by
          clear h hd
          intro ls H locs hl hH
          have h := h2
          clear h2
          refine lv_iload hx hb dL_holds_232 (lv_at hl 5 rfl) ?_
          refine lv_if_eq (tgt := 285) hx hb dL_holds_234 (by decide) (fun hc => ?_) (fun hc => ?_)
          · replace h := mi_pos hc h
            refine lv_iconst (v := 0) hx hb dL_holds_285 (by decide) ?_
            refine lv_istore (lv' := [(5, .int (0 : Int32)), (0, .ref b), (1, .ref (K.2.2.2 0)), (2, .ref (K.2.2.2 40)), (3, .ref (K.2.2.2 41)), (4, .ref (K.2.2.2 42)), (6, .int x6), (8, .int r105)]) hx hb dL_holds_286 hl (by decide) rfl (fun ls hl => ?_)
            refine lv_iinc (v := (x6 + 1)) (lv' := [(6, .int (x6 + 1)), (5, .int (0 : Int32)), (0, .ref b), (1, .ref (K.2.2.2 0)), (2, .ref (K.2.2.2 40)), (3, .ref (K.2.2.2 41)), (4, .ref (K.2.2.2 42)), (8, .int r105)]) hx hb dL_holds_288 hl (k := 6) rfl rfl (by decide) rfl (fun ls hl => ?_)
            refine lv_goto (tgt := 72) hx hb dL_holds_291 (by decide) ?_
            refine W.widen (k := ce + 9) (n := sl + 70) (by omega) (by omega) ?_
            exact ih (ce + 9) (sl + 70) CE SL (by omega) (by omega) hCE hSL _ _ _ _ _ h kk _ _ _ (lv_sub hl [2, 3, 4, 5, 6, 1, 0] rfl) hH
          · replace h := mi_neg hc h
            refine lv_aload_n hx hb dL_holds_237 rfl (lv_at hl 1 rfl) ?_
            refine lv_aload_n hx hb dL_holds_238 rfl (lv_at hl 2 rfl) ?_
            refine lv_aload_n hx hb dL_holds_239 rfl (lv_at hl 3 rfl) ?_
            obtain ⟨r240, σ240, h240, h⟩ := mi_b2 h
            refine fm_ci (va_runS (As := [.ref (K.2.2.2 0), .ref (K.2.2.2 40), .ref (K.2.2.2 41)]) (rest := []) C (kL_isLinked l K h240 _) (va_cwS 3 hts gL_holds_L_isLinked rfl rfl rfl (by decide +kernel) ⟨(Nat.le_of_ble_eq_true rfl), (Nat.le_of_ble_eq_true rfl)⟩) ⟨fm_blind, fm_pre hst hA hH⟩ rfl rfl hl.1 rfl (lv_room (Nat.le_of_ble_eq_true rfl)) dL_holds_240 ⟨by show _ ≤ 900; omega, by show _ ≤ 7100; omega⟩) hA hH (fun H locs hH => ?_)
            refine lv_if_eq (tgt := 285) hx hb dL_holds_243 (by decide) (fun hc => ?_) (fun hc => ?_)
            · replace h := mi_pos hc h
              refine lv_iconst (v := 0) hx hb dL_holds_285 (by decide) ?_
              refine lv_istore (lv' := [(5, .int (0 : Int32)), (0, .ref b), (1, .ref (K.2.2.2 0)), (2, .ref (K.2.2.2 40)), (3, .ref (K.2.2.2 41)), (4, .ref (K.2.2.2 42)), (6, .int x6), (8, .int r105)]) hx hb dL_holds_286 hl (by decide) rfl (fun ls hl => ?_)
              refine lv_iinc (v := (x6 + 1)) (lv' := [(6, .int (x6 + 1)), (5, .int (0 : Int32)), (0, .ref b), (1, .ref (K.2.2.2 0)), (2, .ref (K.2.2.2 40)), (3, .ref (K.2.2.2 41)), (4, .ref (K.2.2.2 42)), (8, .int r105)]) hx hb dL_holds_288 hl (k := 6) rfl rfl (by decide) rfl (fun ls hl => ?_)
              refine lv_goto (tgt := 72) hx hb dL_holds_291 (by decide) ?_
              refine W.widen (k := ce + 9) (n := sl + 70) (by omega) (by omega) ?_
              exact ih (ce + 9) (sl + 70) CE SL (by omega) (by omega) hCE hSL _ _ _ _ _ h kk _ _ _ (lv_sub hl [2, 3, 4, 5, 6, 1, 0] rfl) hH
            · replace h := mi_neg hc h
              refine lv_aload_n hx hb dL_holds_246 rfl (lv_at hl 1 rfl) ?_
              obtain ⟨r247, σ247, h247, h⟩ := mi_b2 h
              refine fm_ci (va_runV (As := []) (rest := []) C (kX4_error l K h247 _) (cwV 0 hts gL_holds_X4_error rfl rfl rfl (by decide +kernel) ⟨(Nat.le_of_ble_eq_true rfl), (Nat.le_of_ble_eq_true rfl)⟩) ⟨fm_blind, fm_recv hst hH (q := 0) (fm_inb (by decide)) rfl (fm_ob_0 _ _) rfl, fm_pre hst hA hH⟩ rfl rfl hl.1 rfl (lv_room (Nat.le_of_ble_eq_true rfl)) dL_holds_247 ⟨by show _ ≤ 900; omega, by show _ ≤ 7100; omega⟩) hA hH (fun H locs hH => ?_)
              refine lv_aload_n hx hb dL_holds_250 rfl (lv_at hl 2 rfl) ?_
              refine lv_aload_n hx hb dL_holds_251 rfl (lv_at hl 3 rfl) ?_
              refine lv_aload hx hb dL_holds_252 (lv_at hl 4 rfl) ?_
              obtain ⟨r254, h254, h⟩ := mi_b1 h
              refine fm_ci (va_runS (As := [.ref (K.2.2.2 40), .ref (K.2.2.2 41), .ref (K.2.2.2 42)]) (rest := [.int r247]) C (kL_error l K h254 _) (va_cwS 3 hts gL_holds_L_error rfl rfl rfl (by decide +kernel) ⟨(Nat.le_of_ble_eq_true rfl), (Nat.le_of_ble_eq_true rfl)⟩) ⟨fm_blind, fm_pre hst hA hH⟩ rfl rfl hl.1 rfl (lv_room (Nat.le_of_ble_eq_true rfl)) dL_holds_254 ⟨by show _ ≤ 900; omega, by show _ ≤ 7100; omega⟩) hA hH (fun H locs hH => ?_)
              refine lv_icmp_ne (tgt := 285) hx hb dL_holds_257 (by decide) (fun hc => ?_) (fun hc => ?_)
              · replace h := mi_neg hc h
                refine lv_iconst (v := 0) hx hb dL_holds_285 (by decide) ?_
                refine lv_istore (lv' := [(5, .int (0 : Int32)), (0, .ref b), (1, .ref (K.2.2.2 0)), (2, .ref (K.2.2.2 40)), (3, .ref (K.2.2.2 41)), (4, .ref (K.2.2.2 42)), (6, .int x6), (8, .int r105)]) hx hb dL_holds_286 hl (by decide) rfl (fun ls hl => ?_)
                refine lv_iinc (v := (x6 + 1)) (lv' := [(6, .int (x6 + 1)), (5, .int (0 : Int32)), (0, .ref b), (1, .ref (K.2.2.2 0)), (2, .ref (K.2.2.2 40)), (3, .ref (K.2.2.2 41)), (4, .ref (K.2.2.2 42)), (8, .int r105)]) hx hb dL_holds_288 hl (k := 6) rfl rfl (by decide) rfl (fun ls hl => ?_)
                refine lv_goto (tgt := 72) hx hb dL_holds_291 (by decide) ?_
                refine W.widen (k := ce + 9) (n := sl + 70) (by omega) (by omega) ?_
                exact ih (ce + 9) (sl + 70) CE SL (by omega) (by omega) hCE hSL _ _ _ _ _ h kk _ _ _ (lv_sub hl [2, 3, 4, 5, 6, 1, 0] rfl) hH
              · replace h := mi_pos hc h
                refine lv_iload hx hb dL_holds_260 (lv_at hl 6 rfl) ?_
                refine lv_bipush (v := 9) hx hb dL_holds_262 (by decide) ?_
                refine lv_irem hx hb dL_holds_264 (by decide) ?_
                refine lv_bipush (v := 8) hx hb dL_holds_265 (by decide) ?_
                refine lv_icmp_lt (tgt := 281) hx hb dL_holds_267 (by decide) (fun hc => ?_) (fun hc => ?_)
                · replace h := mi_pos hc h
                  refine lv_iconst (v := 1) hx hb dL_holds_281 (by decide) ?_
                  refine lv_goto (tgt := 286) hx hb dL_holds_282 (by decide) ?_
                  refine lv_istore (lv' := [(5, .int (1 : Int32)), (0, .ref b), (1, .ref (K.2.2.2 0)), (2, .ref (K.2.2.2 40)), (3, .ref (K.2.2.2 41)), (4, .ref (K.2.2.2 42)), (6, .int x6), (8, .int r105)]) hx hb dL_holds_286 hl (by decide) rfl (fun ls hl => ?_)
                  refine lv_iinc (v := (x6 + 1)) (lv' := [(6, .int (x6 + 1)), (5, .int (1 : Int32)), (0, .ref b), (1, .ref (K.2.2.2 0)), (2, .ref (K.2.2.2 40)), (3, .ref (K.2.2.2 41)), (4, .ref (K.2.2.2 42)), (8, .int r105)]) hx hb dL_holds_288 hl (k := 6) rfl rfl (by decide) rfl (fun ls hl => ?_)
                  refine lv_goto (tgt := 72) hx hb dL_holds_291 (by decide) ?_
                  refine W.widen (k := ce + 9) (n := sl + 70) (by omega) (by omega) ?_
                  exact ih (ce + 9) (sl + 70) CE SL (by omega) (by omega) hCE hSL _ _ _ _ _ h kk _ _ _ (lv_sub hl [2, 3, 4, 5, 6, 1, 0] rfl) hH
                · replace h := mi_neg hc h
                  refine lv_aload_n hx hb dL_holds_270 rfl (lv_at hl 1 rfl) ?_
                  refine lv_aload_n hx hb dL_holds_271 rfl (lv_at hl 2 rfl) ?_
                  refine lv_aload_n hx hb dL_holds_272 rfl (lv_at hl 3 rfl) ?_
                  refine lv_iload hx hb dL_holds_273 (lv_at hl 7 rfl) ?_
                  obtain ⟨r275, σ275, h275, h⟩ := mi_b2 h
                  refine fm_ciW (va_runS (As := [.ref (K.2.2.2 0), .ref (K.2.2.2 40), .ref (K.2.2.2 41), .int r105]) (rest := []) C (kL_isFigure l K hfl h275 _) (va_cwS 4 hts gL_holds_L_isFigure rfl rfl rfl (by decide +kernel) ⟨(Nat.le_of_ble_eq_true rfl), (Nat.le_of_ble_eq_true rfl)⟩) ⟨fm_blind, fm_pre hst hA hH⟩ rfl rfl hl.1 rfl (lv_room (Nat.le_of_ble_eq_true rfl)) dL_holds_275 ⟨by show _ ≤ 900; omega, by show _ ≤ 7100; omega⟩) hA hH (fun H locs hH => ?_)
                  refine W.widen (k := (ce + 9)) (n := (sl + 70)) (by omega) (by omega) ?_
                  refine lv_if_eq (tgt := 285) hx hb dL_holds_278 (by decide) (fun hc => ?_) (fun hc => ?_)
                  · replace h := mi_pos hc h
                    refine lv_iconst (v := 0) hx hb dL_holds_285 (by decide) ?_
                    refine lv_istore (lv' := [(5, .int (0 : Int32)), (0, .ref b), (1, .ref (K.2.2.2 0)), (2, .ref (K.2.2.2 40)), (3, .ref (K.2.2.2 41)), (4, .ref (K.2.2.2 42)), (6, .int x6), (8, .int r105)]) hx hb dL_holds_286 hl (by decide) rfl (fun ls hl => ?_)
                    refine lv_iinc (v := (x6 + 1)) (lv' := [(6, .int (x6 + 1)), (5, .int (0 : Int32)), (0, .ref b), (1, .ref (K.2.2.2 0)), (2, .ref (K.2.2.2 40)), (3, .ref (K.2.2.2 41)), (4, .ref (K.2.2.2 42)), (8, .int r105)]) hx hb dL_holds_288 hl (k := 6) rfl rfl (by decide) rfl (fun ls hl => ?_)
                    refine lv_goto (tgt := 72) hx hb dL_holds_291 (by decide) ?_
                    refine W.widen (k := ce + 9) (n := sl + 70) (by omega) (by omega) ?_
                    exact ih (ce + 9) (sl + 70) CE SL (by omega) (by omega) hCE hSL _ _ _ _ _ h kk _ _ _ (lv_sub hl [2, 3, 4, 5, 6, 1, 0] rfl) hH
                  · replace h := mi_neg hc h
                    refine lv_iconst (v := 1) hx hb dL_holds_281 (by decide) ?_
                    refine lv_goto (tgt := 286) hx hb dL_holds_282 (by decide) ?_
                    refine lv_istore (lv' := [(5, .int (1 : Int32)), (0, .ref b), (1, .ref (K.2.2.2 0)), (2, .ref (K.2.2.2 40)), (3, .ref (K.2.2.2 41)), (4, .ref (K.2.2.2 42)), (6, .int x6), (8, .int r105)]) hx hb dL_holds_286 hl (by decide) rfl (fun ls hl => ?_)
                    refine lv_iinc (v := (x6 + 1)) (lv' := [(6, .int (x6 + 1)), (5, .int (1 : Int32)), (0, .ref b), (1, .ref (K.2.2.2 0)), (2, .ref (K.2.2.2 40)), (3, .ref (K.2.2.2 41)), (4, .ref (K.2.2.2 42)), (8, .int r105)]) hx hb dL_holds_288 hl (k := 6) rfl rfl (by decide) rfl (fun ls hl => ?_)
                    refine lv_goto (tgt := 72) hx hb dL_holds_291 (by decide) ?_
                    refine W.widen (k := ce + 9) (n := sl + 70) (by omega) (by omega) ?_
                    exact ih (ce + 9) (sl + 70) CE SL (by omega) (by omega) hCE hSL _ _ _ _ _ h kk _ _ _ (lv_sub hl [2, 3, 4, 5, 6, 1, 0] rfl) hH
        replace h := hd
        clear h2 hd
        refine lv_icmp_ge (tgt := 218) hx hb dL_holds_115 (by decide) (fun hc => ?_) (fun hc => ?_)
        · replace h := mi_pos hc h
          refine lv_aload_n hx hb dL_holds_218 rfl (lv_at hl 3 rfl) ?_
          refine lv_aload_n hx hb dL_holds_219 rfl (lv_at hl 4 rfl) ?_
          refine lv_aload_n hx hb dL_holds_220 rfl (lv_at hl 5 rfl) ?_
          refine lv_aload hx hb dL_holds_221 (lv_at hl 6 rfl) ?_
          refine lv_iload hx hb dL_holds_223 (lv_at hl 1 rfl) ?_
          refine lv_iload hx hb dL_holds_225 (lv_at hl 0 rfl) ?_
          obtain ⟨r227, σ227, h227, h⟩ := mi_b2 h
          refine fm_ciW (va_runS (As := [.ref (K.2.2.2 0), .ref (K.2.2.2 40), .ref (K.2.2.2 41), .ref (K.2.2.2 42), .int r91, .int r105]) (rest := []) C (kL_acts l K hn h227 _) (va_cwS 6 hts gL_holds_L_acts rfl rfl rfl (by decide +kernel) ⟨(Nat.le_of_ble_eq_true rfl), (Nat.le_of_ble_eq_true rfl)⟩) ⟨fm_blind, fm_pre hst hA hH⟩ rfl rfl hl.1 rfl (lv_room (Nat.le_of_ble_eq_true rfl)) dL_holds_227 ⟨by show _ ≤ 900; omega, by show _ ≤ 7100; omega⟩) hA hH (fun H locs hH => ?_)
          refine W.widen (k := (ce + 8)) (n := (sl + 64)) (by omega) (by omega) ?_
          refine lv_istore (lv' := [(5, .int r227), (8, .int r105), (7, .int r91), (0, .ref b), (1, .ref (K.2.2.2 0)), (2, .ref (K.2.2.2 40)), (3, .ref (K.2.2.2 41)), (4, .ref (K.2.2.2 42)), (6, .int x6)]) hx hb dL_holds_230 hl (by decide) rfl (fun ls hl => ?_)
          cases h
          exact kj _ _ _ (lv_sub hl [3, 4, 5, 6, 7, 0, 8, 1] rfl) hH
        · replace h := mi_neg hc h
          refine lv_iload hx hb dL_holds_118 (lv_at hl 8 rfl) ?_
          refine lv_iconst (v := 3) hx hb dL_holds_120 (by decide) ?_
          refine lv_icmp_lt (tgt := 131) hx hb dL_holds_121 (by decide) (fun hc => ?_) (fun hc => ?_)
          · replace h := mi_pos hc h
            refine lv_bipush (v := 8) hx hb dL_holds_131 (by decide) ?_
            refine lv_aload_n hx hb dL_holds_133 rfl (lv_at hl 4 rfl) ?_
            refine lv_bipush (v := 40) hx hb dL_holds_134 (by decide) ?_
            refine fm_ild hx hb hst.1 hH 40 (fm_inb (by decide)) rfl rfl hi4 dL_holds_136 ?_
            refine lv_imul hx hb dL_holds_137 ?_
            obtain ⟨u9_24, hu, h⟩ := mi_b1 h
            rw [Option.some.inj hu]
            clear hu
            refine lv_istore (lv' := [(9, .int u9_24), (8, .int r105), (7, .int r91), (0, .ref b), (1, .ref (K.2.2.2 0)), (2, .ref (K.2.2.2 40)), (3, .ref (K.2.2.2 41)), (4, .ref (K.2.2.2 42)), (5, .int x5), (6, .int x6)]) hx hb dL_holds_138 hl (by decide) rfl (fun ls hl => ?_)
            refine lv_aload_n hx hb dL_holds_140 rfl (lv_at hl 5 rfl) ?_
            refine lv_iload hx hb dL_holds_141 (lv_at hl 0 rfl) ?_
            refine lv_iload hx hb dL_holds_143 (lv_at hl 1 rfl) ?_
            refine lv_bipush (v := 120) hx hb dL_holds_145 (by decide) ?_
            refine lv_irem hx hb dL_holds_147 (by decide) ?_
            refine lv_bipush (v := 60) hx hb dL_holds_148 (by decide) ?_
            refine lv_isub hx hb dL_holds_150 ?_
            obtain ⟨hi25, h⟩ := mi_chk h
            refine fm_ist hx hb hst.1 hH 40 (fm_inb (by decide)) rfl rfl hi25 dL_holds_151 (fun H locs hH => ?_)
            obtain ⟨ρ26, hu, h⟩ := mi_b1 h
            rw [Option.some.inj hu] at hH
            clear hu
            refine lv_aload_n hx hb dL_holds_152 rfl (lv_at hl 5 rfl) ?_
            refine lv_iload hx hb dL_holds_153 (lv_at hl 0 rfl) ?_
            refine lv_iconst (v := 1) hx hb dL_holds_155 (by decide) ?_
            refine lv_iadd hx hb dL_holds_156 ?_
            refine lv_iload hx hb dL_holds_157 (lv_at hl 1 rfl) ?_
            refine lv_bipush (v := 120) hx hb dL_holds_159 (by decide) ?_
            refine lv_idiv hx hb dL_holds_161 (by decide) ?_
            refine lv_bipush (v := 80) hx hb dL_holds_162 (by decide) ?_
            refine lv_irem hx hb dL_holds_164 (by decide) ?_
            refine lv_bipush (v := 40) hx hb dL_holds_165 (by decide) ?_
            refine lv_isub hx hb dL_holds_167 ?_
            obtain ⟨hi27, h⟩ := mi_chk h
            refine fm_ist hx hb hst.1 hH 40 (fm_inb (by decide)) rfl rfl hi27 dL_holds_168 (fun H locs hH => ?_)
            obtain ⟨ρ28, hu, h⟩ := mi_b1 h
            rw [Option.some.inj hu] at hH
            clear hu
            refine lv_aload_n hx hb dL_holds_169 rfl (lv_at hl 5 rfl) ?_
            refine lv_iload hx hb dL_holds_170 (lv_at hl 0 rfl) ?_
            refine lv_bipush (v := 6) hx hb dL_holds_172 (by decide) ?_
            refine lv_iadd hx hb dL_holds_174 ?_
            refine lv_sipush (v := 1024) hx hb dL_holds_175 (by decide) ?_
            obtain ⟨hi29, h⟩ := mi_chk h
            refine fm_ist hx hb hst.1 hH 40 (fm_inb (by decide)) rfl rfl hi29 dL_holds_178 (fun H locs hH => ?_)
            obtain ⟨ρ30, hu, h⟩ := mi_b1 h
            rw [Option.some.inj hu] at hH
            clear hu
            refine lv_aload_n hx hb dL_holds_179 rfl (lv_at hl 4 rfl) ?_
            refine lv_aload_n hx hb dL_holds_180 rfl (lv_at hl 5 rfl) ?_
            refine lv_iload hx hb dL_holds_181 (lv_at hl 0 rfl) ?_
            refine fm_ild hx hb hst.1 hH 40 (fm_inb (by decide)) rfl rfl hi25 dL_holds_183 ?_
            refine lv_aload_n hx hb dL_holds_184 rfl (lv_at hl 5 rfl) ?_
            refine lv_iload hx hb dL_holds_185 (lv_at hl 0 rfl) ?_
            refine lv_iconst (v := 1) hx hb dL_holds_187 (by decide) ?_
            refine lv_iadd hx hb dL_holds_188 ?_
            refine fm_ild hx hb hst.1 hH 40 (fm_inb (by decide)) rfl rfl hi27 dL_holds_189 ?_
            obtain ⟨r190, σ190, h190, h⟩ := mi_b2 h
            refine fm_ci (va_runV (As := [.int (rI ρ30 40 u9_24), .int (rI ρ30 40 (u9_24 + (1 : Int32)))]) (rest := []) C (kX4_addMember l K h190 _) (cwV 2 hts gL_holds_X4_addMember rfl rfl rfl (by decide +kernel) ⟨(Nat.le_of_ble_eq_true rfl), (Nat.le_of_ble_eq_true rfl)⟩) ⟨fm_blind, fm_recv hst hH (q := 0) (fm_inb (by decide)) rfl (fm_ob_0 _ _) rfl, fm_pre hst hA hH⟩ rfl rfl hl.1 rfl (lv_room (Nat.le_of_ble_eq_true rfl)) dL_holds_190 ⟨by show _ ≤ 900; omega, by show _ ≤ 7100; omega⟩) hA hH (fun H locs hH => ?_)
            refine lv_aload_n hx hb dL_holds_193 rfl (lv_at hl 5 rfl) ?_
            refine lv_bipush (v := 40) hx hb dL_holds_194 (by decide) ?_
            refine fm_ild hx hb hst.1 hH 40 (fm_inb (by decide)) rfl rfl hi4 dL_holds_196 ?_
            obtain ⟨v31_0, hd, h2⟩ := mi_b1 h
            have kj : ∀ (ls : Array Slot) (H : Heap) (locs : List Loc), lv_has ls 10 [(0, .ref b), (1, .ref (K.2.2.2 0)), (2, .ref (K.2.2.2 40)), (3, .ref (K.2.2.2 41)), (4, .ref (K.2.2.2 42)), (6, .int x6), (8, .int r105)] → fm_H K σ190 A s H locs → W p l e rmL_holds s m args below meth c H locs ce sl Q (F0 m 205 ls [.int v31_0]) := by
              clear h hd
              intro ls H locs hl hH
              have h := h2
              clear h2
              refine lv_istore (lv' := [(5, .int v31_0), (0, .ref b), (1, .ref (K.2.2.2 0)), (2, .ref (K.2.2.2 40)), (3, .ref (K.2.2.2 41)), (4, .ref (K.2.2.2 42)), (6, .int x6), (8, .int r105)]) hx hb dL_holds_205 hl (by decide) rfl (fun ls hl => ?_)
              refine lv_aload_n hx hb dL_holds_207 rfl (lv_at hl 3 rfl) ?_
              refine lv_bipush (v := 40) hx hb dL_holds_208 (by decide) ?_
              refine lv_dup2_11 hx hb dL_holds_210 rfl rfl ?_
              refine fm_ild hx hb hst.1 hH 40 (fm_inb (by decide)) rfl rfl hi4 dL_holds_211 ?_
              refine lv_iconst (v := 1) hx hb dL_holds_212 (by decide) ?_
              refine lv_iadd hx hb dL_holds_213 ?_
              refine fm_ist hx hb hst.1 hH 40 (fm_inb (by decide)) rfl rfl hi4 dL_holds_214 (fun H locs hH => ?_)
              obtain ⟨ρ32, hu, h⟩ := mi_b1 h
              rw [Option.some.inj hu] at hH
              clear hu
              refine lv_goto (tgt := 232) hx hb dL_holds_215 (by decide) ?_
              cases h
              refine W.widen (k := (ce + 8)) (n := (sl + 64)) (by omega) (by omega) ?_
              exact kj _ _ _ (lv_sub hl [1, 2, 3, 4, 5, 0, 6, 7] rfl) hH
            replace h := hd
            clear h2 hd
            refine lv_icmp_ne (tgt := 204) hx hb dL_holds_197 (by decide) (fun hc => ?_) (fun hc => ?_)
            · replace h := mi_neg hc h
              refine lv_iconst (v := 0) hx hb dL_holds_204 (by decide) ?_
              cases h
              exact kj _ _ _ (lv_sub hl [3, 4, 5, 6, 7, 9, 1] rfl) hH
            · replace h := mi_pos hc h
              refine lv_iconst (v := 1) hx hb dL_holds_200 (by decide) ?_
              refine lv_goto (tgt := 205) hx hb dL_holds_201 (by decide) ?_
              cases h
              exact kj _ _ _ (lv_sub hl [3, 4, 5, 6, 7, 9, 1] rfl) hH
          · replace h := mi_neg hc h
            refine lv_iload hx hb dL_holds_124 (lv_at hl 1 rfl) ?_
            refine lv_bipush (v := 14) hx hb dL_holds_126 (by decide) ?_
            refine lv_icmp_ne (tgt := 218) hx hb dL_holds_128 (by decide) (fun hc => ?_) (fun hc => ?_)
            · replace h := mi_neg hc h
              refine lv_aload_n hx hb dL_holds_218 rfl (lv_at hl 3 rfl) ?_
              refine lv_aload_n hx hb dL_holds_219 rfl (lv_at hl 4 rfl) ?_
              refine lv_aload_n hx hb dL_holds_220 rfl (lv_at hl 5 rfl) ?_
              refine lv_aload hx hb dL_holds_221 (lv_at hl 6 rfl) ?_
              refine lv_iload hx hb dL_holds_223 (lv_at hl 1 rfl) ?_
              refine lv_iload hx hb dL_holds_225 (lv_at hl 0 rfl) ?_
              obtain ⟨r227, σ227, h227, h⟩ := mi_b2 h
              refine fm_ciW (va_runS (As := [.ref (K.2.2.2 0), .ref (K.2.2.2 40), .ref (K.2.2.2 41), .ref (K.2.2.2 42), .int r91, .int r105]) (rest := []) C (kL_acts l K hn h227 _) (va_cwS 6 hts gL_holds_L_acts rfl rfl rfl (by decide +kernel) ⟨(Nat.le_of_ble_eq_true rfl), (Nat.le_of_ble_eq_true rfl)⟩) ⟨fm_blind, fm_pre hst hA hH⟩ rfl rfl hl.1 rfl (lv_room (Nat.le_of_ble_eq_true rfl)) dL_holds_227 ⟨by show _ ≤ 900; omega, by show _ ≤ 7100; omega⟩) hA hH (fun H locs hH => ?_)
              refine W.widen (k := (ce + 8)) (n := (sl + 64)) (by omega) (by omega) ?_
              refine lv_istore (lv' := [(5, .int r227), (8, .int r105), (7, .int r91), (0, .ref b), (1, .ref (K.2.2.2 0)), (2, .ref (K.2.2.2 40)), (3, .ref (K.2.2.2 41)), (4, .ref (K.2.2.2 42)), (6, .int x6)]) hx hb dL_holds_230 hl (by decide) rfl (fun ls hl => ?_)
              cases h
              exact kj _ _ _ (lv_sub hl [3, 4, 5, 6, 7, 0, 8, 1] rfl) hH
            · replace h := mi_pos hc h
              refine lv_bipush (v := 8) hx hb dL_holds_131 (by decide) ?_
              refine lv_aload_n hx hb dL_holds_133 rfl (lv_at hl 4 rfl) ?_
              refine lv_bipush (v := 40) hx hb dL_holds_134 (by decide) ?_
              refine fm_ild hx hb hst.1 hH 40 (fm_inb (by decide)) rfl rfl hi4 dL_holds_136 ?_
              refine lv_imul hx hb dL_holds_137 ?_
              obtain ⟨u9_33, hu, h⟩ := mi_b1 h
              rw [Option.some.inj hu]
              clear hu
              refine lv_istore (lv' := [(9, .int u9_33), (8, .int r105), (7, .int r91), (0, .ref b), (1, .ref (K.2.2.2 0)), (2, .ref (K.2.2.2 40)), (3, .ref (K.2.2.2 41)), (4, .ref (K.2.2.2 42)), (5, .int x5), (6, .int x6)]) hx hb dL_holds_138 hl (by decide) rfl (fun ls hl => ?_)
              refine lv_aload_n hx hb dL_holds_140 rfl (lv_at hl 5 rfl) ?_
              refine lv_iload hx hb dL_holds_141 (lv_at hl 0 rfl) ?_
              refine lv_iload hx hb dL_holds_143 (lv_at hl 1 rfl) ?_
              refine lv_bipush (v := 120) hx hb dL_holds_145 (by decide) ?_
              refine lv_irem hx hb dL_holds_147 (by decide) ?_
              refine lv_bipush (v := 60) hx hb dL_holds_148 (by decide) ?_
              refine lv_isub hx hb dL_holds_150 ?_
              obtain ⟨hi34, h⟩ := mi_chk h
              refine fm_ist hx hb hst.1 hH 40 (fm_inb (by decide)) rfl rfl hi34 dL_holds_151 (fun H locs hH => ?_)
              obtain ⟨ρ35, hu, h⟩ := mi_b1 h
              rw [Option.some.inj hu] at hH
              clear hu
              refine lv_aload_n hx hb dL_holds_152 rfl (lv_at hl 5 rfl) ?_
              refine lv_iload hx hb dL_holds_153 (lv_at hl 0 rfl) ?_
              refine lv_iconst (v := 1) hx hb dL_holds_155 (by decide) ?_
              refine lv_iadd hx hb dL_holds_156 ?_
              refine lv_iload hx hb dL_holds_157 (lv_at hl 1 rfl) ?_
              refine lv_bipush (v := 120) hx hb dL_holds_159 (by decide) ?_
              refine lv_idiv hx hb dL_holds_161 (by decide) ?_
              refine lv_bipush (v := 80) hx hb dL_holds_162 (by decide) ?_
              refine lv_irem hx hb dL_holds_164 (by decide) ?_
              refine lv_bipush (v := 40) hx hb dL_holds_165 (by decide) ?_
              refine lv_isub hx hb dL_holds_167 ?_
              obtain ⟨hi36, h⟩ := mi_chk h
              refine fm_ist hx hb hst.1 hH 40 (fm_inb (by decide)) rfl rfl hi36 dL_holds_168 (fun H locs hH => ?_)
              obtain ⟨ρ37, hu, h⟩ := mi_b1 h
              rw [Option.some.inj hu] at hH
              clear hu
              refine lv_aload_n hx hb dL_holds_169 rfl (lv_at hl 5 rfl) ?_
              refine lv_iload hx hb dL_holds_170 (lv_at hl 0 rfl) ?_
              refine lv_bipush (v := 6) hx hb dL_holds_172 (by decide) ?_
              refine lv_iadd hx hb dL_holds_174 ?_
              refine lv_sipush (v := 1024) hx hb dL_holds_175 (by decide) ?_
              obtain ⟨hi38, h⟩ := mi_chk h
              refine fm_ist hx hb hst.1 hH 40 (fm_inb (by decide)) rfl rfl hi38 dL_holds_178 (fun H locs hH => ?_)
              obtain ⟨ρ39, hu, h⟩ := mi_b1 h
              rw [Option.some.inj hu] at hH
              clear hu
              refine lv_aload_n hx hb dL_holds_179 rfl (lv_at hl 4 rfl) ?_
              refine lv_aload_n hx hb dL_holds_180 rfl (lv_at hl 5 rfl) ?_
              refine lv_iload hx hb dL_holds_181 (lv_at hl 0 rfl) ?_
              refine fm_ild hx hb hst.1 hH 40 (fm_inb (by decide)) rfl rfl hi34 dL_holds_183 ?_
              refine lv_aload_n hx hb dL_holds_184 rfl (lv_at hl 5 rfl) ?_
              refine lv_iload hx hb dL_holds_185 (lv_at hl 0 rfl) ?_
              refine lv_iconst (v := 1) hx hb dL_holds_187 (by decide) ?_
              refine lv_iadd hx hb dL_holds_188 ?_
              refine fm_ild hx hb hst.1 hH 40 (fm_inb (by decide)) rfl rfl hi36 dL_holds_189 ?_
              obtain ⟨r190, σ190, h190, h⟩ := mi_b2 h
              refine fm_ci (va_runV (As := [.int (rI ρ39 40 u9_33), .int (rI ρ39 40 (u9_33 + (1 : Int32)))]) (rest := []) C (kX4_addMember l K h190 _) (cwV 2 hts gL_holds_X4_addMember rfl rfl rfl (by decide +kernel) ⟨(Nat.le_of_ble_eq_true rfl), (Nat.le_of_ble_eq_true rfl)⟩) ⟨fm_blind, fm_recv hst hH (q := 0) (fm_inb (by decide)) rfl (fm_ob_0 _ _) rfl, fm_pre hst hA hH⟩ rfl rfl hl.1 rfl (lv_room (Nat.le_of_ble_eq_true rfl)) dL_holds_190 ⟨by show _ ≤ 900; omega, by show _ ≤ 7100; omega⟩) hA hH (fun H locs hH => ?_)
              refine lv_aload_n hx hb dL_holds_193 rfl (lv_at hl 5 rfl) ?_
              refine lv_bipush (v := 40) hx hb dL_holds_194 (by decide) ?_
              refine fm_ild hx hb hst.1 hH 40 (fm_inb (by decide)) rfl rfl hi4 dL_holds_196 ?_
              obtain ⟨v40_0, hd, h2⟩ := mi_b1 h
              have kj : ∀ (ls : Array Slot) (H : Heap) (locs : List Loc), lv_has ls 10 [(0, .ref b), (1, .ref (K.2.2.2 0)), (2, .ref (K.2.2.2 40)), (3, .ref (K.2.2.2 41)), (4, .ref (K.2.2.2 42)), (6, .int x6), (8, .int r105)] → fm_H K σ190 A s H locs → W p l e rmL_holds s m args below meth c H locs ce sl Q (F0 m 205 ls [.int v40_0]) := by
                clear h hd
                intro ls H locs hl hH
                have h := h2
                clear h2
                refine lv_istore (lv' := [(5, .int v40_0), (0, .ref b), (1, .ref (K.2.2.2 0)), (2, .ref (K.2.2.2 40)), (3, .ref (K.2.2.2 41)), (4, .ref (K.2.2.2 42)), (6, .int x6), (8, .int r105)]) hx hb dL_holds_205 hl (by decide) rfl (fun ls hl => ?_)
                refine lv_aload_n hx hb dL_holds_207 rfl (lv_at hl 3 rfl) ?_
                refine lv_bipush (v := 40) hx hb dL_holds_208 (by decide) ?_
                refine lv_dup2_11 hx hb dL_holds_210 rfl rfl ?_
                refine fm_ild hx hb hst.1 hH 40 (fm_inb (by decide)) rfl rfl hi4 dL_holds_211 ?_
                refine lv_iconst (v := 1) hx hb dL_holds_212 (by decide) ?_
                refine lv_iadd hx hb dL_holds_213 ?_
                refine fm_ist hx hb hst.1 hH 40 (fm_inb (by decide)) rfl rfl hi4 dL_holds_214 (fun H locs hH => ?_)
                obtain ⟨ρ41, hu, h⟩ := mi_b1 h
                rw [Option.some.inj hu] at hH
                clear hu
                refine lv_goto (tgt := 232) hx hb dL_holds_215 (by decide) ?_
                cases h
                refine W.widen (k := (ce + 8)) (n := (sl + 64)) (by omega) (by omega) ?_
                exact kj _ _ _ (lv_sub hl [1, 2, 3, 4, 5, 0, 6, 7] rfl) hH
              replace h := hd
              clear h2 hd
              refine lv_icmp_ne (tgt := 204) hx hb dL_holds_197 (by decide) (fun hc => ?_) (fun hc => ?_)
              · replace h := mi_neg hc h
                refine lv_iconst (v := 0) hx hb dL_holds_204 (by decide) ?_
                cases h
                exact kj _ _ _ (lv_sub hl [3, 4, 5, 6, 7, 9, 1] rfl) hH
              · replace h := mi_pos hc h
                refine lv_iconst (v := 1) hx hb dL_holds_200 (by decide) ?_
                refine lv_goto (tgt := 205) hx hb dL_holds_201 (by decide) ?_
                cases h
                exact kj _ _ _ (lv_sub hl [3, 4, 5, 6, 7, 9, 1] rfl) hH
def mL_holds (xs : Nat → Int32) (L : Nat) (σ : fm_S) : Option (Int32 × fm_S) :=
  if ((41 : Int32) < 0 ∨ 48 ≤ (41 : Int32).toNatClampNeg) then none else
  mb1 (some (sI σ 40 (41 : Int32) (100 : Int32))) fun ρ2 =>
  mb2 (mX4_agree (2 : Int32) ρ2) fun r32 σ32 =>
  mb2 (show Option (Int32 × fm_S) from
    if r32 = 0 then
      mb2 (mX4_spread (1 : Int32) σ32) fun r40 σ40 =>
      if r40 = 0 then
        mb2 (mX4_trees σ40) fun r47 σ47 =>
        if (lg_cmp r47 (0 : Int64)) = 0 then
          mb2 (mX4_isRigid σ47) fun r56 σ56 =>
          if r56 = 0 then
            some ((1 : Int32), σ56)
          else
            some ((0 : Int32), σ56)
        else
          some ((0 : Int32), σ47)
      else
        some ((0 : Int32), σ40)
    else
      some ((0 : Int32), σ32)) fun v3_0 σ3 =>
  mb2 (mL_holds_L72 xs L 91 v3_0 (0 : Int32) σ3) fun y72_5 σ72 =>
  if ¬ vp_nar .boolean y72_5 = y72_5 then none else
  some (y72_5, σ72)
set_option maxHeartbeats 4000000 in
set_option maxRecDepth 100000 in
theorem wL_holds {p : Program} {l : Launch} {e : Env} {s : State} {m : MethodId} {args : Array Value} {below : List Frame} {meth : Method} {c : Code} {Q : State → Prop} {K : fm_K} {A : Nat → Prop} {b L : Nat} {xs : Nat → Int32} (hsc : fm_scr K b L xs) (hfl : l.stackTraces = false) (C : CallFix p m c cL_holds 10 s args wsL_holds RL) (hst : fm_st K A s s.heap) (hA : ∀ q, fm_A K s.heap.size q → A q) (hn : fm_n K = 0) {σ σ' : fm_S} {r : Int32} (h : mL_holds xs L σ = some (r, σ'))
    (kend : ∀ (H : Heap) (locs : List Loc) (ls : Array Slot) (pc : Nat), decode cL_holds pc = .ok (.ireturn, 1) → vp_nar .boolean r = r → fm_H K σ' A s H locs → W p l e rmL_holds s m args below meth c H locs 900 7100 Q (F0 m pc ls [.int r])) (ls : Array Slot) (H : Heap) (locs : List Loc) (hl : lv_has ls 10 [(4, .ref (K.2.2.2 42)), (3, .ref (K.2.2.2 41)), (2, .ref (K.2.2.2 40)), (1, .ref (K.2.2.2 0)), (0, .ref b)]) (hH : fm_H K σ A s H locs) : W p l e rmL_holds s m args below meth c H locs 43 643 Q (F0 m 24 ls []) := by
  obtain ⟨hx, hb, hml, hown, hts⟩ := id C
  obtain ⟨hX, hbl, hbA⟩ := fm_scr_at hsc hst
  rw [mL_holds] at h
  refine lv_aload_n hx hb dL_holds_24 rfl (lv_at hl 2 rfl) ?_
  refine lv_bipush (v := 41) hx hb dL_holds_25 (by decide) ?_
  refine lv_bipush (v := 100) hx hb dL_holds_27 (by decide) ?_
  obtain ⟨hi1, h⟩ := mi_chk h
  refine fm_ist hx hb hst.1 hH 40 (fm_inb (by decide)) rfl rfl hi1 dL_holds_29 (fun H locs hH => ?_)
  obtain ⟨ρ2, hu, h⟩ := mi_b1 h
  rw [Option.some.inj hu] at hH
  clear hu
  refine lv_aload_n hx hb dL_holds_30 rfl (lv_at hl 3 rfl) ?_
  refine lv_iconst (v := 2) hx hb dL_holds_31 (by decide) ?_
  obtain ⟨r32, σ32, h32, h⟩ := mi_b2 h
  refine fm_ci (va_runV (As := [.int (2 : Int32)]) (rest := []) C (kX4_agree l K h32 _) (cwV 1 hts gL_holds_X4_agree rfl rfl rfl (by decide +kernel) ⟨(Nat.le_of_ble_eq_true rfl), (Nat.le_of_ble_eq_true rfl)⟩) ⟨fm_blind, fm_recv hst hH (q := 0) (fm_inb (by decide)) rfl (fm_ob_0 _ _) rfl, fm_pre hst hA hH⟩ rfl rfl hl.1 rfl (lv_room (Nat.le_of_ble_eq_true rfl)) dL_holds_32 ⟨(Nat.le_of_ble_eq_true rfl), (Nat.le_of_ble_eq_true rfl)⟩) hA hH (fun H locs hH => ?_)
  obtain ⟨v3_0, σ3, hd, h2⟩ := mi_b2 h
  have kj : ∀ (ls : Array Slot) (H : Heap) (locs : List Loc), lv_has ls 10 [(0, .ref b), (1, .ref (K.2.2.2 0)), (2, .ref (K.2.2.2 40)), (3, .ref (K.2.2.2 41)), (4, .ref (K.2.2.2 42))] → fm_H K σ3 A s H locs → W p l e rmL_holds s m args below meth c H locs 43 643 Q (F0 m 67 ls [.int v3_0]) := by
    clear h hd
    intro ls H locs hl hH
    have h := h2
    clear h2
    refine lv_istore (lv' := [(5, .int v3_0), (0, .ref b), (1, .ref (K.2.2.2 0)), (2, .ref (K.2.2.2 40)), (3, .ref (K.2.2.2 41)), (4, .ref (K.2.2.2 42))]) hx hb dL_holds_67 hl (by decide) rfl (fun ls hl => ?_)
    refine lv_iconst (v := 0) hx hb dL_holds_69 (by decide) ?_
    refine lv_istore (lv' := [(6, .int (0 : Int32)), (5, .int v3_0), (0, .ref b), (1, .ref (K.2.2.2 0)), (2, .ref (K.2.2.2 40)), (3, .ref (K.2.2.2 41)), (4, .ref (K.2.2.2 42))]) hx hb dL_holds_70 hl (by decide) rfl (fun ls hl => ?_)
    obtain ⟨y72_5, σ72, h72, h⟩ := mi_b2 h
    refine wL_holds_L72 hsc C hst hA hn hfl _ 43 643 862 7013 (Nat.le_of_ble_eq_true rfl) (Nat.le_of_ble_eq_true rfl) (Nat.le_of_ble_eq_true rfl) (Nat.le_of_ble_eq_true rfl) _ _ _ _ _ h72 (fun ls H locs hl hH => ?_) _ _ _ (lv_sub hl [2, 3, 4, 5, 6, 1, 0] rfl) hH
    refine lv_iload hx hb dL_holds_294 (lv_at hl 0 rfl) ?_
    obtain ⟨hn42, h⟩ := mi_chk h
    cases h
    refine W.widen (k := 900) (n := 7100) (Nat.le_of_ble_eq_true rfl) (Nat.le_of_ble_eq_true rfl) ?_
    exact kend _ _ _ _ dL_holds_296 (Decidable.not_not.mp hn42) hH
  replace h := hd
  clear h2 hd
  refine lv_if_ne (tgt := 66) hx hb dL_holds_35 (by decide) (fun hc => ?_) (fun hc => ?_)
  · replace h := mi_neg hc h
    refine lv_iconst (v := 0) hx hb dL_holds_66 (by decide) ?_
    cases h
    exact kj _ _ _ (lv_sub hl [4, 3, 2, 1, 0] rfl) hH
  · replace h := mi_pos hc h
    refine lv_aload_n hx hb dL_holds_38 rfl (lv_at hl 3 rfl) ?_
    refine lv_iconst (v := 1) hx hb dL_holds_39 (by decide) ?_
    obtain ⟨r40, σ40, h40, h⟩ := mi_b2 h
    refine fm_ci (va_runV (As := [.int (1 : Int32)]) (rest := []) C (kX4_spread l K h40 _) (cwV 1 hts gL_holds_X4_spread rfl rfl rfl (by decide +kernel) ⟨(Nat.le_of_ble_eq_true rfl), (Nat.le_of_ble_eq_true rfl)⟩) ⟨fm_blind, fm_recv hst hH (q := 0) (fm_inb (by decide)) rfl (fm_ob_0 _ _) rfl, fm_pre hst hA hH⟩ rfl rfl hl.1 rfl (lv_room (Nat.le_of_ble_eq_true rfl)) dL_holds_40 ⟨(Nat.le_of_ble_eq_true rfl), (Nat.le_of_ble_eq_true rfl)⟩) hA hH (fun H locs hH => ?_)
    refine lv_if_ne (tgt := 66) hx hb dL_holds_43 (by decide) (fun hc => ?_) (fun hc => ?_)
    · replace h := mi_neg hc h
      refine lv_iconst (v := 0) hx hb dL_holds_66 (by decide) ?_
      cases h
      exact kj _ _ _ (lv_sub hl [4, 3, 2, 1, 0] rfl) hH
    · replace h := mi_pos hc h
      refine lv_aload_n hx hb dL_holds_46 rfl (lv_at hl 3 rfl) ?_
      obtain ⟨r47, σ47, h47, h⟩ := mi_b2 h
      refine fm_cl (va_runV (As := []) (rest := []) C (kX4_trees l K h47 _) (cwV 0 hts gL_holds_X4_trees rfl rfl rfl (by decide +kernel) ⟨(Nat.le_of_ble_eq_true rfl), (Nat.le_of_ble_eq_true rfl)⟩) ⟨fm_blind, fm_recv hst hH (q := 0) (fm_inb (by decide)) rfl (fm_ob_0 _ _) rfl, fm_pre hst hA hH⟩ rfl rfl hl.1 rfl (lv_room (Nat.le_of_ble_eq_true rfl)) dL_holds_47 ⟨(Nat.le_of_ble_eq_true rfl), (Nat.le_of_ble_eq_true rfl)⟩) hA hH (fun H locs hH => ?_)
      refine lv_lconst (v := 0) hx hb dL_holds_50 (by decide) ?_
      refine W.lcmp hx hb dL_holds_51 ?_
      refine lv_if_ne (tgt := 66) hx hb dL_holds_52 (by decide) (fun hc => ?_) (fun hc => ?_)
      · replace h := mi_neg hc h
        refine lv_iconst (v := 0) hx hb dL_holds_66 (by decide) ?_
        cases h
        exact kj _ _ _ (lv_sub hl [4, 3, 2, 1, 0] rfl) hH
      · replace h := mi_pos hc h
        refine lv_aload_n hx hb dL_holds_55 rfl (lv_at hl 3 rfl) ?_
        obtain ⟨r56, σ56, h56, h⟩ := mi_b2 h
        refine fm_ci (va_runV (As := []) (rest := []) C (kX4_isRigid l K h56 _) (cwV 0 hts gL_holds_X4_isRigid rfl rfl rfl (by decide +kernel) ⟨(Nat.le_of_ble_eq_true rfl), (Nat.le_of_ble_eq_true rfl)⟩) ⟨fm_blind, fm_recv hst hH (q := 0) (fm_inb (by decide)) rfl (fm_ob_0 _ _) rfl, fm_pre hst hA hH⟩ rfl rfl hl.1 rfl (lv_room (Nat.le_of_ble_eq_true rfl)) dL_holds_56 ⟨(Nat.le_of_ble_eq_true rfl), (Nat.le_of_ble_eq_true rfl)⟩) hA hH (fun H locs hH => ?_)
        refine lv_if_ne (tgt := 66) hx hb dL_holds_59 (by decide) (fun hc => ?_) (fun hc => ?_)
        · replace h := mi_neg hc h
          refine lv_iconst (v := 0) hx hb dL_holds_66 (by decide) ?_
          cases h
          exact kj _ _ _ (lv_sub hl [4, 3, 2, 1, 0] rfl) hH
        · replace h := mi_pos hc h
          refine lv_iconst (v := 1) hx hb dL_holds_62 (by decide) ?_
          refine lv_goto (tgt := 67) hx hb dL_holds_63 (by decide) ?_
          cases h
          exact kj _ _ _ (lv_sub hl [4, 3, 2, 1, 0] rfl) hH
