/-! RL.from([III)I -/
abbrev rmL_from : Room := { frames := 0, cells := 0, slots := 0, locals := 0 }
def mL_from (xs : Nat → Int32) (L : Nat) (x1 : Int32) (x2 : Int32) : Option Int32 :=
  mb1 (show Option (Int32) from
    if (Int32.ofNat L) = 0 then
      some ((((97 : Int32) * x1) + (71 : Int32)))
    else
      if (Int32.ofNat L) = 0 then none else
      if ((x1 - x1 / (Int32.ofNat L) * (Int32.ofNat L)) < 0 ∨ L ≤ (x1 - x1 / (Int32.ofNat L) * (Int32.ofNat L)).toNatClampNeg) then none else
      some (((xs (x1 - x1 / (Int32.ofNat L) * (Int32.ofNat L)).toNatClampNeg) ^^^ ((110969 : Int32) * x1)))) fun v3_0 =>
  if x2 = 0 then none else
  some ((v3_0 &&& (2147483647 : Int32)) - (v3_0 &&& (2147483647 : Int32)) / x2 * x2)
set_option maxHeartbeats 4000000 in
set_option maxRecDepth 100000 in
theorem kL_from (l : Launch) (K : fm_K) {b L : Nat} {xs : Nat → Int32} (hsc : fm_scr K b L xs) {x1 : Int32} {x2 : Int32} {σ : fm_S} {r : Int32} (h : mL_from xs L x1 x2 = some r) : fm_CI l yL_from wsL_from rmL_from K [.ref b, .int x1, .int x2] σ r σ := by
  intro sz
  refine fm_start (Qc := fun sz => fm_QI K r σ sz) (cc := cL_from) (maxL := 4) (ret := (some .int)) (by decide) rfl (Nat.le_of_ble_eq_true rfl) ?_
  intro p e s m args below meth c C hr hlk hst hH ls hl
  have C : CallFix p m c cL_from 4 s args wsL_from RL := C
  obtain ⟨hx, hb, hml, hown, hts⟩ := id C
  have hA : ∀ q, fm_A K s.heap.size q → fm_A K s.heap.size q := fun _ h => h
  have hl : lv_has ls 4 [(0, .ref b), (1, .int x1), (2, .int x2)] := hl
  generalize hQ : MQ below _ args s _ _ _ = Q
  obtain ⟨hX, hbl, hbA⟩ := fm_scr_at hsc hst
  rw [mL_from] at h
  refine lv_aload_n hx hb dL_from_0 rfl (lv_at hl 0 rfl) ?_
  refine va_slen hx hb hX hbl hbA hH.2.2 dL_from_1 ?_
  obtain ⟨v3_0, hd, h2⟩ := mi_b1 h
  have kj : ∀ (ls : Array Slot) (H : Heap) (locs : List Loc), lv_has ls 4 [(2, .int x2)] → fm_H K σ (fm_A K s.heap.size) s H locs → W p l e rmL_from s m args below meth c H locs 0 0 Q (F0 m 26 ls [.int v3_0]) := by
    clear h hd
    intro ls H locs hl hH
    have h := h2
    clear h2
    refine lv_istore_n (lv' := [(3, .int v3_0), (2, .int x2)]) hx hb dL_from_26 rfl hl (by decide) rfl (fun ls hl => ?_)
    refine lv_iload_n hx hb dL_from_27 rfl (lv_at hl 0 rfl) ?_
    refine lv_ldc (v := 2147483647) hx hb hown (hts (.constant RL 8 (2147483647)) (List.mem_of_getElem? (i := 2) rfl)) dL_from_28 ?_
    refine lv_iand hx hb dL_from_30 ?_
    refine lv_iload_n hx hb dL_from_31 rfl (lv_at hl 1 rfl) ?_
    obtain ⟨hz6, h⟩ := mi_chk h
    refine lv_irem hx hb dL_from_32 hz6 ?_
    cases h
    subst hQ
    exact fm_iret hx hb hr hlk hst hH dL_from_33
  replace h := hd
  clear h2 hd
  refine lv_if_ne (tgt := 15) hx hb dL_from_2 (by decide) (fun hc => ?_) (fun hc => ?_)
  · replace h := mi_neg hc h
    refine lv_aload_n hx hb dL_from_15 rfl (lv_at hl 0 rfl) ?_
    refine lv_iload_n hx hb dL_from_16 rfl (lv_at hl 1 rfl) ?_
    refine lv_aload_n hx hb dL_from_17 rfl (lv_at hl 0 rfl) ?_
    refine va_slen hx hb hX hbl hbA hH.2.2 dL_from_18 ?_
    obtain ⟨hz4, h⟩ := mi_chk h
    refine lv_irem hx hb dL_from_19 hz4 ?_
    obtain ⟨hi5, h⟩ := mi_chk h
    refine va_sld hx hb hX hbl hbA hH.2.2 hi5 dL_from_20 ?_
    refine lv_ldc (v := 110969) hx hb hown (hts (.constant RL 7 (110969)) (List.mem_of_getElem? (i := 1) rfl)) dL_from_21 ?_
    refine lv_iload_n hx hb dL_from_23 rfl (lv_at hl 1 rfl) ?_
    refine lv_imul hx hb dL_from_24 ?_
    refine lv_ixor hx hb dL_from_25 ?_
    cases h
    exact kj _ _ _ (lv_sub hl [2] rfl) hH
  · replace h := mi_pos hc h
    refine lv_bipush (v := 97) hx hb dL_from_5 (by decide) ?_
    refine lv_iload_n hx hb dL_from_7 rfl (lv_at hl 1 rfl) ?_
    refine lv_imul hx hb dL_from_8 ?_
    refine lv_bipush (v := 71) hx hb dL_from_9 (by decide) ?_
    refine lv_iadd hx hb dL_from_11 ?_
    refine lv_goto (tgt := 26) hx hb dL_from_12 (by decide) ?_
    cases h
    exact kj _ _ _ (lv_sub hl [2] rfl) hH
/-! RL.pair(II)I -/
abbrev rmL_pair : Room := { frames := 0, cells := 0, slots := 0, locals := 0 }
def mL_pair (x0 : Int32) (x1 : Int32) : Option Int32 :=
  if x1 ≤ x0 then
    some (((5 : Int32) * x1) + x0)
  else
    some (((5 : Int32) * x0) + x1)
set_option maxHeartbeats 4000000 in
set_option maxRecDepth 100000 in
theorem kL_pair (l : Launch) (K : fm_K) {x0 : Int32} {x1 : Int32} {σ : fm_S} {r : Int32} (h : mL_pair x0 x1 = some r) : fm_CI l yL_pair wsL_pair rmL_pair K [.int x0, .int x1] σ r σ := by
  intro sz
  refine fm_start (Qc := fun sz => fm_QI K r σ sz) (cc := cL_pair) (maxL := 2) (ret := (some .int)) (by decide) rfl (Nat.le_of_ble_eq_true rfl) ?_
  intro p e s m args below meth c C hr hlk hst hH ls hl
  have C : CallFix p m c cL_pair 2 s args wsL_pair RL := C
  obtain ⟨hx, hb, hml, hown, hts⟩ := id C
  have hA : ∀ q, fm_A K s.heap.size q → fm_A K s.heap.size q := fun _ h => h
  have hl : lv_has ls 2 [(0, .int x0), (1, .int x1)] := hl
  generalize hQ : MQ below _ args s _ _ _ = Q
  rw [mL_pair] at h
  refine lv_iload_n hx hb dL_pair_0 rfl (lv_at hl 0 rfl) ?_
  refine lv_iload_n hx hb dL_pair_1 rfl (lv_at hl 1 rfl) ?_
  refine lv_icmp_ge (tgt := 13) hx hb dL_pair_2 (by decide) (fun hc => ?_) (fun hc => ?_)
  · replace h := mi_pos hc h
    refine lv_iconst (v := 5) hx hb dL_pair_13 (by decide) ?_
    refine lv_iload_n hx hb dL_pair_14 rfl (lv_at hl 1 rfl) ?_
    refine lv_imul hx hb dL_pair_15 ?_
    refine lv_iload_n hx hb dL_pair_16 rfl (lv_at hl 0 rfl) ?_
    refine lv_iadd hx hb dL_pair_17 ?_
    cases h
    subst hQ
    exact fm_iret hx hb hr hlk hst hH dL_pair_18
  · replace h := mi_neg hc h
    refine lv_iconst (v := 5) hx hb dL_pair_5 (by decide) ?_
    refine lv_iload_n hx hb dL_pair_6 rfl (lv_at hl 0 rfl) ?_
    refine lv_imul hx hb dL_pair_7 ?_
    refine lv_iload_n hx hb dL_pair_8 rfl (lv_at hl 1 rfl) ?_
    refine lv_iadd hx hb dL_pair_9 ?_
    refine lv_goto (tgt := 18) hx hb dL_pair_10 (by decide) ?_
    cases h
    subst hQ
    exact fm_iret hx hb hr hlk hst hH dL_pair_18
/-! RL.square([III)I -/
abbrev rmL_square : Room := { frames := 0, cells := 0, slots := 0, locals := 0 }
def mL_square (x1 : Int32) (x2 : Int32) (σ : fm_S) : Option Int32 :=
  if (((8 : Int32) * x1) < 0 ∨ 48 ≤ ((8 : Int32) * x1).toNatClampNeg) then none else
  if (((8 : Int32) * x2) < 0 ∨ 48 ≤ ((8 : Int32) * x2).toNatClampNeg) then none else
  mb1 (some ((rI σ 40 ((8 : Int32) * x1)) - (rI σ 40 ((8 : Int32) * x2)))) fun u3_3 =>
  if ((((8 : Int32) * x1) + (1 : Int32)) < 0 ∨ 48 ≤ (((8 : Int32) * x1) + (1 : Int32)).toNatClampNeg) then none else
  if ((((8 : Int32) * x2) + (1 : Int32)) < 0 ∨ 48 ≤ (((8 : Int32) * x2) + (1 : Int32)).toNatClampNeg) then none else
  mb1 (some ((rI σ 40 (((8 : Int32) * x1) + (1 : Int32))) - (rI σ 40 (((8 : Int32) * x2) + (1 : Int32))))) fun u4_6 =>
  some ((u3_3 * u3_3) + (u4_6 * u4_6))
set_option maxHeartbeats 4000000 in
set_option maxRecDepth 100000 in
theorem kL_square (l : Launch) (K : fm_K) {x1 : Int32} {x2 : Int32} {σ : fm_S} {r : Int32} (h : mL_square x1 x2 σ = some r) : fm_CI l yL_square wsL_square rmL_square K [.ref (K.2.2.2 40), .int x1, .int x2] σ r σ := by
  intro sz
  refine fm_start (Qc := fun sz => fm_QI K r σ sz) (cc := cL_square) (maxL := 5) (ret := (some .int)) (by decide) rfl (Nat.le_of_ble_eq_true rfl) ?_
  intro p e s m args below meth c C hr hlk hst hH ls hl
  have C : CallFix p m c cL_square 5 s args wsL_square RL := C
  obtain ⟨hx, hb, hml, hown, hts⟩ := id C
  have hA : ∀ q, fm_A K s.heap.size q → fm_A K s.heap.size q := fun _ h => h
  have hl : lv_has ls 5 [(0, .ref (K.2.2.2 40)), (1, .int x1), (2, .int x2)] := hl
  generalize hQ : MQ below _ args s _ _ _ = Q
  rw [mL_square] at h
  refine lv_aload_n hx hb dL_square_0 rfl (lv_at hl 0 rfl) ?_
  refine lv_bipush (v := 8) hx hb dL_square_1 (by decide) ?_
  refine lv_iload_n hx hb dL_square_3 rfl (lv_at hl 1 rfl) ?_
  refine lv_imul hx hb dL_square_4 ?_
  obtain ⟨hi1, h⟩ := mi_chk h
  refine fm_ild hx hb hst.1 hH 40 (fm_inb (by decide)) rfl rfl hi1 dL_square_5 ?_
  refine lv_aload_n hx hb dL_square_6 rfl (lv_at hl 0 rfl) ?_
  refine lv_bipush (v := 8) hx hb dL_square_7 (by decide) ?_
  refine lv_iload_n hx hb dL_square_9 rfl (lv_at hl 2 rfl) ?_
  refine lv_imul hx hb dL_square_10 ?_
  obtain ⟨hi2, h⟩ := mi_chk h
  refine fm_ild hx hb hst.1 hH 40 (fm_inb (by decide)) rfl rfl hi2 dL_square_11 ?_
  refine lv_isub hx hb dL_square_12 ?_
  obtain ⟨u3_3, hu, h⟩ := mi_b1 h
  rw [Option.some.inj hu]
  clear hu
  refine lv_istore_n (lv' := [(3, .int u3_3), (0, .ref (K.2.2.2 40)), (1, .int x1), (2, .int x2)]) hx hb dL_square_13 rfl hl (by decide) rfl (fun ls hl => ?_)
  refine lv_aload_n hx hb dL_square_14 rfl (lv_at hl 1 rfl) ?_
  refine lv_bipush (v := 8) hx hb dL_square_15 (by decide) ?_
  refine lv_iload_n hx hb dL_square_17 rfl (lv_at hl 2 rfl) ?_
  refine lv_imul hx hb dL_square_18 ?_
  refine lv_iconst (v := 1) hx hb dL_square_19 (by decide) ?_
  refine lv_iadd hx hb dL_square_20 ?_
  obtain ⟨hi4, h⟩ := mi_chk h
  refine fm_ild hx hb hst.1 hH 40 (fm_inb (by decide)) rfl rfl hi4 dL_square_21 ?_
  refine lv_aload_n hx hb dL_square_22 rfl (lv_at hl 1 rfl) ?_
  refine lv_bipush (v := 8) hx hb dL_square_23 (by decide) ?_
  refine lv_iload_n hx hb dL_square_25 rfl (lv_at hl 3 rfl) ?_
  refine lv_imul hx hb dL_square_26 ?_
  refine lv_iconst (v := 1) hx hb dL_square_27 (by decide) ?_
  refine lv_iadd hx hb dL_square_28 ?_
  obtain ⟨hi5, h⟩ := mi_chk h
  refine fm_ild hx hb hst.1 hH 40 (fm_inb (by decide)) rfl rfl hi5 dL_square_29 ?_
  refine lv_isub hx hb dL_square_30 ?_
  obtain ⟨u4_6, hu, h⟩ := mi_b1 h
  rw [Option.some.inj hu]
  clear hu
  refine lv_istore (lv' := [(4, .int u4_6), (3, .int u3_3), (0, .ref (K.2.2.2 40)), (1, .int x1), (2, .int x2)]) hx hb dL_square_31 hl (by decide) rfl (fun ls hl => ?_)
  refine lv_iload_n hx hb dL_square_33 rfl (lv_at hl 1 rfl) ?_
  refine lv_iload_n hx hb dL_square_34 rfl (lv_at hl 1 rfl) ?_
  refine lv_imul hx hb dL_square_35 ?_
  refine lv_iload hx hb dL_square_36 (lv_at hl 0 rfl) ?_
  refine lv_iload hx hb dL_square_38 (lv_at hl 0 rfl) ?_
  refine lv_imul hx hb dL_square_40 ?_
  refine lv_iadd hx hb dL_square_41 ?_
  cases h
  subst hQ
  exact fm_iret hx hb hr hlk hst hH dL_square_42
/-! RL.heard([I[II)I -/
abbrev rmL_heard : Room := { frames := 1, cells := 0, slots := 0, locals := 24 }
def mL_heard_L5 : Nat → Int32 → Int32 → Int32 → fm_S → Option (Int32)
  | 0, _, _, _, _ => none
  | n + 1, x2, x3, x4, σ =>
    if ((40 : Int32) < 0 ∨ 48 ≤ (40 : Int32).toNatClampNeg) then none else
    if (rI σ 40 (40 : Int32)) ≤ x4 then
      some x3
    else
      mb1 (show Option (Int32) from
        if x4 = x2 then
          some ((0 : Int32))
        else
          if ((((8 : Int32) * x4) + (2 : Int32)) < 0 ∨ 48 ≤ (((8 : Int32) * x4) + (2 : Int32)).toNatClampNeg) then none else
          if ((((8 : Int32) * x2) + (2 : Int32)) < 0 ∨ 48 ≤ (((8 : Int32) * x2) + (2 : Int32)).toNatClampNeg) then none else
          if ((rI σ 40 (((8 : Int32) * x4) + (2 : Int32))) + (rI σ 40 (((8 : Int32) * x2) + (2 : Int32)))) = 0 then
            mb1 (mL_pair x4 x2) fun r45 =>
            if (r45 < 0 ∨ 25 ≤ r45.toNatClampNeg) then none else
            if (rI σ 41 r45) = 0 then
              mb1 (mL_square x4 x2 σ) fun r56 =>
              if ((41 : Int32) < 0 ∨ 48 ≤ (41 : Int32).toNatClampNeg) then none else
              if ((rI σ 40 (41 : Int32)) * (rI σ 40 (41 : Int32))) < r56 then
                some ((0 : Int32))
              else
                some ((1 : Int32))
            else
              some ((0 : Int32))
          else
            some ((0 : Int32))) fun v6_0 =>
      mb1 (show Option (Int32) from
        if v6_0 = 0 then
          some ((0 : Int32))
        else
          some (((1 : Int32) <<< (x4 &&& 31)))) fun v11_0 =>
      mb1 (some (x3 ||| v11_0)) fun u3_12 =>
      mL_heard_L5 n x2 u3_12 (x4 + 1) σ
set_option maxHeartbeats 4000000 in
set_option maxRecDepth 100000 in
theorem wL_heard_L5 {p : Program} {l : Launch} {e : Env} {s : State} {m : MethodId} {args : Array Value} {below : List Frame} {meth : Method} {c : Code} {Q : State → Prop} {K : fm_K} {A : Nat → Prop} (C : CallFix p m c cL_heard 6 s args wsL_heard RL) (hst : fm_st K A s s.heap) (hA : ∀ q, fm_A K s.heap.size q → A q) :
    ∀ (n : Nat) (x2 : Int32) (x3 : Int32) (x4 : Int32) (σ : fm_S) (o3 : Int32), mL_heard_L5 n x2 x3 x4 σ = some o3 → (∀ (ls : Array Slot) (H : Heap) (locs : List Loc), lv_has ls 6 [(3, .int o3)] → fm_H K σ A s H locs → W p l e rmL_heard s m args below meth c H locs 0 0 Q (F0 m 100 ls [])) → ∀ (ls : Array Slot) (H : Heap) (locs : List Loc), lv_has ls 6 [(0, .ref (K.2.2.2 40)), (1, .ref (K.2.2.2 41)), (2, .int x2), (3, .int x3), (4, .int x4)] → fm_H K σ A s H locs → W p l e rmL_heard s m args below meth c H locs 0 0 Q (F0 m 5 ls []) := by
  obtain ⟨hx, hb, hml, hown, hts⟩ := id C
  intro n
  induction n with
  | zero => intro x2 x3 x4 σ o3 h; simp [mL_heard_L5] at h
  | succ n ih =>
    intro x2 x3 x4 σ o3 h kk ls H locs hl hH
    rw [mL_heard_L5] at h
    refine lv_iload hx hb dL_heard_5 (lv_at hl 4 rfl) ?_
    refine lv_aload_n hx hb dL_heard_7 rfl (lv_at hl 0 rfl) ?_
    refine lv_bipush (v := 40) hx hb dL_heard_8 (by decide) ?_
    obtain ⟨hi1, h⟩ := mi_chk h
    refine fm_ild hx hb hst.1 hH 40 (fm_inb (by decide)) rfl rfl hi1 dL_heard_10 ?_
    refine lv_icmp_ge (tgt := 100) hx hb dL_heard_11 (by decide) (fun hc => ?_) (fun hc => ?_)
    · replace h := mi_pos hc h
      cases h
      exact kk _ _ _ (lv_sub hl [3] rfl) hH
    · replace h := mi_neg hc h
      refine lv_iload hx hb dL_heard_14 (lv_at hl 4 rfl) ?_
      refine lv_iload_n hx hb dL_heard_16 rfl (lv_at hl 2 rfl) ?_
      obtain ⟨v6_0, hd, h2⟩ := mi_b1 h
      have kj : ∀ (ls : Array Slot) (H : Heap) (locs : List Loc), lv_has ls 6 [(0, .ref (K.2.2.2 40)), (1, .ref (K.2.2.2 41)), (2, .int x2), (3, .int x3), (4, .int x4)] → fm_H K σ A s H locs → W p l e rmL_heard s m args below meth c H locs 0 0 Q (F0 m 76 ls [.int v6_0]) := by
        clear h hd
        intro ls H locs hl hH
        have h := h2
        clear h2
        refine lv_istore (lv' := [(5, .int v6_0), (0, .ref (K.2.2.2 40)), (1, .ref (K.2.2.2 41)), (2, .int x2), (3, .int x3), (4, .int x4)]) hx hb dL_heard_76 hl (by decide) rfl (fun ls hl => ?_)
        refine lv_iload_n hx hb dL_heard_78 rfl (lv_at hl 4 rfl) ?_
        refine lv_iload hx hb dL_heard_79 (lv_at hl 0 rfl) ?_
        obtain ⟨v11_0, hd, h2⟩ := mi_b1 h
        have kj : ∀ (ls : Array Slot) (H : Heap) (locs : List Loc), lv_has ls 6 [(0, .ref (K.2.2.2 40)), (1, .ref (K.2.2.2 41)), (2, .int x2), (4, .int x4)] → fm_H K σ A s H locs → W p l e rmL_heard s m args below meth c H locs 0 0 Q (F0 m 92 ls [.int v11_0, .int x3]) := by
          clear h hd
          intro ls H locs hl hH
          have h := h2
          clear h2
          refine lv_ior hx hb dL_heard_92 ?_
          obtain ⟨u3_12, hu, h⟩ := mi_b1 h
          rw [Option.some.inj hu]
          clear hu
          refine lv_istore_n (lv' := [(3, .int u3_12), (0, .ref (K.2.2.2 40)), (1, .ref (K.2.2.2 41)), (2, .int x2), (4, .int x4)]) hx hb dL_heard_93 rfl hl (by decide) rfl (fun ls hl => ?_)
          refine lv_iinc (v := (x4 + 1)) (lv' := [(4, .int (x4 + 1)), (3, .int u3_12), (0, .ref (K.2.2.2 40)), (1, .ref (K.2.2.2 41)), (2, .int x2)]) hx hb dL_heard_94 hl (k := 4) rfl rfl (by decide) rfl (fun ls hl => ?_)
          refine lv_goto (tgt := 5) hx hb dL_heard_97 (by decide) ?_
          exact ih _ _ _ _ _ h kk _ _ _ (lv_sub hl [2, 3, 4, 1, 0] rfl) hH
        replace h := hd
        clear h2 hd
        refine lv_if_eq (tgt := 91) hx hb dL_heard_81 (by decide) (fun hc => ?_) (fun hc => ?_)
        · replace h := mi_pos hc h
          refine lv_iconst (v := 0) hx hb dL_heard_91 (by decide) ?_
          cases h
          exact kj _ _ _ (lv_sub hl [1, 2, 3, 5] rfl) hH
        · replace h := mi_neg hc h
          refine lv_iconst (v := 1) hx hb dL_heard_84 (by decide) ?_
          refine lv_iload hx hb dL_heard_85 (lv_at hl 5 rfl) ?_
          refine lv_ishl hx hb dL_heard_87 ?_
          refine lv_goto (tgt := 92) hx hb dL_heard_88 (by decide) ?_
          cases h
          exact kj _ _ _ (lv_sub hl [1, 2, 3, 5] rfl) hH
      replace h := hd
      clear h2 hd
      refine lv_icmp_eq (tgt := 75) hx hb dL_heard_17 (by decide) (fun hc => ?_) (fun hc => ?_)
      · replace h := mi_pos hc h
        refine lv_iconst (v := 0) hx hb dL_heard_75 (by decide) ?_
        cases h
        exact kj _ _ _ (lv_sub hl [0, 1, 2, 3, 4] rfl) hH
      · replace h := mi_neg hc h
        refine lv_aload_n hx hb dL_heard_20 rfl (lv_at hl 0 rfl) ?_
        refine lv_bipush (v := 8) hx hb dL_heard_21 (by decide) ?_
        refine lv_iload hx hb dL_heard_23 (lv_at hl 4 rfl) ?_
        refine lv_imul hx hb dL_heard_25 ?_
        refine lv_iconst (v := 2) hx hb dL_heard_26 (by decide) ?_
        refine lv_iadd hx hb dL_heard_27 ?_
        obtain ⟨hi7, h⟩ := mi_chk h
        refine fm_ild hx hb hst.1 hH 40 (fm_inb (by decide)) rfl rfl hi7 dL_heard_28 ?_
        refine lv_aload_n hx hb dL_heard_29 rfl (lv_at hl 0 rfl) ?_
        refine lv_bipush (v := 8) hx hb dL_heard_30 (by decide) ?_
        refine lv_iload_n hx hb dL_heard_32 rfl (lv_at hl 2 rfl) ?_
        refine lv_imul hx hb dL_heard_33 ?_
        refine lv_iconst (v := 2) hx hb dL_heard_34 (by decide) ?_
        refine lv_iadd hx hb dL_heard_35 ?_
        obtain ⟨hi8, h⟩ := mi_chk h
        refine fm_ild hx hb hst.1 hH 40 (fm_inb (by decide)) rfl rfl hi8 dL_heard_36 ?_
        refine lv_iadd hx hb dL_heard_37 ?_
        refine lv_if_ne (tgt := 75) hx hb dL_heard_38 (by decide) (fun hc => ?_) (fun hc => ?_)
        · replace h := mi_neg hc h
          refine lv_iconst (v := 0) hx hb dL_heard_75 (by decide) ?_
          cases h
          exact kj _ _ _ (lv_sub hl [0, 1, 2, 3, 4] rfl) hH
        · replace h := mi_pos hc h
          refine lv_aload_n hx hb dL_heard_41 rfl (lv_at hl 1 rfl) ?_
          refine lv_iload hx hb dL_heard_42 (lv_at hl 4 rfl) ?_
          refine lv_iload_n hx hb dL_heard_44 rfl (lv_at hl 2 rfl) ?_
          obtain ⟨r45, h45, h⟩ := mi_b1 h
          refine fm_ci (va_runS (As := [.int x4, .int x2]) (rest := [.ref (K.2.2.2 41)]) C (kL_pair l K h45 _) (va_cwS 2 hts gL_heard_L_pair rfl rfl rfl (by decide +kernel) ⟨(Nat.le_of_ble_eq_true rfl), (Nat.le_of_ble_eq_true rfl)⟩) ⟨fm_blind, fm_pre hst hA hH⟩ rfl rfl hl.1 rfl (lv_room (Nat.le_of_ble_eq_true rfl)) dL_heard_45 ⟨(Nat.le_of_ble_eq_true rfl), (Nat.le_of_ble_eq_true rfl)⟩) hA hH (fun H locs hH => ?_)
          obtain ⟨hi9, h⟩ := mi_chk h
          refine fm_ild hx hb hst.1 hH 41 (fm_inb (by decide)) rfl rfl hi9 dL_heard_48 ?_
          refine lv_if_ne (tgt := 75) hx hb dL_heard_49 (by decide) (fun hc => ?_) (fun hc => ?_)
          · replace h := mi_neg hc h
            refine lv_iconst (v := 0) hx hb dL_heard_75 (by decide) ?_
            cases h
            exact kj _ _ _ (lv_sub hl [0, 1, 2, 3, 4] rfl) hH
          · replace h := mi_pos hc h
            refine lv_aload_n hx hb dL_heard_52 rfl (lv_at hl 0 rfl) ?_
            refine lv_iload hx hb dL_heard_53 (lv_at hl 4 rfl) ?_
            refine lv_iload_n hx hb dL_heard_55 rfl (lv_at hl 2 rfl) ?_
            obtain ⟨r56, h56, h⟩ := mi_b1 h
            refine fm_ci (va_runS (As := [.ref (K.2.2.2 40), .int x4, .int x2]) (rest := []) C (kL_square l K h56 _) (va_cwS 3 hts gL_heard_L_square rfl rfl rfl (by decide +kernel) ⟨(Nat.le_of_ble_eq_true rfl), (Nat.le_of_ble_eq_true rfl)⟩) ⟨fm_blind, fm_pre hst hA hH⟩ rfl rfl hl.1 rfl (lv_room (Nat.le_of_ble_eq_true rfl)) dL_heard_56 ⟨(Nat.le_of_ble_eq_true rfl), (Nat.le_of_ble_eq_true rfl)⟩) hA hH (fun H locs hH => ?_)
            refine lv_aload_n hx hb dL_heard_59 rfl (lv_at hl 0 rfl) ?_
            refine lv_bipush (v := 41) hx hb dL_heard_60 (by decide) ?_
            obtain ⟨hi10, h⟩ := mi_chk h
            refine fm_ild hx hb hst.1 hH 40 (fm_inb (by decide)) rfl rfl hi10 dL_heard_62 ?_
            refine lv_aload_n hx hb dL_heard_63 rfl (lv_at hl 0 rfl) ?_
            refine lv_bipush (v := 41) hx hb dL_heard_64 (by decide) ?_
            refine fm_ild hx hb hst.1 hH 40 (fm_inb (by decide)) rfl rfl hi10 dL_heard_66 ?_
            refine lv_imul hx hb dL_heard_67 ?_
            refine lv_icmp_gt (tgt := 75) hx hb dL_heard_68 (by decide) (fun hc => ?_) (fun hc => ?_)
            · replace h := mi_pos hc h
              refine lv_iconst (v := 0) hx hb dL_heard_75 (by decide) ?_
              cases h
              exact kj _ _ _ (lv_sub hl [0, 1, 2, 3, 4] rfl) hH
            · replace h := mi_neg hc h
              refine lv_iconst (v := 1) hx hb dL_heard_71 (by decide) ?_
              refine lv_goto (tgt := 76) hx hb dL_heard_72 (by decide) ?_
              cases h
              exact kj _ _ _ (lv_sub hl [0, 1, 2, 3, 4] rfl) hH
def mL_heard (x2 : Int32) (σ : fm_S) : Option Int32 :=
  mb1 (mL_heard_L5 fG x2 (0 : Int32) (0 : Int32) σ) fun y5_3 =>
  some y5_3
set_option maxHeartbeats 4000000 in
set_option maxRecDepth 100000 in
theorem kL_heard (l : Launch) (K : fm_K) {x2 : Int32} {σ : fm_S} {r : Int32} (h : mL_heard x2 σ = some r) : fm_CI l yL_heard wsL_heard rmL_heard K [.ref (K.2.2.2 40), .ref (K.2.2.2 41), .int x2] σ r σ := by
  intro sz
  refine fm_start (Qc := fun sz => fm_QI K r σ sz) (cc := cL_heard) (maxL := 6) (ret := (some .int)) (by decide) rfl (Nat.le_of_ble_eq_true rfl) ?_
  intro p e s m args below meth c C hr hlk hst hH ls hl
  have C : CallFix p m c cL_heard 6 s args wsL_heard RL := C
  obtain ⟨hx, hb, hml, hown, hts⟩ := id C
  have hA : ∀ q, fm_A K s.heap.size q → fm_A K s.heap.size q := fun _ h => h
  have hl : lv_has ls 6 [(0, .ref (K.2.2.2 40)), (1, .ref (K.2.2.2 41)), (2, .int x2)] := hl
  generalize hQ : MQ below _ args s _ _ _ = Q
  rw [mL_heard] at h
  refine lv_iconst (v := 0) hx hb dL_heard_0 (by decide) ?_
  refine lv_istore_n (lv' := [(3, .int (0 : Int32)), (0, .ref (K.2.2.2 40)), (1, .ref (K.2.2.2 41)), (2, .int x2)]) hx hb dL_heard_1 rfl hl (by decide) rfl (fun ls hl => ?_)
  refine lv_iconst (v := 0) hx hb dL_heard_2 (by decide) ?_
  refine lv_istore (lv' := [(4, .int (0 : Int32)), (3, .int (0 : Int32)), (0, .ref (K.2.2.2 40)), (1, .ref (K.2.2.2 41)), (2, .int x2)]) hx hb dL_heard_3 hl (by decide) rfl (fun ls hl => ?_)
  obtain ⟨y5_3, h5, h⟩ := mi_b1 h
  refine wL_heard_L5 C hst hA _ _ _ _ _ _ h5 (fun ls H locs hl hH => ?_) _ _ _ (lv_sub hl [2, 3, 4, 1, 0] rfl) hH
  refine lv_iload_n hx hb dL_heard_100 rfl (lv_at hl 0 rfl) ?_
  cases h
  subst hQ
  exact fm_iret hx hb hr hlk hst hH dL_heard_101
/-! RL.ones(I)I -/
abbrev rmL_ones : Room := { frames := 0, cells := 0, slots := 0, locals := 0 }
def mL_ones_L4 : Nat → Int32 → Int32 → Option (Int32)
  | 0, _, _ => none
  | n + 1, x1, x2 =>
    if x2 = 0 then
      some x1
    else
      mb1 (some (x2 &&& (x2 - (1 : Int32)))) fun u2_1 =>
      mL_ones_L4 n (x1 + 1) u2_1
set_option maxHeartbeats 4000000 in
set_option maxRecDepth 100000 in
theorem wL_ones_L4 {p : Program} {l : Launch} {e : Env} {s : State} {m : MethodId} {args : Array Value} {below : List Frame} {meth : Method} {c : Code} {Q : State → Prop} {K : fm_K} {A : Nat → Prop} (C : CallFix p m c cL_ones 3 s args wsL_ones RL) (hst : fm_st K A s s.heap) (hA : ∀ q, fm_A K s.heap.size q → A q) :
    ∀ (n : Nat) (x1 : Int32) (x2 : Int32) (σ : fm_S) (o1 : Int32), mL_ones_L4 n x1 x2 = some o1 → (∀ (ls : Array Slot) (H : Heap) (locs : List Loc), lv_has ls 3 [(1, .int o1)] → fm_H K σ A s H locs → W p l e rmL_ones s m args below meth c H locs 0 0 Q (F0 m 20 ls [])) → ∀ (ls : Array Slot) (H : Heap) (locs : List Loc), lv_has ls 3 [(1, .int x1), (2, .int x2)] → fm_H K σ A s H locs → W p l e rmL_ones s m args below meth c H locs 0 0 Q (F0 m 4 ls []) := by
  obtain ⟨hx, hb, hml, hown, hts⟩ := id C
  intro n
  induction n with
  | zero => intro x1 x2 σ o1 h; simp [mL_ones_L4] at h
  | succ n ih =>
    intro x1 x2 σ o1 h kk ls H locs hl hH
    rw [mL_ones_L4] at h
    refine lv_iload_n hx hb dL_ones_4 rfl (lv_at hl 1 rfl) ?_
    refine lv_if_eq (tgt := 20) hx hb dL_ones_5 (by decide) (fun hc => ?_) (fun hc => ?_)
    · replace h := mi_pos hc h
      cases h
      exact kk _ _ _ (lv_sub hl [0] rfl) hH
    · replace h := mi_neg hc h
      refine lv_iinc (v := (x1 + 1)) (lv' := [(1, .int (x1 + 1)), (2, .int x2)]) hx hb dL_ones_8 hl (k := 0) rfl rfl (by decide) rfl (fun ls hl => ?_)
      refine lv_iload_n hx hb dL_ones_11 rfl (lv_at hl 1 rfl) ?_
      refine lv_iload_n hx hb dL_ones_12 rfl (lv_at hl 1 rfl) ?_
      refine lv_iconst (v := 1) hx hb dL_ones_13 (by decide) ?_
      refine lv_isub hx hb dL_ones_14 ?_
      refine lv_iand hx hb dL_ones_15 ?_
      obtain ⟨u2_1, hu, h⟩ := mi_b1 h
      rw [Option.some.inj hu]
      clear hu
      refine lv_istore_n (lv' := [(2, .int u2_1), (1, .int (x1 + 1))]) hx hb dL_ones_16 rfl hl (by decide) rfl (fun ls hl => ?_)
      refine lv_goto (tgt := 4) hx hb dL_ones_17 (by decide) ?_
      exact ih _ _ _ _ h kk _ _ _ (lv_sub hl [1, 0] rfl) hH
def mL_ones (x0 : Int32) : Option Int32 :=
  mb1 (mL_ones_L4 fG (0 : Int32) x0) fun y4_1 =>
  some y4_1
set_option maxHeartbeats 4000000 in
set_option maxRecDepth 100000 in
theorem kL_ones (l : Launch) (K : fm_K) {x0 : Int32} {σ : fm_S} {r : Int32} (h : mL_ones x0 = some r) : fm_CI l yL_ones wsL_ones rmL_ones K [.int x0] σ r σ := by
  intro sz
  refine fm_start (Qc := fun sz => fm_QI K r σ sz) (cc := cL_ones) (maxL := 3) (ret := (some .int)) (by decide) rfl (Nat.le_of_ble_eq_true rfl) ?_
  intro p e s m args below meth c C hr hlk hst hH ls hl
  have C : CallFix p m c cL_ones 3 s args wsL_ones RL := C
  obtain ⟨hx, hb, hml, hown, hts⟩ := id C
  have hA : ∀ q, fm_A K s.heap.size q → fm_A K s.heap.size q := fun _ h => h
  have hl : lv_has ls 3 [(0, .int x0)] := hl
  generalize hQ : MQ below _ args s _ _ _ = Q
  rw [mL_ones] at h
  refine lv_iconst (v := 0) hx hb dL_ones_0 (by decide) ?_
  refine lv_istore_n (lv' := [(1, .int (0 : Int32)), (0, .int x0)]) hx hb dL_ones_1 rfl hl (by decide) rfl (fun ls hl => ?_)
  refine lv_iload_n hx hb dL_ones_2 rfl (lv_at hl 1 rfl) ?_
  refine lv_istore_n (lv' := [(2, .int x0), (1, .int (0 : Int32)), (0, .int x0)]) hx hb dL_ones_3 rfl hl (by decide) rfl (fun ls hl => ?_)
  obtain ⟨y4_1, h4, h⟩ := mi_b1 h
  refine wL_ones_L4 C hst hA _ _ _ _ _ h4 (fun ls H locs hl hH => ?_) _ _ _ (lv_sub hl [1, 0] rfl) hH
  refine lv_iload_n hx hb dL_ones_20 rfl (lv_at hl 0 rfl) ?_
  cases h
  subst hQ
  exact fm_iret hx hb hr hlk hst hH dL_ones_21
/-! RL.up([I)I -/
abbrev rmL_up : Room := { frames := 0, cells := 0, slots := 0, locals := 0 }
def mL_up_L4 : Nat → Int32 → Int32 → fm_S → Option (Int32)
  | 0, _, _, _ => none
  | n + 1, x1, x2, σ =>
    if ((40 : Int32) < 0 ∨ 48 ≤ (40 : Int32).toNatClampNeg) then none else
    if (rI σ 40 (40 : Int32)) ≤ x2 then
      some x1
    else
      if ((((8 : Int32) * x2) + (2 : Int32)) < 0 ∨ 48 ≤ (((8 : Int32) * x2) + (2 : Int32)).toNatClampNeg) then none else
      mb1 (show Option (Int32) from
        if (rI σ 40 (((8 : Int32) * x2) + (2 : Int32))) = 0 then
          some (((1 : Int32) <<< (x2 &&& 31)))
        else
          some ((0 : Int32))) fun v3_0 =>
      mb1 (some (x1 ||| v3_0)) fun u1_4 =>
      mL_up_L4 n u1_4 (x2 + 1) σ
set_option maxHeartbeats 4000000 in
set_option maxRecDepth 100000 in
theorem wL_up_L4 {p : Program} {l : Launch} {e : Env} {s : State} {m : MethodId} {args : Array Value} {below : List Frame} {meth : Method} {c : Code} {Q : State → Prop} {K : fm_K} {A : Nat → Prop} (C : CallFix p m c cL_up 3 s args wsL_up RL) (hst : fm_st K A s s.heap) (hA : ∀ q, fm_A K s.heap.size q → A q) :
    ∀ (n : Nat) (x1 : Int32) (x2 : Int32) (σ : fm_S) (o1 : Int32), mL_up_L4 n x1 x2 σ = some o1 → (∀ (ls : Array Slot) (H : Heap) (locs : List Loc), lv_has ls 3 [(1, .int o1)] → fm_H K σ A s H locs → W p l e rmL_up s m args below meth c H locs 0 0 Q (F0 m 39 ls [])) → ∀ (ls : Array Slot) (H : Heap) (locs : List Loc), lv_has ls 3 [(0, .ref (K.2.2.2 40)), (1, .int x1), (2, .int x2)] → fm_H K σ A s H locs → W p l e rmL_up s m args below meth c H locs 0 0 Q (F0 m 4 ls []) := by
  obtain ⟨hx, hb, hml, hown, hts⟩ := id C
  intro n
  induction n with
  | zero => intro x1 x2 σ o1 h; simp [mL_up_L4] at h
  | succ n ih =>
    intro x1 x2 σ o1 h kk ls H locs hl hH
    rw [mL_up_L4] at h
    refine lv_iload_n hx hb dL_up_4 rfl (lv_at hl 2 rfl) ?_
    refine lv_aload_n hx hb dL_up_5 rfl (lv_at hl 0 rfl) ?_
    refine lv_bipush (v := 40) hx hb dL_up_6 (by decide) ?_
    obtain ⟨hi1, h⟩ := mi_chk h
    refine fm_ild hx hb hst.1 hH 40 (fm_inb (by decide)) rfl rfl hi1 dL_up_8 ?_
    refine lv_icmp_ge (tgt := 39) hx hb dL_up_9 (by decide) (fun hc => ?_) (fun hc => ?_)
    · replace h := mi_pos hc h
      cases h
      exact kk _ _ _ (lv_sub hl [1] rfl) hH
    · replace h := mi_neg hc h
      refine lv_iload_n hx hb dL_up_12 rfl (lv_at hl 1 rfl) ?_
      refine lv_aload_n hx hb dL_up_13 rfl (lv_at hl 0 rfl) ?_
      refine lv_bipush (v := 8) hx hb dL_up_14 (by decide) ?_
      refine lv_iload_n hx hb dL_up_16 rfl (lv_at hl 2 rfl) ?_
      refine lv_imul hx hb dL_up_17 ?_
      refine lv_iconst (v := 2) hx hb dL_up_18 (by decide) ?_
      refine lv_iadd hx hb dL_up_19 ?_
      obtain ⟨hi2, h⟩ := mi_chk h
      refine fm_ild hx hb hst.1 hH 40 (fm_inb (by decide)) rfl rfl hi2 dL_up_20 ?_
      obtain ⟨v3_0, hd, h2⟩ := mi_b1 h
      have kj : ∀ (ls : Array Slot) (H : Heap) (locs : List Loc), lv_has ls 3 [(0, .ref (K.2.2.2 40)), (2, .int x2)] → fm_H K σ A s H locs → W p l e rmL_up s m args below meth c H locs 0 0 Q (F0 m 31 ls [.int v3_0, .int x1]) := by
        clear h hd
        intro ls H locs hl hH
        have h := h2
        clear h2
        refine lv_ior hx hb dL_up_31 ?_
        obtain ⟨u1_4, hu, h⟩ := mi_b1 h
        rw [Option.some.inj hu]
        clear hu
        refine lv_istore_n (lv' := [(1, .int u1_4), (0, .ref (K.2.2.2 40)), (2, .int x2)]) hx hb dL_up_32 rfl hl (by decide) rfl (fun ls hl => ?_)
        refine lv_iinc (v := (x2 + 1)) (lv' := [(2, .int (x2 + 1)), (1, .int u1_4), (0, .ref (K.2.2.2 40))]) hx hb dL_up_33 hl (k := 2) rfl rfl (by decide) rfl (fun ls hl => ?_)
        refine lv_goto (tgt := 4) hx hb dL_up_36 (by decide) ?_
        exact ih _ _ _ _ h kk _ _ _ (lv_sub hl [2, 1, 0] rfl) hH
      replace h := hd
      clear h2 hd
      refine lv_if_ne (tgt := 30) hx hb dL_up_21 (by decide) (fun hc => ?_) (fun hc => ?_)
      · replace h := mi_neg hc h
        refine lv_iconst (v := 0) hx hb dL_up_30 (by decide) ?_
        cases h
        exact kj _ _ _ (lv_sub hl [0, 2] rfl) hH
      · replace h := mi_pos hc h
        refine lv_iconst (v := 1) hx hb dL_up_24 (by decide) ?_
        refine lv_iload_n hx hb dL_up_25 rfl (lv_at hl 2 rfl) ?_
        refine lv_ishl hx hb dL_up_26 ?_
        refine lv_goto (tgt := 31) hx hb dL_up_27 (by decide) ?_
        cases h
        exact kj _ _ _ (lv_sub hl [0, 2] rfl) hH
def mL_up (σ : fm_S) : Option Int32 :=
  mb1 (mL_up_L4 fG (0 : Int32) (0 : Int32) σ) fun y4_1 =>
  some y4_1
set_option maxHeartbeats 4000000 in
set_option maxRecDepth 100000 in
theorem kL_up (l : Launch) (K : fm_K) {σ : fm_S} {r : Int32} (h : mL_up σ = some r) : fm_CI l yL_up wsL_up rmL_up K [.ref (K.2.2.2 40)] σ r σ := by
  intro sz
  refine fm_start (Qc := fun sz => fm_QI K r σ sz) (cc := cL_up) (maxL := 3) (ret := (some .int)) (by decide) rfl (Nat.le_of_ble_eq_true rfl) ?_
  intro p e s m args below meth c C hr hlk hst hH ls hl
  have C : CallFix p m c cL_up 3 s args wsL_up RL := C
  obtain ⟨hx, hb, hml, hown, hts⟩ := id C
  have hA : ∀ q, fm_A K s.heap.size q → fm_A K s.heap.size q := fun _ h => h
  have hl : lv_has ls 3 [(0, .ref (K.2.2.2 40))] := hl
  generalize hQ : MQ below _ args s _ _ _ = Q
  rw [mL_up] at h
  refine lv_iconst (v := 0) hx hb dL_up_0 (by decide) ?_
  refine lv_istore_n (lv' := [(1, .int (0 : Int32)), (0, .ref (K.2.2.2 40))]) hx hb dL_up_1 rfl hl (by decide) rfl (fun ls hl => ?_)
  refine lv_iconst (v := 0) hx hb dL_up_2 (by decide) ?_
  refine lv_istore_n (lv' := [(2, .int (0 : Int32)), (1, .int (0 : Int32)), (0, .ref (K.2.2.2 40))]) hx hb dL_up_3 rfl hl (by decide) rfl (fun ls hl => ?_)
  obtain ⟨y4_1, h4, h⟩ := mi_b1 h
  refine wL_up_L4 C hst hA _ _ _ _ _ h4 (fun ls H locs hl hH => ?_) _ _ _ (lv_sub hl [2, 1, 0] rfl) hH
  refine lv_iload_n hx hb dL_up_39 rfl (lv_at hl 0 rfl) ?_
  cases h
  subst hQ
  exact fm_iret hx hb hr hlk hst hH dL_up_40
/-! RL.group(II)I -/
abbrev rmL_group : Room := { frames := 0, cells := 0, slots := 0, locals := 0 }
def mL_group_L14 : Nat → Int32 → Int32 → Int32 → Option (Int32)
  | 0, _, _, _ => none
  | n + 1, x0, x2, x4 =>
    if (25 : Int32) ≤ x4 then
      some x2
    else
      mb1 (show Option (Int32) from
        if ((x0 >>> (x4 &&& 31)) &&& (1 : Int32)) = (1 : Int32) then
          if (((x2 >>> ((x4 / (5 : Int32)) &&& 31)) &&& (1 : Int32)) + ((x2 >>> ((x4 - x4 / (5 : Int32) * (5 : Int32)) &&& 31)) &&& (1 : Int32))) = (1 : Int32) then
            some ((1 : Int32))
          else
            some ((0 : Int32))
        else
          some ((0 : Int32))) fun v2_0 =>
      mb1 (show Option (Int32) from
        if v2_0 = 0 then
          some ((0 : Int32))
        else
          some ((((1 : Int32) <<< ((x4 / (5 : Int32)) &&& 31)) ||| ((1 : Int32) <<< ((x4 - x4 / (5 : Int32) * (5 : Int32)) &&& 31))))) fun v3_0 =>
      mb1 (some (x2 ||| v3_0)) fun u2_4 =>
      mL_group_L14 n x0 u2_4 (x4 + 1)
set_option maxHeartbeats 4000000 in
set_option maxRecDepth 100000 in
theorem wL_group_L14 {p : Program} {l : Launch} {e : Env} {s : State} {m : MethodId} {args : Array Value} {below : List Frame} {meth : Method} {c : Code} {Q : State → Prop} {K : fm_K} {A : Nat → Prop} (C : CallFix p m c cL_group 6 s args wsL_group RL) (hst : fm_st K A s s.heap) (hA : ∀ q, fm_A K s.heap.size q → A q) :
    ∀ (n : Nat) (x0 : Int32) (x2 : Int32) (x4 : Int32) (σ : fm_S) (o2 : Int32), mL_group_L14 n x0 x2 x4 = some o2 → ∀ (x3 : Int32), (∀ (ls : Array Slot) (H : Heap) (locs : List Loc), lv_has ls 6 [(0, .int x0), (2, .int o2), (3, .int x3)] → fm_H K σ A s H locs → W p l e rmL_group s m args below meth c H locs 0 0 Q (F0 m 90 ls [])) → ∀ (ls : Array Slot) (H : Heap) (locs : List Loc), lv_has ls 6 [(0, .int x0), (2, .int x2), (3, .int x3), (4, .int x4)] → fm_H K σ A s H locs → W p l e rmL_group s m args below meth c H locs 0 0 Q (F0 m 14 ls []) := by
  obtain ⟨hx, hb, hml, hown, hts⟩ := id C
  intro n
  induction n with
  | zero => intro x0 x2 x4 σ o2 h; simp [mL_group_L14] at h
  | succ n ih =>
    intro x0 x2 x4 σ o2 h x3 kk ls H locs hl hH
    rw [mL_group_L14] at h
    refine lv_iload hx hb dL_group_14 (lv_at hl 3 rfl) ?_
    refine lv_bipush (v := 25) hx hb dL_group_16 (by decide) ?_
    refine lv_icmp_ge (tgt := 90) hx hb dL_group_18 (by decide) (fun hc => ?_) (fun hc => ?_)
    · replace h := mi_pos hc h
      cases h
      exact kk _ _ _ (lv_sub hl [0, 1, 2] rfl) hH
    · replace h := mi_neg hc h
      refine lv_iload_n hx hb dL_group_21 rfl (lv_at hl 0 rfl) ?_
      refine lv_iload hx hb dL_group_22 (lv_at hl 3 rfl) ?_
      refine lv_ishr hx hb dL_group_24 ?_
      refine lv_iconst (v := 1) hx hb dL_group_25 (by decide) ?_
      refine lv_iand hx hb dL_group_26 ?_
      refine lv_iconst (v := 1) hx hb dL_group_27 (by decide) ?_
      obtain ⟨v2_0, hd, h2⟩ := mi_b1 h
      have kj : ∀ (ls : Array Slot) (H : Heap) (locs : List Loc), lv_has ls 6 [(0, .int x0), (2, .int x2), (3, .int x3), (4, .int x4)] → fm_H K σ A s H locs → W p l e rmL_group s m args below meth c H locs 0 0 Q (F0 m 57 ls [.int v2_0]) := by
        clear h hd
        intro ls H locs hl hH
        have h := h2
        clear h2
        refine lv_istore (lv' := [(5, .int v2_0), (0, .int x0), (2, .int x2), (3, .int x3), (4, .int x4)]) hx hb dL_group_57 hl (by decide) rfl (fun ls hl => ?_)
        refine lv_iload_n hx hb dL_group_59 rfl (lv_at hl 2 rfl) ?_
        refine lv_iload hx hb dL_group_60 (lv_at hl 0 rfl) ?_
        obtain ⟨v3_0, hd, h2⟩ := mi_b1 h
        have kj : ∀ (ls : Array Slot) (H : Heap) (locs : List Loc), lv_has ls 6 [(0, .int x0), (3, .int x3), (4, .int x4)] → fm_H K σ A s H locs → W p l e rmL_group s m args below meth c H locs 0 0 Q (F0 m 82 ls [.int v3_0, .int x2]) := by
          clear h hd
          intro ls H locs hl hH
          have h := h2
          clear h2
          refine lv_ior hx hb dL_group_82 ?_
          obtain ⟨u2_4, hu, h⟩ := mi_b1 h
          rw [Option.some.inj hu]
          clear hu
          refine lv_istore_n (lv' := [(2, .int u2_4), (0, .int x0), (3, .int x3), (4, .int x4)]) hx hb dL_group_83 rfl hl (by decide) rfl (fun ls hl => ?_)
          refine lv_iinc (v := (x4 + 1)) (lv' := [(4, .int (x4 + 1)), (2, .int u2_4), (0, .int x0), (3, .int x3)]) hx hb dL_group_84 hl (k := 3) rfl rfl (by decide) rfl (fun ls hl => ?_)
          refine lv_goto (tgt := 14) hx hb dL_group_87 (by decide) ?_
          exact ih _ _ _ _ _ h _ kk _ _ _ (lv_sub hl [2, 1, 3, 0] rfl) hH
        replace h := hd
        clear h2 hd
        refine lv_if_eq (tgt := 81) hx hb dL_group_62 (by decide) (fun hc => ?_) (fun hc => ?_)
        · replace h := mi_pos hc h
          refine lv_iconst (v := 0) hx hb dL_group_81 (by decide) ?_
          cases h
          exact kj _ _ _ (lv_sub hl [1, 3, 4] rfl) hH
        · replace h := mi_neg hc h
          refine lv_iconst (v := 1) hx hb dL_group_65 (by decide) ?_
          refine lv_iload hx hb dL_group_66 (lv_at hl 4 rfl) ?_
          refine lv_iconst (v := 5) hx hb dL_group_68 (by decide) ?_
          refine lv_idiv hx hb dL_group_69 (by decide) ?_
          refine lv_ishl hx hb dL_group_70 ?_
          refine lv_iconst (v := 1) hx hb dL_group_71 (by decide) ?_
          refine lv_iload hx hb dL_group_72 (lv_at hl 4 rfl) ?_
          refine lv_iconst (v := 5) hx hb dL_group_74 (by decide) ?_
          refine lv_irem hx hb dL_group_75 (by decide) ?_
          refine lv_ishl hx hb dL_group_76 ?_
          refine lv_ior hx hb dL_group_77 ?_
          refine lv_goto (tgt := 82) hx hb dL_group_78 (by decide) ?_
          cases h
          exact kj _ _ _ (lv_sub hl [1, 3, 4] rfl) hH
      replace h := hd
      clear h2 hd
      refine lv_icmp_ne (tgt := 56) hx hb dL_group_28 (by decide) (fun hc => ?_) (fun hc => ?_)
      · replace h := mi_neg hc h
        refine lv_iconst (v := 0) hx hb dL_group_56 (by decide) ?_
        cases h
        exact kj _ _ _ (lv_sub hl [0, 1, 2, 3] rfl) hH
      · replace h := mi_pos hc h
        refine lv_iload_n hx hb dL_group_31 rfl (lv_at hl 1 rfl) ?_
        refine lv_iload hx hb dL_group_32 (lv_at hl 3 rfl) ?_
        refine lv_iconst (v := 5) hx hb dL_group_34 (by decide) ?_
        refine lv_idiv hx hb dL_group_35 (by decide) ?_
        refine lv_ishr hx hb dL_group_36 ?_
        refine lv_iconst (v := 1) hx hb dL_group_37 (by decide) ?_
        refine lv_iand hx hb dL_group_38 ?_
        refine lv_iload_n hx hb dL_group_39 rfl (lv_at hl 1 rfl) ?_
        refine lv_iload hx hb dL_group_40 (lv_at hl 3 rfl) ?_
        refine lv_iconst (v := 5) hx hb dL_group_42 (by decide) ?_
        refine lv_irem hx hb dL_group_43 (by decide) ?_
        refine lv_ishr hx hb dL_group_44 ?_
        refine lv_iconst (v := 1) hx hb dL_group_45 (by decide) ?_
        refine lv_iand hx hb dL_group_46 ?_
        refine lv_iadd hx hb dL_group_47 ?_
        refine lv_iconst (v := 1) hx hb dL_group_48 (by decide) ?_
        refine lv_icmp_ne (tgt := 56) hx hb dL_group_49 (by decide) (fun hc => ?_) (fun hc => ?_)
        · replace h := mi_neg hc h
          refine lv_iconst (v := 0) hx hb dL_group_56 (by decide) ?_
          cases h
          exact kj _ _ _ (lv_sub hl [0, 1, 2, 3] rfl) hH
        · replace h := mi_pos hc h
          refine lv_iconst (v := 1) hx hb dL_group_52 (by decide) ?_
          refine lv_goto (tgt := 57) hx hb dL_group_53 (by decide) ?_
          cases h
          exact kj _ _ _ (lv_sub hl [0, 1, 2, 3] rfl) hH
def mL_group_L6 : Nat → Int32 → Int32 → Int32 → Option (Int32)
  | 0, _, _, _ => none
  | n + 1, x0, x2, x3 =>
    if (4 : Int32) ≤ x3 then
      some x2
    else
      mb1 (mL_group_L14 fG x0 x2 (0 : Int32)) fun y14_2 =>
      mL_group_L6 n x0 y14_2 (x3 + 1)
set_option maxHeartbeats 4000000 in
set_option maxRecDepth 100000 in
theorem wL_group_L6 {p : Program} {l : Launch} {e : Env} {s : State} {m : MethodId} {args : Array Value} {below : List Frame} {meth : Method} {c : Code} {Q : State → Prop} {K : fm_K} {A : Nat → Prop} (C : CallFix p m c cL_group 6 s args wsL_group RL) (hst : fm_st K A s s.heap) (hA : ∀ q, fm_A K s.heap.size q → A q) :
    ∀ (n : Nat) (x0 : Int32) (x2 : Int32) (x3 : Int32) (σ : fm_S) (o2 : Int32), mL_group_L6 n x0 x2 x3 = some o2 → (∀ (ls : Array Slot) (H : Heap) (locs : List Loc), lv_has ls 6 [(2, .int o2)] → fm_H K σ A s H locs → W p l e rmL_group s m args below meth c H locs 0 0 Q (F0 m 96 ls [])) → ∀ (ls : Array Slot) (H : Heap) (locs : List Loc), lv_has ls 6 [(0, .int x0), (2, .int x2), (3, .int x3)] → fm_H K σ A s H locs → W p l e rmL_group s m args below meth c H locs 0 0 Q (F0 m 6 ls []) := by
  obtain ⟨hx, hb, hml, hown, hts⟩ := id C
  intro n
  induction n with
  | zero => intro x0 x2 x3 σ o2 h; simp [mL_group_L6] at h
  | succ n ih =>
    intro x0 x2 x3 σ o2 h kk ls H locs hl hH
    rw [mL_group_L6] at h
    refine lv_iload_n hx hb dL_group_6 rfl (lv_at hl 2 rfl) ?_
    refine lv_iconst (v := 4) hx hb dL_group_7 (by decide) ?_
    refine lv_icmp_ge (tgt := 96) hx hb dL_group_8 (by decide) (fun hc => ?_) (fun hc => ?_)
    · replace h := mi_pos hc h
      cases h
      exact kk _ _ _ (lv_sub hl [1] rfl) hH
    · replace h := mi_neg hc h
      refine lv_iconst (v := 0) hx hb dL_group_11 (by decide) ?_
      refine lv_istore (lv' := [(4, .int (0 : Int32)), (0, .int x0), (2, .int x2), (3, .int x3)]) hx hb dL_group_12 hl (by decide) rfl (fun ls hl => ?_)
      obtain ⟨y14_2, h14, h⟩ := mi_b1 h
      refine wL_group_L14 C hst hA _ _ _ _ _ _ h14 _ (fun ls H locs hl hH => ?_) _ _ _ (lv_sub hl [1, 2, 3, 0] rfl) hH
      refine lv_iinc (v := (x3 + 1)) (lv' := [(3, .int (x3 + 1)), (0, .int x0), (2, .int y14_2)]) hx hb dL_group_90 hl (k := 2) rfl rfl (by decide) rfl (fun ls hl => ?_)
      refine lv_goto (tgt := 6) hx hb dL_group_93 (by decide) ?_
      exact ih _ _ _ _ _ h kk _ _ _ (lv_sub hl [1, 2, 0] rfl) hH
def mL_group (x0 : Int32) (x1 : Int32) : Option Int32 :=
  mb1 (some ((1 : Int32) <<< (x1 &&& 31))) fun u2_1 =>
  mb1 (mL_group_L6 fG x0 u2_1 (0 : Int32)) fun y6_2 =>
  some y6_2
set_option maxHeartbeats 4000000 in
set_option maxRecDepth 100000 in
theorem kL_group (l : Launch) (K : fm_K) {x0 : Int32} {x1 : Int32} {σ : fm_S} {r : Int32} (h : mL_group x0 x1 = some r) : fm_CI l yL_group wsL_group rmL_group K [.int x0, .int x1] σ r σ := by
  intro sz
  refine fm_start (Qc := fun sz => fm_QI K r σ sz) (cc := cL_group) (maxL := 6) (ret := (some .int)) (by decide) rfl (Nat.le_of_ble_eq_true rfl) ?_
  intro p e s m args below meth c C hr hlk hst hH ls hl
  have C : CallFix p m c cL_group 6 s args wsL_group RL := C
  obtain ⟨hx, hb, hml, hown, hts⟩ := id C
  have hA : ∀ q, fm_A K s.heap.size q → fm_A K s.heap.size q := fun _ h => h
  have hl : lv_has ls 6 [(0, .int x0), (1, .int x1)] := hl
  generalize hQ : MQ below _ args s _ _ _ = Q
  rw [mL_group] at h
  refine lv_iconst (v := 1) hx hb dL_group_0 (by decide) ?_
  refine lv_iload_n hx hb dL_group_1 rfl (lv_at hl 1 rfl) ?_
  refine lv_ishl hx hb dL_group_2 ?_
  obtain ⟨u2_1, hu, h⟩ := mi_b1 h
  rw [Option.some.inj hu]
  clear hu
  refine lv_istore_n (lv' := [(2, .int u2_1), (0, .int x0), (1, .int x1)]) hx hb dL_group_3 rfl hl (by decide) rfl (fun ls hl => ?_)
  refine lv_iconst (v := 0) hx hb dL_group_4 (by decide) ?_
  refine lv_istore_n (lv' := [(3, .int (0 : Int32)), (2, .int u2_1), (0, .int x0), (1, .int x1)]) hx hb dL_group_5 rfl hl (by decide) rfl (fun ls hl => ?_)
  obtain ⟨y6_2, h6, h⟩ := mi_b1 h
  refine wL_group_L6 C hst hA _ _ _ _ _ _ h6 (fun ls H locs hl hH => ?_) _ _ _ (lv_sub hl [2, 1, 0] rfl) hH
  refine lv_iload_n hx hb dL_group_96 rfl (lv_at hl 0 rfl) ?_
  cases h
  subst hQ
  exact fm_iret hx hb hr hlk hst hH dL_group_97
/-! RL.links([I[I)I -/
abbrev rmL_links : Room := { frames := 2, cells := 0, slots := 0, locals := 49 }
def mL_links_L15 : Nat → Int32 → Int32 → Int32 → fm_S → Option (Int32)
  | 0, _, _, _, _ => none
  | n + 1, x2, x3, x4, σ =>
    if x3 ≤ x4 then
      some x2
    else
      mb1 (mL_heard x3 σ) fun r25 =>
      mb1 (show Option (Int32) from
        if ((r25 >>> (x4 &&& 31)) &&& (1 : Int32)) = (1 : Int32) then
          mb1 (mL_pair x4 x3) fun r41 =>
          some (((1 : Int32) <<< (r41 &&& 31)))
        else
          some ((0 : Int32))) fun v2_0 =>
      mb1 (some (x2 ||| v2_0)) fun u2_3 =>
      mL_links_L15 n u2_3 x3 (x4 + 1) σ
set_option maxHeartbeats 4000000 in
set_option maxRecDepth 100000 in
theorem wL_links_L15 {p : Program} {l : Launch} {e : Env} {s : State} {m : MethodId} {args : Array Value} {below : List Frame} {meth : Method} {c : Code} {Q : State → Prop} {K : fm_K} {A : Nat → Prop} (C : CallFix p m c cL_links 5 s args wsL_links RL) (hst : fm_st K A s s.heap) (hA : ∀ q, fm_A K s.heap.size q → A q) :
    ∀ (n : Nat) (x2 : Int32) (x3 : Int32) (x4 : Int32) (σ : fm_S) (o2 : Int32), mL_links_L15 n x2 x3 x4 σ = some o2 → (∀ (ls : Array Slot) (H : Heap) (locs : List Loc), lv_has ls 5 [(0, .ref (K.2.2.2 40)), (1, .ref (K.2.2.2 41)), (2, .int o2), (3, .int x3)] → fm_H K σ A s H locs → W p l e rmL_links s m args below meth c H locs 0 0 Q (F0 m 57 ls [])) → ∀ (ls : Array Slot) (H : Heap) (locs : List Loc), lv_has ls 5 [(0, .ref (K.2.2.2 40)), (1, .ref (K.2.2.2 41)), (2, .int x2), (3, .int x3), (4, .int x4)] → fm_H K σ A s H locs → W p l e rmL_links s m args below meth c H locs 0 0 Q (F0 m 15 ls []) := by
  obtain ⟨hx, hb, hml, hown, hts⟩ := id C
  intro n
  induction n with
  | zero => intro x2 x3 x4 σ o2 h; simp [mL_links_L15] at h
  | succ n ih =>
    intro x2 x3 x4 σ o2 h kk ls H locs hl hH
    rw [mL_links_L15] at h
    refine lv_iload hx hb dL_links_15 (lv_at hl 4 rfl) ?_
    refine lv_iload_n hx hb dL_links_17 rfl (lv_at hl 3 rfl) ?_
    refine lv_icmp_ge (tgt := 57) hx hb dL_links_18 (by decide) (fun hc => ?_) (fun hc => ?_)
    · replace h := mi_pos hc h
      cases h
      exact kk _ _ _ (lv_sub hl [0, 1, 2, 3] rfl) hH
    · replace h := mi_neg hc h
      refine lv_iload_n hx hb dL_links_21 rfl (lv_at hl 2 rfl) ?_
      refine lv_aload_n hx hb dL_links_22 rfl (lv_at hl 0 rfl) ?_
      refine lv_aload_n hx hb dL_links_23 rfl (lv_at hl 1 rfl) ?_
      refine lv_iload_n hx hb dL_links_24 rfl (lv_at hl 3 rfl) ?_
      obtain ⟨r25, h25, h⟩ := mi_b1 h
      refine fm_ci (va_runS (As := [.ref (K.2.2.2 40), .ref (K.2.2.2 41), .int x3]) (rest := [.int x2]) C (kL_heard l K h25 _) (va_cwS 3 hts gL_links_L_heard rfl rfl rfl (by decide +kernel) ⟨(Nat.le_of_ble_eq_true rfl), (Nat.le_of_ble_eq_true rfl)⟩) ⟨fm_blind, fm_pre hst hA hH⟩ rfl rfl hl.1 rfl (lv_room (Nat.le_of_ble_eq_true rfl)) dL_links_25 ⟨(Nat.le_of_ble_eq_true rfl), (Nat.le_of_ble_eq_true rfl)⟩) hA hH (fun H locs hH => ?_)
      refine lv_iload hx hb dL_links_28 (lv_at hl 4 rfl) ?_
      refine lv_ishr hx hb dL_links_30 ?_
      refine lv_iconst (v := 1) hx hb dL_links_31 (by decide) ?_
      refine lv_iand hx hb dL_links_32 ?_
      refine lv_iconst (v := 1) hx hb dL_links_33 (by decide) ?_
      obtain ⟨v2_0, hd, h2⟩ := mi_b1 h
      have kj : ∀ (ls : Array Slot) (H : Heap) (locs : List Loc), lv_has ls 5 [(0, .ref (K.2.2.2 40)), (1, .ref (K.2.2.2 41)), (3, .int x3), (4, .int x4)] → fm_H K σ A s H locs → W p l e rmL_links s m args below meth c H locs 0 0 Q (F0 m 49 ls [.int v2_0, .int x2]) := by
        clear h hd
        intro ls H locs hl hH
        have h := h2
        clear h2
        refine lv_ior hx hb dL_links_49 ?_
        obtain ⟨u2_3, hu, h⟩ := mi_b1 h
        rw [Option.some.inj hu]
        clear hu
        refine lv_istore_n (lv' := [(2, .int u2_3), (0, .ref (K.2.2.2 40)), (1, .ref (K.2.2.2 41)), (3, .int x3), (4, .int x4)]) hx hb dL_links_50 rfl hl (by decide) rfl (fun ls hl => ?_)
        refine lv_iinc (v := (x4 + 1)) (lv' := [(4, .int (x4 + 1)), (2, .int u2_3), (0, .ref (K.2.2.2 40)), (1, .ref (K.2.2.2 41)), (3, .int x3)]) hx hb dL_links_51 hl (k := 4) rfl rfl (by decide) rfl (fun ls hl => ?_)
        refine lv_goto (tgt := 15) hx hb dL_links_54 (by decide) ?_
        exact ih _ _ _ _ _ h kk _ _ _ (lv_sub hl [2, 3, 1, 4, 0] rfl) hH
      replace h := hd
      clear h2 hd
      refine lv_icmp_ne (tgt := 48) hx hb dL_links_34 (by decide) (fun hc => ?_) (fun hc => ?_)
      · replace h := mi_neg hc h
        refine lv_iconst (v := 0) hx hb dL_links_48 (by decide) ?_
        cases h
        exact kj _ _ _ (lv_sub hl [0, 1, 3, 4] rfl) hH
      · replace h := mi_pos hc h
        refine lv_iconst (v := 1) hx hb dL_links_37 (by decide) ?_
        refine lv_iload hx hb dL_links_38 (lv_at hl 4 rfl) ?_
        refine lv_iload_n hx hb dL_links_40 rfl (lv_at hl 3 rfl) ?_
        obtain ⟨r41, h41, h⟩ := mi_b1 h
        refine fm_ci (va_runS (As := [.int x4, .int x3]) (rest := [.int (1 : Int32), .int x2]) C (kL_pair l K h41 _) (va_cwS 2 hts gL_links_L_pair rfl rfl rfl (by decide +kernel) ⟨(Nat.le_of_ble_eq_true rfl), (Nat.le_of_ble_eq_true rfl)⟩) ⟨fm_blind, fm_pre hst hA hH⟩ rfl rfl hl.1 rfl (lv_room (Nat.le_of_ble_eq_true rfl)) dL_links_41 ⟨(Nat.le_of_ble_eq_true rfl), (Nat.le_of_ble_eq_true rfl)⟩) hA hH (fun H locs hH => ?_)
        refine lv_ishl hx hb dL_links_44 ?_
        refine lv_goto (tgt := 49) hx hb dL_links_45 (by decide) ?_
        cases h
        exact kj _ _ _ (lv_sub hl [0, 1, 3, 4] rfl) hH
def mL_links_L4 : Nat → Int32 → Int32 → fm_S → Option (Int32)
  | 0, _, _, _ => none
  | n + 1, x2, x3, σ =>
    if ((40 : Int32) < 0 ∨ 48 ≤ (40 : Int32).toNatClampNeg) then none else
    if (rI σ 40 (40 : Int32)) ≤ x3 then
      some x2
    else
      mb1 (mL_links_L15 fG x2 x3 (0 : Int32) σ) fun y15_2 =>
      mL_links_L4 n y15_2 (x3 + 1) σ
set_option maxHeartbeats 4000000 in
set_option maxRecDepth 100000 in
theorem wL_links_L4 {p : Program} {l : Launch} {e : Env} {s : State} {m : MethodId} {args : Array Value} {below : List Frame} {meth : Method} {c : Code} {Q : State → Prop} {K : fm_K} {A : Nat → Prop} (C : CallFix p m c cL_links 5 s args wsL_links RL) (hst : fm_st K A s s.heap) (hA : ∀ q, fm_A K s.heap.size q → A q) :
    ∀ (n : Nat) (x2 : Int32) (x3 : Int32) (σ : fm_S) (o2 : Int32), mL_links_L4 n x2 x3 σ = some o2 → (∀ (ls : Array Slot) (H : Heap) (locs : List Loc), lv_has ls 5 [(2, .int o2)] → fm_H K σ A s H locs → W p l e rmL_links s m args below meth c H locs 0 0 Q (F0 m 63 ls [])) → ∀ (ls : Array Slot) (H : Heap) (locs : List Loc), lv_has ls 5 [(0, .ref (K.2.2.2 40)), (1, .ref (K.2.2.2 41)), (2, .int x2), (3, .int x3)] → fm_H K σ A s H locs → W p l e rmL_links s m args below meth c H locs 0 0 Q (F0 m 4 ls []) := by
  obtain ⟨hx, hb, hml, hown, hts⟩ := id C
  intro n
  induction n with
  | zero => intro x2 x3 σ o2 h; simp [mL_links_L4] at h
  | succ n ih =>
    intro x2 x3 σ o2 h kk ls H locs hl hH
    rw [mL_links_L4] at h
    refine lv_iload_n hx hb dL_links_4 rfl (lv_at hl 3 rfl) ?_
    refine lv_aload_n hx hb dL_links_5 rfl (lv_at hl 0 rfl) ?_
    refine lv_bipush (v := 40) hx hb dL_links_6 (by decide) ?_
    obtain ⟨hi1, h⟩ := mi_chk h
    refine fm_ild hx hb hst.1 hH 40 (fm_inb (by decide)) rfl rfl hi1 dL_links_8 ?_
    refine lv_icmp_ge (tgt := 63) hx hb dL_links_9 (by decide) (fun hc => ?_) (fun hc => ?_)
    · replace h := mi_pos hc h
      cases h
      exact kk _ _ _ (lv_sub hl [2] rfl) hH
    · replace h := mi_neg hc h
      refine lv_iconst (v := 0) hx hb dL_links_12 (by decide) ?_
      refine lv_istore (lv' := [(4, .int (0 : Int32)), (0, .ref (K.2.2.2 40)), (1, .ref (K.2.2.2 41)), (2, .int x2), (3, .int x3)]) hx hb dL_links_13 hl (by decide) rfl (fun ls hl => ?_)
      obtain ⟨y15_2, h15, h⟩ := mi_b1 h
      refine wL_links_L15 C hst hA _ _ _ _ _ _ h15 (fun ls H locs hl hH => ?_) _ _ _ (lv_sub hl [1, 2, 3, 4, 0] rfl) hH
      refine lv_iinc (v := (x3 + 1)) (lv' := [(3, .int (x3 + 1)), (0, .ref (K.2.2.2 40)), (1, .ref (K.2.2.2 41)), (2, .int y15_2)]) hx hb dL_links_57 hl (k := 3) rfl rfl (by decide) rfl (fun ls hl => ?_)
      refine lv_goto (tgt := 4) hx hb dL_links_60 (by decide) ?_
      exact ih _ _ _ _ h kk _ _ _ (lv_sub hl [1, 2, 3, 0] rfl) hH
def mL_links (σ : fm_S) : Option Int32 :=
  mb1 (mL_links_L4 fG (0 : Int32) (0 : Int32) σ) fun y4_2 =>
  some y4_2
set_option maxHeartbeats 4000000 in
set_option maxRecDepth 100000 in
theorem kL_links (l : Launch) (K : fm_K) {σ : fm_S} {r : Int32} (h : mL_links σ = some r) : fm_CI l yL_links wsL_links rmL_links K [.ref (K.2.2.2 40), .ref (K.2.2.2 41)] σ r σ := by
  intro sz
  refine fm_start (Qc := fun sz => fm_QI K r σ sz) (cc := cL_links) (maxL := 5) (ret := (some .int)) (by decide) rfl (Nat.le_of_ble_eq_true rfl) ?_
  intro p e s m args below meth c C hr hlk hst hH ls hl
  have C : CallFix p m c cL_links 5 s args wsL_links RL := C
  obtain ⟨hx, hb, hml, hown, hts⟩ := id C
  have hA : ∀ q, fm_A K s.heap.size q → fm_A K s.heap.size q := fun _ h => h
  have hl : lv_has ls 5 [(0, .ref (K.2.2.2 40)), (1, .ref (K.2.2.2 41))] := hl
  generalize hQ : MQ below _ args s _ _ _ = Q
  rw [mL_links] at h
  refine lv_iconst (v := 0) hx hb dL_links_0 (by decide) ?_
  refine lv_istore_n (lv' := [(2, .int (0 : Int32)), (0, .ref (K.2.2.2 40)), (1, .ref (K.2.2.2 41))]) hx hb dL_links_1 rfl hl (by decide) rfl (fun ls hl => ?_)
  refine lv_iconst (v := 0) hx hb dL_links_2 (by decide) ?_
  refine lv_istore_n (lv' := [(3, .int (0 : Int32)), (2, .int (0 : Int32)), (0, .ref (K.2.2.2 40)), (1, .ref (K.2.2.2 41))]) hx hb dL_links_3 rfl hl (by decide) rfl (fun ls hl => ?_)
  obtain ⟨y4_2, h4, h⟩ := mi_b1 h
  refine wL_links_L4 C hst hA _ _ _ _ _ h4 (fun ls H locs hl hH => ?_) _ _ _ (lv_sub hl [2, 3, 1, 0] rfl) hH
  refine lv_iload_n hx hb dL_links_63 rfl (lv_at hl 0 rfl) ?_
  cases h
  subst hQ
  exact fm_iret hx hb hr hlk hst hH dL_links_64
/-! RL.isFree(I)Z -/
abbrev rmL_isFree : Room := { frames := 1, cells := 0, slots := 0, locals := 22 }
def mL_isFree_L12 : Nat → Int32 → Int32 → Int32 → Int32 → Option (Int32)
  | 0, _, _, _, _ => none
  | n + 1, x0, x1, x2, x3 =>
    if (25 : Int32) ≤ x3 then
      some x2
    else
      mb1 (show Option (Int32) from
        if ((x0 >>> (x3 &&& 31)) &&& (1 : Int32)) = (1 : Int32) then
          if (((x1 >>> ((x3 / (5 : Int32)) &&& 31)) &&& (x1 >>> ((x3 - x3 / (5 : Int32) * (5 : Int32)) &&& 31))) &&& (1 : Int32)) = (1 : Int32) then
            some ((1 : Int32))
          else
            some ((0 : Int32))
        else
          some ((0 : Int32))) fun v1_0 =>
      mb1 (some (x2 + v1_0)) fun u2_2 =>
      mL_isFree_L12 n x0 x1 u2_2 (x3 + 1)
set_option maxHeartbeats 4000000 in
set_option maxRecDepth 100000 in
theorem wL_isFree_L12 {p : Program} {l : Launch} {e : Env} {s : State} {m : MethodId} {args : Array Value} {below : List Frame} {meth : Method} {c : Code} {Q : State → Prop} {K : fm_K} {A : Nat → Prop} (C : CallFix p m c cL_isFree 4 s args wsL_isFree RL) (hst : fm_st K A s s.heap) (hA : ∀ q, fm_A K s.heap.size q → A q) :
    ∀ (n : Nat) (x0 : Int32) (x1 : Int32) (x2 : Int32) (x3 : Int32) (σ : fm_S) (o2 : Int32), mL_isFree_L12 n x0 x1 x2 x3 = some o2 → (∀ (ls : Array Slot) (H : Heap) (locs : List Loc), lv_has ls 4 [(0, .int x0), (1, .int x1), (2, .int o2)] → fm_H K σ A s H locs → W p l e rmL_isFree s m args below meth c H locs 0 0 Q (F0 m 58 ls [])) → ∀ (ls : Array Slot) (H : Heap) (locs : List Loc), lv_has ls 4 [(0, .int x0), (1, .int x1), (2, .int x2), (3, .int x3)] → fm_H K σ A s H locs → W p l e rmL_isFree s m args below meth c H locs 0 0 Q (F0 m 12 ls []) := by
  obtain ⟨hx, hb, hml, hown, hts⟩ := id C
  intro n
  induction n with
  | zero => intro x0 x1 x2 x3 σ o2 h; simp [mL_isFree_L12] at h
  | succ n ih =>
    intro x0 x1 x2 x3 σ o2 h kk ls H locs hl hH
    rw [mL_isFree_L12] at h
    refine lv_iload_n hx hb dL_isFree_12 rfl (lv_at hl 3 rfl) ?_
    refine lv_bipush (v := 25) hx hb dL_isFree_13 (by decide) ?_
    refine lv_icmp_ge (tgt := 58) hx hb dL_isFree_15 (by decide) (fun hc => ?_) (fun hc => ?_)
    · replace h := mi_pos hc h
      cases h
      exact kk _ _ _ (lv_sub hl [0, 1, 2] rfl) hH
    · replace h := mi_neg hc h
      refine lv_iload_n hx hb dL_isFree_18 rfl (lv_at hl 2 rfl) ?_
      refine lv_iload_n hx hb dL_isFree_19 rfl (lv_at hl 0 rfl) ?_
      refine lv_iload_n hx hb dL_isFree_20 rfl (lv_at hl 3 rfl) ?_
      refine lv_ishr hx hb dL_isFree_21 ?_
      refine lv_iconst (v := 1) hx hb dL_isFree_22 (by decide) ?_
      refine lv_iand hx hb dL_isFree_23 ?_
      refine lv_iconst (v := 1) hx hb dL_isFree_24 (by decide) ?_
      obtain ⟨v1_0, hd, h2⟩ := mi_b1 h
      have kj : ∀ (ls : Array Slot) (H : Heap) (locs : List Loc), lv_has ls 4 [(0, .int x0), (1, .int x1), (3, .int x3)] → fm_H K σ A s H locs → W p l e rmL_isFree s m args below meth c H locs 0 0 Q (F0 m 50 ls [.int v1_0, .int x2]) := by
        clear h hd
        intro ls H locs hl hH
        have h := h2
        clear h2
        refine lv_iadd hx hb dL_isFree_50 ?_
        obtain ⟨u2_2, hu, h⟩ := mi_b1 h
        rw [Option.some.inj hu]
        clear hu
        refine lv_istore_n (lv' := [(2, .int u2_2), (0, .int x0), (1, .int x1), (3, .int x3)]) hx hb dL_isFree_51 rfl hl (by decide) rfl (fun ls hl => ?_)
        refine lv_iinc (v := (x3 + 1)) (lv' := [(3, .int (x3 + 1)), (2, .int u2_2), (0, .int x0), (1, .int x1)]) hx hb dL_isFree_52 hl (k := 3) rfl rfl (by decide) rfl (fun ls hl => ?_)
        refine lv_goto (tgt := 12) hx hb dL_isFree_55 (by decide) ?_
        exact ih _ _ _ _ _ _ h kk _ _ _ (lv_sub hl [2, 3, 1, 0] rfl) hH
      replace h := hd
      clear h2 hd
      refine lv_icmp_ne (tgt := 49) hx hb dL_isFree_25 (by decide) (fun hc => ?_) (fun hc => ?_)
      · replace h := mi_neg hc h
        refine lv_iconst (v := 0) hx hb dL_isFree_49 (by decide) ?_
        cases h
        exact kj _ _ _ (lv_sub hl [0, 1, 3] rfl) hH
      · replace h := mi_pos hc h
        refine lv_iload_n hx hb dL_isFree_28 rfl (lv_at hl 1 rfl) ?_
        refine lv_iload_n hx hb dL_isFree_29 rfl (lv_at hl 3 rfl) ?_
        refine lv_iconst (v := 5) hx hb dL_isFree_30 (by decide) ?_
        refine lv_idiv hx hb dL_isFree_31 (by decide) ?_
        refine lv_ishr hx hb dL_isFree_32 ?_
        refine lv_iload_n hx hb dL_isFree_33 rfl (lv_at hl 1 rfl) ?_
        refine lv_iload_n hx hb dL_isFree_34 rfl (lv_at hl 3 rfl) ?_
        refine lv_iconst (v := 5) hx hb dL_isFree_35 (by decide) ?_
        refine lv_irem hx hb dL_isFree_36 (by decide) ?_
        refine lv_ishr hx hb dL_isFree_37 ?_
        refine lv_iand hx hb dL_isFree_38 ?_
        refine lv_iconst (v := 1) hx hb dL_isFree_39 (by decide) ?_
        refine lv_iand hx hb dL_isFree_40 ?_
        refine lv_iconst (v := 1) hx hb dL_isFree_41 (by decide) ?_
        refine lv_icmp_ne (tgt := 49) hx hb dL_isFree_42 (by decide) (fun hc => ?_) (fun hc => ?_)
        · replace h := mi_neg hc h
          refine lv_iconst (v := 0) hx hb dL_isFree_49 (by decide) ?_
          cases h
          exact kj _ _ _ (lv_sub hl [0, 1, 3] rfl) hH
        · replace h := mi_pos hc h
          refine lv_iconst (v := 1) hx hb dL_isFree_45 (by decide) ?_
          refine lv_goto (tgt := 50) hx hb dL_isFree_46 (by decide) ?_
          cases h
          exact kj _ _ _ (lv_sub hl [0, 1, 3] rfl) hH
def mL_isFree_L2 : Nat → Int32 → Int32 → Option (Except Int32 (Unit))
  | 0, _, _ => none
  | n + 1, x0, x1 =>
    if (32 : Int32) ≤ x1 then
      some (.ok ())
    else
      mb1 (mL_isFree_L12 fG x0 x1 (0 : Int32) (0 : Int32)) fun y12_2 =>
      mb1 (mL_ones x1) fun r59 =>
      if r59 ≤ (1 : Int32) then
        mL_isFree_L2 n x0 (x1 + 1)
      else
        mb1 (mL_ones x1) fun r69 =>
        if y12_2 ≤ (((2 : Int32) * r69) - (3 : Int32)) then
          mL_isFree_L2 n x0 (x1 + 1)
        else
          some (.error (0 : Int32))
set_option maxHeartbeats 4000000 in
set_option maxRecDepth 100000 in
theorem wL_isFree_L2 {p : Program} {l : Launch} {e : Env} {s : State} {m : MethodId} {args : Array Value} {below : List Frame} {meth : Method} {c : Code} {Q : State → Prop} {K : fm_K} {A : Nat → Prop} (C : CallFix p m c cL_isFree 4 s args wsL_isFree RL) (hst : fm_st K A s s.heap) (hA : ∀ q, fm_A K s.heap.size q → A q) :
    ∀ (n : Nat) (x0 : Int32) (x1 : Int32) (σ : fm_S) (x : Except Int32 (Unit)), mL_isFree_L2 n x0 x1 = some x → (x = .ok () → ∀ (ls : Array Slot) (H : Heap) (locs : List Loc), lv_has ls 4 [] → fm_H K σ A s H locs → W p l e rmL_isFree s m args below meth c H locs 0 0 Q (F0 m 86 ls [])) → (∀ (ve : Int32), x = .error ve → ∀ (pcR : Nat) (ls : Array Slot) (H : Heap) (locs : List Loc), decode cL_isFree pcR = .ok (.ireturn, 1) → vp_nar .boolean ve = ve → fm_H K σ A s H locs → W p l e rmL_isFree s m args below meth c H locs 0 0 Q (F0 m pcR ls [.int ve])) → ∀ (ls : Array Slot) (H : Heap) (locs : List Loc), lv_has ls 4 [(0, .int x0), (1, .int x1)] → fm_H K σ A s H locs → W p l e rmL_isFree s m args below meth c H locs 0 0 Q (F0 m 2 ls []) := by
  obtain ⟨hx, hb, hml, hown, hts⟩ := id C
  intro n
  induction n with
  | zero => intro x0 x1 σ x h; simp [mL_isFree_L2] at h
  | succ n ih =>
    intro x0 x1 σ x h kk kr ls H locs hl hH
    rw [mL_isFree_L2] at h
    refine lv_iload_n hx hb dL_isFree_2 rfl (lv_at hl 1 rfl) ?_
    refine lv_bipush (v := 32) hx hb dL_isFree_3 (by decide) ?_
    refine lv_icmp_ge (tgt := 86) hx hb dL_isFree_5 (by decide) (fun hc => ?_) (fun hc => ?_)
    · replace h := mi_pos hc h
      cases h
      exact kk rfl _ _ _ (lv_sub hl [] rfl) hH
    · replace h := mi_neg hc h
      refine lv_iconst (v := 0) hx hb dL_isFree_8 (by decide) ?_
      refine lv_istore_n (lv' := [(2, .int (0 : Int32)), (0, .int x0), (1, .int x1)]) hx hb dL_isFree_9 rfl hl (by decide) rfl (fun ls hl => ?_)
      refine lv_iconst (v := 0) hx hb dL_isFree_10 (by decide) ?_
      refine lv_istore_n (lv' := [(3, .int (0 : Int32)), (2, .int (0 : Int32)), (0, .int x0), (1, .int x1)]) hx hb dL_isFree_11 rfl hl (by decide) rfl (fun ls hl => ?_)
      obtain ⟨y12_2, h12, h⟩ := mi_b1 h
      refine wL_isFree_L12 C hst hA _ _ _ _ _ _ _ h12 (fun ls H locs hl hH => ?_) _ _ _ (lv_sub hl [2, 3, 1, 0] rfl) hH
      refine lv_iload_n hx hb dL_isFree_58 rfl (lv_at hl 1 rfl) ?_
      obtain ⟨r59, h59, h⟩ := mi_b1 h
      refine fm_ci (va_runS (As := [.int x1]) (rest := []) C (kL_ones l K h59 _) (va_cwS 1 hts gL_isFree_L_ones rfl rfl rfl (by decide +kernel) ⟨(Nat.le_of_ble_eq_true rfl), (Nat.le_of_ble_eq_true rfl)⟩) ⟨fm_blind, fm_pre hst hA hH⟩ rfl rfl hl.1 rfl (lv_room (Nat.le_of_ble_eq_true rfl)) dL_isFree_59 ⟨(Nat.le_of_ble_eq_true rfl), (Nat.le_of_ble_eq_true rfl)⟩) hA hH (fun H locs hH => ?_)
      refine lv_iconst (v := 1) hx hb dL_isFree_62 (by decide) ?_
      refine lv_icmp_le (tgt := 80) hx hb dL_isFree_63 (by decide) (fun hc => ?_) (fun hc => ?_)
      · replace h := mi_pos hc h
        refine lv_iinc (v := (x1 + 1)) (lv' := [(1, .int (x1 + 1)), (0, .int x0), (2, .int y12_2)]) hx hb dL_isFree_80 hl (k := 1) rfl rfl (by decide) rfl (fun ls hl => ?_)
        refine lv_goto (tgt := 2) hx hb dL_isFree_83 (by decide) ?_
        exact ih _ _ _ _ h kk kr _ _ _ (lv_sub hl [1, 0] rfl) hH
      · replace h := mi_neg hc h
        refine lv_iload_n hx hb dL_isFree_66 rfl (lv_at hl 2 rfl) ?_
        refine lv_iconst (v := 2) hx hb dL_isFree_67 (by decide) ?_
        refine lv_iload_n hx hb dL_isFree_68 rfl (lv_at hl 1 rfl) ?_
        obtain ⟨r69, h69, h⟩ := mi_b1 h
        refine fm_ci (va_runS (As := [.int x1]) (rest := [.int (2 : Int32), .int y12_2]) C (kL_ones l K h69 _) (va_cwS 1 hts gL_isFree_L_ones rfl rfl rfl (by decide +kernel) ⟨(Nat.le_of_ble_eq_true rfl), (Nat.le_of_ble_eq_true rfl)⟩) ⟨fm_blind, fm_pre hst hA hH⟩ rfl rfl hl.1 rfl (lv_room (Nat.le_of_ble_eq_true rfl)) dL_isFree_69 ⟨(Nat.le_of_ble_eq_true rfl), (Nat.le_of_ble_eq_true rfl)⟩) hA hH (fun H locs hH => ?_)
        refine lv_imul hx hb dL_isFree_72 ?_
        refine lv_iconst (v := 3) hx hb dL_isFree_73 (by decide) ?_
        refine lv_isub hx hb dL_isFree_74 ?_
        refine lv_icmp_le (tgt := 80) hx hb dL_isFree_75 (by decide) (fun hc => ?_) (fun hc => ?_)
        · replace h := mi_pos hc h
          refine lv_iinc (v := (x1 + 1)) (lv' := [(1, .int (x1 + 1)), (0, .int x0), (2, .int y12_2)]) hx hb dL_isFree_80 hl (k := 1) rfl rfl (by decide) rfl (fun ls hl => ?_)
          refine lv_goto (tgt := 2) hx hb dL_isFree_83 (by decide) ?_
          exact ih _ _ _ _ h kk kr _ _ _ (lv_sub hl [1, 0] rfl) hH
        · replace h := mi_neg hc h
          refine lv_iconst (v := 0) hx hb dL_isFree_78 (by decide) ?_
          cases h
          exact kr _ rfl _ _ _ _ dL_isFree_79 rfl hH
def mL_isFree (x0 : Int32) : Option Int32 :=
  ml1 (mL_isFree_L2 fG x0 (3 : Int32)) (fun _ =>
    some (1 : Int32)) (fun e => some e)
set_option maxHeartbeats 4000000 in
set_option maxRecDepth 100000 in
theorem kL_isFree (l : Launch) (K : fm_K) {x0 : Int32} {σ : fm_S} {r : Int32} (h : mL_isFree x0 = some r) : fm_CI l yL_isFree wsL_isFree rmL_isFree K [.int x0] σ r σ := by
  intro sz
  refine fm_start (Qc := fun sz => fm_QI K r σ sz) (cc := cL_isFree) (maxL := 4) (ret := (some .boolean)) (by decide) rfl (Nat.le_of_ble_eq_true rfl) ?_
  intro p e s m args below meth c C hr hlk hst hH ls hl
  have C : CallFix p m c cL_isFree 4 s args wsL_isFree RL := C
  obtain ⟨hx, hb, hml, hown, hts⟩ := id C
  have hA : ∀ q, fm_A K s.heap.size q → fm_A K s.heap.size q := fun _ h => h
  have hl : lv_has ls 4 [(0, .int x0)] := hl
  generalize hQ : MQ below _ args s _ _ _ = Q
  rw [mL_isFree] at h
  refine lv_iconst (v := 3) hx hb dL_isFree_0 (by decide) ?_
  refine lv_istore_n (lv' := [(1, .int (3 : Int32)), (0, .int x0)]) hx hb dL_isFree_1 rfl hl (by decide) rfl (fun ls hl => ?_)
  obtain ⟨x2_, h2, hok, her⟩ := mi_l1 h
  refine wL_isFree_L2 C hst hA _ _ _ _ _ h2 (fun hx1 ls H locs hl hH => ?_) (fun ve hx1 pcR ls H locs hdg hz hH => ?_) _ _ _ (lv_sub hl [1, 0] rfl) hH
  · replace h := hok _ hx1
    clear hok her
    refine lv_iconst (v := 1) hx hb dL_isFree_86 (by decide) ?_
    cases h
    subst hQ
    exact fm_zret hx hb hr rfl hlk hst hH dL_isFree_87
  · replace h := her _ hx1
    cases h
    subst hQ
    exact fm_zret hx hb hr hz hlk hst hH hdg
/-! RL.rank(I)I -/
abbrev rmL_rank : Room := { frames := 2, cells := 0, slots := 0, locals := 45 }
def mL_rank_L4 : Nat → Int32 → Int32 → Int32 → Option (Int32)
  | 0, _, _, _ => none
  | n + 1, x0, x1, x2 =>
    if x2 ≤ 0 then
      some x1
    else
      mb1 (mL_ones x2) fun r9 =>
      mb1 (show Option (Int32) from
        if r9 ≤ x1 then
          some x1
        else
          mb1 (mL_isFree x2) fun r17 =>
          if r17 = 0 then
            some x1
          else
            mb1 (mL_ones x2) fun r24 =>
            some r24) fun v1_0 =>
      mb1 (some ((x2 - (1 : Int32)) &&& x0)) fun u2_2 =>
      mL_rank_L4 n x0 v1_0 u2_2
set_option maxHeartbeats 4000000 in
set_option maxRecDepth 100000 in
theorem wL_rank_L4 {p : Program} {l : Launch} {e : Env} {s : State} {m : MethodId} {args : Array Value} {below : List Frame} {meth : Method} {c : Code} {Q : State → Prop} {K : fm_K} {A : Nat → Prop} (C : CallFix p m c cL_rank 3 s args wsL_rank RL) (hst : fm_st K A s s.heap) (hA : ∀ q, fm_A K s.heap.size q → A q) :
    ∀ (n : Nat) (x0 : Int32) (x1 : Int32) (x2 : Int32) (σ : fm_S) (o1 : Int32), mL_rank_L4 n x0 x1 x2 = some o1 → (∀ (ls : Array Slot) (H : Heap) (locs : List Loc), lv_has ls 3 [(1, .int o1)] → fm_H K σ A s H locs → W p l e rmL_rank s m args below meth c H locs 0 0 Q (F0 m 41 ls [])) → ∀ (ls : Array Slot) (H : Heap) (locs : List Loc), lv_has ls 3 [(0, .int x0), (1, .int x1), (2, .int x2)] → fm_H K σ A s H locs → W p l e rmL_rank s m args below meth c H locs 0 0 Q (F0 m 4 ls []) := by
  obtain ⟨hx, hb, hml, hown, hts⟩ := id C
  intro n
  induction n with
  | zero => intro x0 x1 x2 σ o1 h; simp [mL_rank_L4] at h
  | succ n ih =>
    intro x0 x1 x2 σ o1 h kk ls H locs hl hH
    rw [mL_rank_L4] at h
    refine lv_iload_n hx hb dL_rank_4 rfl (lv_at hl 2 rfl) ?_
    refine lv_if_le (tgt := 41) hx hb dL_rank_5 (by decide) (fun hc => ?_) (fun hc => ?_)
    · replace h := mi_pos hc h
      cases h
      exact kk _ _ _ (lv_sub hl [1] rfl) hH
    · replace h := mi_neg hc h
      refine lv_iload_n hx hb dL_rank_8 rfl (lv_at hl 2 rfl) ?_
      obtain ⟨r9, h9, h⟩ := mi_b1 h
      refine fm_ci (va_runS (As := [.int x2]) (rest := []) C (kL_ones l K h9 _) (va_cwS 1 hts gL_rank_L_ones rfl rfl rfl (by decide +kernel) ⟨(Nat.le_of_ble_eq_true rfl), (Nat.le_of_ble_eq_true rfl)⟩) ⟨fm_blind, fm_pre hst hA hH⟩ rfl rfl hl.1 rfl (lv_room (Nat.le_of_ble_eq_true rfl)) dL_rank_9 ⟨(Nat.le_of_ble_eq_true rfl), (Nat.le_of_ble_eq_true rfl)⟩) hA hH (fun H locs hH => ?_)
      refine lv_iload_n hx hb dL_rank_12 rfl (lv_at hl 1 rfl) ?_
      obtain ⟨v1_0, hd, h2⟩ := mi_b1 h
      have kj : ∀ (ls : Array Slot) (H : Heap) (locs : List Loc), lv_has ls 3 [(0, .int x0), (2, .int x2)] → fm_H K σ A s H locs → W p l e rmL_rank s m args below meth c H locs 0 0 Q (F0 m 31 ls [.int v1_0]) := by
        clear h hd
        intro ls H locs hl hH
        have h := h2
        clear h2
        refine lv_istore_n (lv' := [(1, .int v1_0), (0, .int x0), (2, .int x2)]) hx hb dL_rank_31 rfl hl (by decide) rfl (fun ls hl => ?_)
        refine lv_iload_n hx hb dL_rank_32 rfl (lv_at hl 2 rfl) ?_
        refine lv_iconst (v := 1) hx hb dL_rank_33 (by decide) ?_
        refine lv_isub hx hb dL_rank_34 ?_
        refine lv_iload_n hx hb dL_rank_35 rfl (lv_at hl 1 rfl) ?_
        refine lv_iand hx hb dL_rank_36 ?_
        obtain ⟨u2_2, hu, h⟩ := mi_b1 h
        rw [Option.some.inj hu]
        clear hu
        refine lv_istore_n (lv' := [(2, .int u2_2), (1, .int v1_0), (0, .int x0)]) hx hb dL_rank_37 rfl hl (by decide) rfl (fun ls hl => ?_)
        refine lv_goto (tgt := 4) hx hb dL_rank_38 (by decide) ?_
        exact ih _ _ _ _ _ h kk _ _ _ (lv_sub hl [2, 1, 0] rfl) hH
      replace h := hd
      clear h2 hd
      refine lv_icmp_le (tgt := 30) hx hb dL_rank_13 (by decide) (fun hc => ?_) (fun hc => ?_)
      · replace h := mi_pos hc h
        refine lv_iload_n hx hb dL_rank_30 rfl (lv_at hl 1 rfl) ?_
        cases h
        exact kj _ _ _ (lv_sub hl [0, 2] rfl) hH
      · replace h := mi_neg hc h
        refine lv_iload_n hx hb dL_rank_16 rfl (lv_at hl 2 rfl) ?_
        obtain ⟨r17, h17, h⟩ := mi_b1 h
        refine fm_ci (va_runS (As := [.int x2]) (rest := []) C (kL_isFree l K h17 _) (va_cwS 1 hts gL_rank_L_isFree rfl rfl rfl (by decide +kernel) ⟨(Nat.le_of_ble_eq_true rfl), (Nat.le_of_ble_eq_true rfl)⟩) ⟨fm_blind, fm_pre hst hA hH⟩ rfl rfl hl.1 rfl (lv_room (Nat.le_of_ble_eq_true rfl)) dL_rank_17 ⟨(Nat.le_of_ble_eq_true rfl), (Nat.le_of_ble_eq_true rfl)⟩) hA hH (fun H locs hH => ?_)
        refine lv_if_eq (tgt := 30) hx hb dL_rank_20 (by decide) (fun hc => ?_) (fun hc => ?_)
        · replace h := mi_pos hc h
          refine lv_iload_n hx hb dL_rank_30 rfl (lv_at hl 1 rfl) ?_
          cases h
          exact kj _ _ _ (lv_sub hl [0, 2] rfl) hH
        · replace h := mi_neg hc h
          refine lv_iload_n hx hb dL_rank_23 rfl (lv_at hl 2 rfl) ?_
          obtain ⟨r24, h24, h⟩ := mi_b1 h
          refine fm_ci (va_runS (As := [.int x2]) (rest := []) C (kL_ones l K h24 _) (va_cwS 1 hts gL_rank_L_ones rfl rfl rfl (by decide +kernel) ⟨(Nat.le_of_ble_eq_true rfl), (Nat.le_of_ble_eq_true rfl)⟩) ⟨fm_blind, fm_pre hst hA hH⟩ rfl rfl hl.1 rfl (lv_room (Nat.le_of_ble_eq_true rfl)) dL_rank_24 ⟨(Nat.le_of_ble_eq_true rfl), (Nat.le_of_ble_eq_true rfl)⟩) hA hH (fun H locs hH => ?_)
          refine lv_goto (tgt := 31) hx hb dL_rank_27 (by decide) ?_
          cases h
          exact kj _ _ _ (lv_sub hl [0, 2] rfl) hH
def mL_rank (x0 : Int32) : Option Int32 :=
  mb1 (mL_rank_L4 fG x0 (0 : Int32) x0) fun y4_1 =>
  some y4_1
set_option maxHeartbeats 4000000 in
set_option maxRecDepth 100000 in
theorem kL_rank (l : Launch) (K : fm_K) {x0 : Int32} {σ : fm_S} {r : Int32} (h : mL_rank x0 = some r) : fm_CI l yL_rank wsL_rank rmL_rank K [.int x0] σ r σ := by
  intro sz
  refine fm_start (Qc := fun sz => fm_QI K r σ sz) (cc := cL_rank) (maxL := 3) (ret := (some .int)) (by decide) rfl (Nat.le_of_ble_eq_true rfl) ?_
  intro p e s m args below meth c C hr hlk hst hH ls hl
  have C : CallFix p m c cL_rank 3 s args wsL_rank RL := C
  obtain ⟨hx, hb, hml, hown, hts⟩ := id C
  have hA : ∀ q, fm_A K s.heap.size q → fm_A K s.heap.size q := fun _ h => h
  have hl : lv_has ls 3 [(0, .int x0)] := hl
  generalize hQ : MQ below _ args s _ _ _ = Q
  rw [mL_rank] at h
  refine lv_iconst (v := 0) hx hb dL_rank_0 (by decide) ?_
  refine lv_istore_n (lv' := [(1, .int (0 : Int32)), (0, .int x0)]) hx hb dL_rank_1 rfl hl (by decide) rfl (fun ls hl => ?_)
  refine lv_iload_n hx hb dL_rank_2 rfl (lv_at hl 1 rfl) ?_
  refine lv_istore_n (lv' := [(2, .int x0), (1, .int (0 : Int32)), (0, .int x0)]) hx hb dL_rank_3 rfl hl (by decide) rfl (fun ls hl => ?_)
  obtain ⟨y4_1, h4, h⟩ := mi_b1 h
  refine wL_rank_L4 C hst hA _ _ _ _ _ _ h4 (fun ls H locs hl hH => ?_) _ _ _ (lv_sub hl [2, 1, 0] rfl) hH
  refine lv_iload_n hx hb dL_rank_41 rfl (lv_at hl 0 rfl) ?_
  cases h
  subst hQ
  exact fm_iret hx hb hr hlk hst hH dL_rank_42
/-! RL.trees(II)J -/
abbrev rmL_trees : Room := { frames := 1, cells := 0, slots := 0, locals := 25 }
def mL_trees_L5 : Nat → Int32 → Int32 → Option (Int32)
  | 0, _, _ => none
  | n + 1, x1, x4 =>
    if (5 : Int32) ≤ x4 then
      some x4
    else
      if ((x1 >>> (x4 &&& 31)) &&& (1 : Int32)) = 0 then
        mL_trees_L5 n x1 (x4 + 1)
      else
        some x4
set_option maxHeartbeats 4000000 in
set_option maxRecDepth 100000 in
theorem wL_trees_L5 {p : Program} {l : Launch} {e : Env} {s : State} {m : MethodId} {args : Array Value} {below : List Frame} {meth : Method} {c : Code} {Q : State → Prop} {K : fm_K} {A : Nat → Prop} (C : CallFix p m c cL_trees 6 s args wsL_trees RL) (hst : fm_st K A s s.heap) (hA : ∀ q, fm_A K s.heap.size q → A q) :
    ∀ (n : Nat) (x1 : Int32) (x4 : Int32) (σ : fm_S) (o4 : Int32), mL_trees_L5 n x1 x4 = some o4 → ∀ (x0 : Int32)  (x2 : Int64), (∀ (ls : Array Slot) (H : Heap) (locs : List Loc), lv_has ls 6 [(0, .int x0), (1, .int x1), (2, .long x2), (4, .int o4)] → fm_H K σ A s H locs → W p l e rmL_trees s m args below meth c H locs 0 0 Q (F0 m 26 ls [])) → ∀ (ls : Array Slot) (H : Heap) (locs : List Loc), lv_has ls 6 [(0, .int x0), (1, .int x1), (2, .long x2), (4, .int x4)] → fm_H K σ A s H locs → W p l e rmL_trees s m args below meth c H locs 0 0 Q (F0 m 5 ls []) := by
  obtain ⟨hx, hb, hml, hown, hts⟩ := id C
  intro n
  induction n with
  | zero => intro x1 x4 σ o4 h; simp [mL_trees_L5] at h
  | succ n ih =>
    intro x1 x4 σ o4 h x0 x2 kk ls H locs hl hH
    rw [mL_trees_L5] at h
    refine lv_iload hx hb dL_trees_5 (lv_at hl 3 rfl) ?_
    refine lv_iconst (v := 5) hx hb dL_trees_7 (by decide) ?_
    refine lv_icmp_ge (tgt := 26) hx hb dL_trees_8 (by decide) (fun hc => ?_) (fun hc => ?_)
    · replace h := mi_pos hc h
      cases h
      exact kk _ _ _ (lv_sub hl [0, 1, 2, 3] rfl) hH
    · replace h := mi_neg hc h
      refine lv_iload_n hx hb dL_trees_11 rfl (lv_at hl 1 rfl) ?_
      refine lv_iload hx hb dL_trees_12 (lv_at hl 3 rfl) ?_
      refine lv_ishr hx hb dL_trees_14 ?_
      refine lv_iconst (v := 1) hx hb dL_trees_15 (by decide) ?_
      refine lv_iand hx hb dL_trees_16 ?_
      refine lv_if_ne (tgt := 26) hx hb dL_trees_17 (by decide) (fun hc => ?_) (fun hc => ?_)
      · replace h := mi_neg hc h
        cases h
        exact kk _ _ _ (lv_sub hl [0, 1, 2, 3] rfl) hH
      · replace h := mi_pos hc h
        refine lv_iinc (v := (x4 + 1)) (lv' := [(4, .int (x4 + 1)), (0, .int x0), (1, .int x1), (2, .long x2)]) hx hb dL_trees_20 hl (k := 3) rfl rfl (by decide) rfl (fun ls hl => ?_)
        refine lv_goto (tgt := 5) hx hb dL_trees_23 (by decide) ?_
        exact ih _ _ _ _ h _ _ kk _ _ _ (lv_sub hl [1, 2, 3, 0] rfl) hH
def mL_trees_L29 : Nat → Int32 → Int32 → Int64 → Int32 → Int32 → Option (Int64)
  | 0, _, _, _, _, _ => none
  | n + 1, x0, x1, x2, x4, x5 =>
    if x5 ≤ 0 then
      some x2
    else
      mb1 (mL_ones x5) fun r37 =>
      mb1 (mL_ones x1) fun r41 =>
      mb1 (show Option (Int64) from
        if r37 = (r41 - (1 : Int32)) then
          mb1 (mL_group x5 x4) fun r53 =>
          if r53 = x1 then
            some ((1 : Int64))
          else
            some ((0 : Int64))
        else
          some ((0 : Int64))) fun v1_0 =>
      mb1 (some (x2 + v1_0)) fun u2_2 =>
      mb1 (some ((x5 - (1 : Int32)) &&& x0)) fun u5_3 =>
      mL_trees_L29 n x0 x1 u2_2 x4 u5_3
set_option maxHeartbeats 4000000 in
set_option maxRecDepth 100000 in
theorem wL_trees_L29 {p : Program} {l : Launch} {e : Env} {s : State} {m : MethodId} {args : Array Value} {below : List Frame} {meth : Method} {c : Code} {Q : State → Prop} {K : fm_K} {A : Nat → Prop} (C : CallFix p m c cL_trees 6 s args wsL_trees RL) (hst : fm_st K A s s.heap) (hA : ∀ q, fm_A K s.heap.size q → A q) :
    ∀ (n : Nat) (x0 : Int32) (x1 : Int32) (x2 : Int64) (x4 : Int32) (x5 : Int32) (σ : fm_S) (o2 : Int64), mL_trees_L29 n x0 x1 x2 x4 x5 = some o2 → (∀ (ls : Array Slot) (H : Heap) (locs : List Loc), lv_has ls 6 [(1, .int x1), (2, .long o2)] → fm_H K σ A s H locs → W p l e rmL_trees s m args below meth c H locs 0 0 Q (F0 m 78 ls [])) → ∀ (ls : Array Slot) (H : Heap) (locs : List Loc), lv_has ls 6 [(0, .int x0), (1, .int x1), (2, .long x2), (4, .int x4), (5, .int x5)] → fm_H K σ A s H locs → W p l e rmL_trees s m args below meth c H locs 0 0 Q (F0 m 29 ls []) := by
  obtain ⟨hx, hb, hml, hown, hts⟩ := id C
  intro n
  induction n with
  | zero => intro x0 x1 x2 x4 x5 σ o2 h; simp [mL_trees_L29] at h
  | succ n ih =>
    intro x0 x1 x2 x4 x5 σ o2 h kk ls H locs hl hH
    rw [mL_trees_L29] at h
    refine lv_iload hx hb dL_trees_29 (lv_at hl 4 rfl) ?_
    refine lv_if_le (tgt := 78) hx hb dL_trees_31 (by decide) (fun hc => ?_) (fun hc => ?_)
    · replace h := mi_pos hc h
      cases h
      exact kk _ _ _ (lv_sub hl [1, 2] rfl) hH
    · replace h := mi_neg hc h
      refine lv_lload_n hx hb dL_trees_34 rfl (lv_at hl 2 rfl) ?_
      refine lv_iload hx hb dL_trees_35 (lv_at hl 4 rfl) ?_
      obtain ⟨r37, h37, h⟩ := mi_b1 h
      refine fm_ci (va_runS (As := [.int x5]) (rest := [.long x2]) C (kL_ones l K h37 _) (va_cwS 1 hts gL_trees_L_ones rfl rfl rfl (by decide +kernel) ⟨(Nat.le_of_ble_eq_true rfl), (Nat.le_of_ble_eq_true rfl)⟩) ⟨fm_blind, fm_pre hst hA hH⟩ rfl rfl hl.1 rfl (lv_room (Nat.le_of_ble_eq_true rfl)) dL_trees_37 ⟨(Nat.le_of_ble_eq_true rfl), (Nat.le_of_ble_eq_true rfl)⟩) hA hH (fun H locs hH => ?_)
      refine lv_iload_n hx hb dL_trees_40 rfl (lv_at hl 1 rfl) ?_
      obtain ⟨r41, h41, h⟩ := mi_b1 h
      refine fm_ci (va_runS (As := [.int x1]) (rest := [.int r37, .long x2]) C (kL_ones l K h41 _) (va_cwS 1 hts gL_trees_L_ones rfl rfl rfl (by decide +kernel) ⟨(Nat.le_of_ble_eq_true rfl), (Nat.le_of_ble_eq_true rfl)⟩) ⟨fm_blind, fm_pre hst hA hH⟩ rfl rfl hl.1 rfl (lv_room (Nat.le_of_ble_eq_true rfl)) dL_trees_41 ⟨(Nat.le_of_ble_eq_true rfl), (Nat.le_of_ble_eq_true rfl)⟩) hA hH (fun H locs hH => ?_)
      refine lv_iconst (v := 1) hx hb dL_trees_44 (by decide) ?_
      refine lv_isub hx hb dL_trees_45 ?_
      obtain ⟨v1_0, hd, h2⟩ := mi_b1 h
      have kj : ∀ (ls : Array Slot) (H : Heap) (locs : List Loc), lv_has ls 6 [(0, .int x0), (1, .int x1), (4, .int x4), (5, .int x5)] → fm_H K σ A s H locs → W p l e rmL_trees s m args below meth c H locs 0 0 Q (F0 m 65 ls [.long v1_0, .long x2]) := by
        clear h hd
        intro ls H locs hl hH
        have h := h2
        clear h2
        refine lv_ladd hx hb dL_trees_65 ?_
        obtain ⟨u2_2, hu, h⟩ := mi_b1 h
        rw [Option.some.inj hu]
        clear hu
        refine lv_lstore_n (lv' := [(2, .long u2_2), (0, .int x0), (1, .int x1), (4, .int x4), (5, .int x5)]) hx hb dL_trees_66 rfl hl (by decide) rfl (fun ls hl => ?_)
        refine lv_iload hx hb dL_trees_67 (lv_at hl 4 rfl) ?_
        refine lv_iconst (v := 1) hx hb dL_trees_69 (by decide) ?_
        refine lv_isub hx hb dL_trees_70 ?_
        refine lv_iload_n hx hb dL_trees_71 rfl (lv_at hl 1 rfl) ?_
        refine lv_iand hx hb dL_trees_72 ?_
        obtain ⟨u5_3, hu, h⟩ := mi_b1 h
        rw [Option.some.inj hu]
        clear hu
        refine lv_istore (lv' := [(5, .int u5_3), (2, .long u2_2), (0, .int x0), (1, .int x1), (4, .int x4)]) hx hb dL_trees_73 hl (by decide) rfl (fun ls hl => ?_)
        refine lv_goto (tgt := 29) hx hb dL_trees_75 (by decide) ?_
        exact ih _ _ _ _ _ _ _ h kk _ _ _ (lv_sub hl [2, 3, 1, 4, 0] rfl) hH
      replace h := hd
      clear h2 hd
      refine lv_icmp_ne (tgt := 64) hx hb dL_trees_46 (by decide) (fun hc => ?_) (fun hc => ?_)
      · replace h := mi_neg hc h
        refine lv_lconst (v := 0) hx hb dL_trees_64 (by decide) ?_
        cases h
        exact kj _ _ _ (lv_sub hl [0, 1, 3, 4] rfl) hH
      · replace h := mi_pos hc h
        refine lv_iload hx hb dL_trees_49 (lv_at hl 4 rfl) ?_
        refine lv_iload hx hb dL_trees_51 (lv_at hl 3 rfl) ?_
        obtain ⟨r53, h53, h⟩ := mi_b1 h
        refine fm_ci (va_runS (As := [.int x5, .int x4]) (rest := [.long x2]) C (kL_group l K h53 _) (va_cwS 2 hts gL_trees_L_group rfl rfl rfl (by decide +kernel) ⟨(Nat.le_of_ble_eq_true rfl), (Nat.le_of_ble_eq_true rfl)⟩) ⟨fm_blind, fm_pre hst hA hH⟩ rfl rfl hl.1 rfl (lv_room (Nat.le_of_ble_eq_true rfl)) dL_trees_53 ⟨(Nat.le_of_ble_eq_true rfl), (Nat.le_of_ble_eq_true rfl)⟩) hA hH (fun H locs hH => ?_)
        refine lv_iload_n hx hb dL_trees_56 rfl (lv_at hl 1 rfl) ?_
        refine lv_icmp_ne (tgt := 64) hx hb dL_trees_57 (by decide) (fun hc => ?_) (fun hc => ?_)
        · replace h := mi_neg hc h
          refine lv_lconst (v := 0) hx hb dL_trees_64 (by decide) ?_
          cases h
          exact kj _ _ _ (lv_sub hl [0, 1, 3, 4] rfl) hH
        · replace h := mi_pos hc h
          refine lv_lconst (v := 1) hx hb dL_trees_60 (by decide) ?_
          refine lv_goto (tgt := 65) hx hb dL_trees_61 (by decide) ?_
          cases h
          exact kj _ _ _ (lv_sub hl [0, 1, 3, 4] rfl) hH
def mL_trees (x0 : Int32) (x1 : Int32) : Option Int64 :=
  mb1 (mL_trees_L5 fG x1 (0 : Int32)) fun y5_4 =>
  mb1 (mL_trees_L29 fG x0 x1 (0 : Int64) y5_4 x0) fun y29_2 =>
  mb1 (mL_ones x1) fun r79 =>
  if r79 = (1 : Int32) then
    some (1 : Int64)
  else
    some y29_2
set_option maxHeartbeats 4000000 in
set_option maxRecDepth 100000 in
theorem kL_trees (l : Launch) (K : fm_K) {x0 : Int32} {x1 : Int32} {σ : fm_S} {r : Int64} (h : mL_trees x0 x1 = some r) : fm_CL l yL_trees wsL_trees rmL_trees K [.int x0, .int x1] σ r σ := by
  intro sz
  refine fm_start (Qc := fun sz => fm_QL K r σ sz) (cc := cL_trees) (maxL := 6) (ret := (some .long)) (by decide) rfl (Nat.le_of_ble_eq_true rfl) ?_
  intro p e s m args below meth c C hr hlk hst hH ls hl
  have C : CallFix p m c cL_trees 6 s args wsL_trees RL := C
  obtain ⟨hx, hb, hml, hown, hts⟩ := id C
  have hA : ∀ q, fm_A K s.heap.size q → fm_A K s.heap.size q := fun _ h => h
  have hl : lv_has ls 6 [(0, .int x0), (1, .int x1)] := hl
  generalize hQ : MQ below _ args s _ _ _ = Q
  rw [mL_trees] at h
  refine lv_lconst (v := 0) hx hb dL_trees_0 (by decide) ?_
  refine lv_lstore_n (lv' := [(2, .long (0 : Int64)), (0, .int x0), (1, .int x1)]) hx hb dL_trees_1 rfl hl (by decide) rfl (fun ls hl => ?_)
  refine lv_iconst (v := 0) hx hb dL_trees_2 (by decide) ?_
  refine lv_istore (lv' := [(4, .int (0 : Int32)), (2, .long (0 : Int64)), (0, .int x0), (1, .int x1)]) hx hb dL_trees_3 hl (by decide) rfl (fun ls hl => ?_)
  obtain ⟨y5_4, h5, h⟩ := mi_b1 h
  refine wL_trees_L5 C hst hA _ _ _ _ _ h5 _ _ (fun ls H locs hl hH => ?_) _ _ _ (lv_sub hl [2, 3, 1, 0] rfl) hH
  refine lv_iload_n hx hb dL_trees_26 rfl (lv_at hl 0 rfl) ?_
  refine lv_istore (lv' := [(5, .int x0), (0, .int x0), (1, .int x1), (2, .long (0 : Int64)), (4, .int y5_4)]) hx hb dL_trees_27 hl (by decide) rfl (fun ls hl => ?_)
  obtain ⟨y29_2, h29, h⟩ := mi_b1 h
  refine wL_trees_L29 C hst hA _ _ _ _ _ _ _ _ h29 (fun ls H locs hl hH => ?_) _ _ _ (lv_sub hl [1, 2, 3, 4, 0] rfl) hH
  refine lv_iload_n hx hb dL_trees_78 rfl (lv_at hl 0 rfl) ?_
  obtain ⟨r79, h79, h⟩ := mi_b1 h
  refine fm_ci (va_runS (As := [.int x1]) (rest := []) C (kL_ones l K h79 _) (va_cwS 1 hts gL_trees_L_ones rfl rfl rfl (by decide +kernel) ⟨(Nat.le_of_ble_eq_true rfl), (Nat.le_of_ble_eq_true rfl)⟩) ⟨fm_blind, fm_pre hst hA hH⟩ rfl rfl hl.1 rfl (lv_room (Nat.le_of_ble_eq_true rfl)) dL_trees_79 ⟨(Nat.le_of_ble_eq_true rfl), (Nat.le_of_ble_eq_true rfl)⟩) hA hH (fun H locs hH => ?_)
  refine lv_iconst (v := 1) hx hb dL_trees_82 (by decide) ?_
  refine lv_icmp_ne (tgt := 90) hx hb dL_trees_83 (by decide) (fun hc => ?_) (fun hc => ?_)
  · replace h := mi_neg hc h
    refine lv_lload_n hx hb dL_trees_90 rfl (lv_at hl 1 rfl) ?_
    cases h
    subst hQ
    exact fm_lret hx hb hr hlk hst hH dL_trees_91
  · replace h := mi_pos hc h
    refine lv_lconst (v := 1) hx hb dL_trees_86 (by decide) ?_
    refine lv_goto (tgt := 91) hx hb dL_trees_87 (by decide) ?_
    cases h
    subst hQ
    exact fm_lret hx hb hr hlk hst hH dL_trees_91
