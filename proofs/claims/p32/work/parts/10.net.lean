/-! RJ7.fill([II)V -/
abbrev rmJ7_fill_53178 : Room := { frames := 0, cells := 0, slots := 0, locals := 0 }
def mJ7_fill_53178_L5 (q0 : Nat) : Nat → Int32 → Int32 → Int32 → fm_S → Option (fm_S)
  | 0, _, _, _, _ => none
  | n + 1, x1, x2, x3, σ =>
    if x3 ≤ x2 then
      some σ
    else
      if (x2 < 0 ∨ (fm_len q0) ≤ x2.toNatClampNeg) then none else
      mJ7_fill_53178_L5 q0 n x1 (x2 + 1) x3 (sI σ q0 x2 x1)
set_option maxHeartbeats 4000000 in
set_option maxRecDepth 100000 in
theorem wJ7_fill_53178_L5 {p : Program} {l : Launch} {e : Env} {s : State} {m : MethodId} {args : Array Value} {below : List Frame} {meth : Method} {c : Code} {Q : State → Prop} {K : fm_K} {A : Nat → Prop} {q0 : Nat} (hq0 : fm_in K q0) (ht0 : fm_ty q0 = 1) (C : CallFix p m c cJ7_fill_53178 4 s args wsJ7_fill_53178 RJ7) (hst : fm_st K A s s.heap) (hA : ∀ q, fm_A K s.heap.size q → A q) :
    ∀ (n : Nat) (x1 : Int32) (x2 : Int32) (x3 : Int32) (σ : fm_S) (σo : fm_S), mJ7_fill_53178_L5 q0 n x1 x2 x3 σ = some σo → (∀ (ls : Array Slot) (H : Heap) (locs : List Loc), lv_has ls 4 [] → fm_H K σo A s H locs → W p l e rmJ7_fill_53178 s m args below meth c H locs 0 0 Q (F0 m 20 ls [])) → ∀ (ls : Array Slot) (H : Heap) (locs : List Loc), lv_has ls 4 [(0, .ref (K.2.2.2 q0)), (1, .int x1), (2, .int x2), (3, .int x3)] → fm_H K σ A s H locs → W p l e rmJ7_fill_53178 s m args below meth c H locs 0 0 Q (F0 m 5 ls []) := by
  obtain ⟨hx, hb, hml, hown, hts⟩ := id C
  intro n
  induction n with
  | zero => intro x1 x2 x3 σ σo h; simp [mJ7_fill_53178_L5] at h
  | succ n ih =>
    intro x1 x2 x3 σ σo h kk ls H locs hl hH
    rw [mJ7_fill_53178_L5] at h
    refine lv_iload_n hx hb dJ7_fill_53178_5 rfl (lv_at hl 2 rfl) ?_
    refine lv_iload_n hx hb dJ7_fill_53178_6 rfl (lv_at hl 3 rfl) ?_
    refine lv_icmp_ge (tgt := 20) hx hb dJ7_fill_53178_7 (by decide) (fun hc => ?_) (fun hc => ?_)
    · replace h := mi_pos hc h
      cases h
      exact kk _ _ _ (lv_sub hl [] rfl) hH
    · replace h := mi_neg hc h
      refine lv_aload_n hx hb dJ7_fill_53178_10 rfl (lv_at hl 0 rfl) ?_
      refine lv_iload_n hx hb dJ7_fill_53178_11 rfl (lv_at hl 2 rfl) ?_
      refine lv_iload_n hx hb dJ7_fill_53178_12 rfl (lv_at hl 1 rfl) ?_
      obtain ⟨hi1, h⟩ := mi_chk h
      refine fm_ist hx hb hst.1 hH q0 hq0 ht0 rfl hi1 dJ7_fill_53178_13 (fun H locs hH => ?_)
      refine lv_iinc (v := (x2 + 1)) (lv' := [(2, .int (x2 + 1)), (0, .ref (K.2.2.2 q0)), (1, .int x1), (3, .int x3)]) hx hb dJ7_fill_53178_14 hl (k := 2) rfl rfl (by decide) rfl (fun ls hl => ?_)
      refine lv_goto (tgt := 5) hx hb dJ7_fill_53178_17 (by decide) ?_
      exact ih _ _ _ _ _ h kk _ _ _ (lv_sub hl [1, 2, 0, 3] rfl) hH
def mJ7_fill_53178 (q0 : Nat) (x1 : Int32) (σ : fm_S) : Option fm_S :=
  mb1 (mJ7_fill_53178_L5 q0 fF x1 (0 : Int32) (Int32.ofNat (fm_len q0)) σ) fun σ5 =>
  some σ5
set_option maxHeartbeats 4000000 in
set_option maxRecDepth 100000 in
theorem kJ7_fill_53178 (l : Launch) (K : fm_K) {q0 : Nat} (hq0 : fm_in K q0) (ht0 : fm_ty q0 = 1) {x1 : Int32} {σ : fm_S} {σ' : fm_S} (h : mJ7_fill_53178 q0 x1 σ = some σ') : fm_CV l yJ7_fill_53178 wsJ7_fill_53178 rmJ7_fill_53178 K [.ref (K.2.2.2 q0), .int x1] σ σ' := by
  intro sz
  refine fm_start (Qc := fun sz => fm_QV K σ' sz) (cc := cJ7_fill_53178) (maxL := 4) (ret := none) (by decide) rfl (Nat.le_of_ble_eq_true rfl) ?_
  intro p e s m args below meth c C hr hlk hst hH ls hl
  have C : CallFix p m c cJ7_fill_53178 4 s args wsJ7_fill_53178 RJ7 := C
  obtain ⟨hx, hb, hml, hown, hts⟩ := id C
  have hA : ∀ q, fm_A K s.heap.size q → fm_A K s.heap.size q := fun _ h => h
  have hl : lv_has ls 4 [(0, .ref (K.2.2.2 q0)), (1, .int x1)] := hl
  generalize hQ : MQ below _ args s _ _ _ = Q
  rw [mJ7_fill_53178] at h
  refine lv_iconst (v := 0) hx hb dJ7_fill_53178_0 (by decide) ?_
  refine lv_istore_n (lv' := [(2, .int (0 : Int32)), (0, .ref (K.2.2.2 q0)), (1, .int x1)]) hx hb dJ7_fill_53178_1 rfl hl (by decide) rfl (fun ls hl => ?_)
  refine lv_aload_n hx hb dJ7_fill_53178_2 rfl (lv_at hl 1 rfl) ?_
  refine fm_alen hx hb hst.1 hH q0 hq0 ht0 dJ7_fill_53178_3 ?_
  refine lv_istore_n (lv' := [(3, .int (Int32.ofNat (fm_len q0))), (2, .int (0 : Int32)), (0, .ref (K.2.2.2 q0)), (1, .int x1)]) hx hb dJ7_fill_53178_4 rfl hl (by decide) rfl (fun ls hl => ?_)
  obtain ⟨σ5, h5, h⟩ := mi_b1 h
  refine wJ7_fill_53178_L5 hq0 ht0 C hst hA _ _ _ _ _ _ h5 (fun ls H locs hl hH => ?_) _ _ _ (lv_sub hl [2, 3, 1, 0] rfl) hH
  cases h
  subst hQ
  exact fm_vret hx hb hr hlk hst hH dJ7_fill_53178_20
/-! RJ6.bitCount(I)I -/
abbrev rmJ6_bitCount_0f7a4 : Room := { frames := 0, cells := 0, slots := 0, locals := 0 }
def mJ6_bitCount_0f7a4 (x0 : Int32) : Option Int32 :=
  some ((((((((x0 - (((x0.toUInt32 >>> ((1 : Int32).toUInt32 &&& Int32.toUInt32 31)).toInt32) &&& (1431655765 : Int32))) &&& (858993459 : Int32)) + ((((x0 - (((x0.toUInt32 >>> ((1 : Int32).toUInt32 &&& Int32.toUInt32 31)).toInt32) &&& (1431655765 : Int32))).toUInt32 >>> ((2 : Int32).toUInt32 &&& Int32.toUInt32 31)).toInt32) &&& (858993459 : Int32))) + (((((x0 - (((x0.toUInt32 >>> ((1 : Int32).toUInt32 &&& Int32.toUInt32 31)).toInt32) &&& (1431655765 : Int32))) &&& (858993459 : Int32)) + ((((x0 - (((x0.toUInt32 >>> ((1 : Int32).toUInt32 &&& Int32.toUInt32 31)).toInt32) &&& (1431655765 : Int32))).toUInt32 >>> ((2 : Int32).toUInt32 &&& Int32.toUInt32 31)).toInt32) &&& (858993459 : Int32))).toUInt32 >>> ((4 : Int32).toUInt32 &&& Int32.toUInt32 31)).toInt32)) &&& (252645135 : Int32)) + (((((((x0 - (((x0.toUInt32 >>> ((1 : Int32).toUInt32 &&& Int32.toUInt32 31)).toInt32) &&& (1431655765 : Int32))) &&& (858993459 : Int32)) + ((((x0 - (((x0.toUInt32 >>> ((1 : Int32).toUInt32 &&& Int32.toUInt32 31)).toInt32) &&& (1431655765 : Int32))).toUInt32 >>> ((2 : Int32).toUInt32 &&& Int32.toUInt32 31)).toInt32) &&& (858993459 : Int32))) + (((((x0 - (((x0.toUInt32 >>> ((1 : Int32).toUInt32 &&& Int32.toUInt32 31)).toInt32) &&& (1431655765 : Int32))) &&& (858993459 : Int32)) + ((((x0 - (((x0.toUInt32 >>> ((1 : Int32).toUInt32 &&& Int32.toUInt32 31)).toInt32) &&& (1431655765 : Int32))).toUInt32 >>> ((2 : Int32).toUInt32 &&& Int32.toUInt32 31)).toInt32) &&& (858993459 : Int32))).toUInt32 >>> ((4 : Int32).toUInt32 &&& Int32.toUInt32 31)).toInt32)) &&& (252645135 : Int32)).toUInt32 >>> ((8 : Int32).toUInt32 &&& Int32.toUInt32 31)).toInt32)) + ((((((((x0 - (((x0.toUInt32 >>> ((1 : Int32).toUInt32 &&& Int32.toUInt32 31)).toInt32) &&& (1431655765 : Int32))) &&& (858993459 : Int32)) + ((((x0 - (((x0.toUInt32 >>> ((1 : Int32).toUInt32 &&& Int32.toUInt32 31)).toInt32) &&& (1431655765 : Int32))).toUInt32 >>> ((2 : Int32).toUInt32 &&& Int32.toUInt32 31)).toInt32) &&& (858993459 : Int32))) + (((((x0 - (((x0.toUInt32 >>> ((1 : Int32).toUInt32 &&& Int32.toUInt32 31)).toInt32) &&& (1431655765 : Int32))) &&& (858993459 : Int32)) + ((((x0 - (((x0.toUInt32 >>> ((1 : Int32).toUInt32 &&& Int32.toUInt32 31)).toInt32) &&& (1431655765 : Int32))).toUInt32 >>> ((2 : Int32).toUInt32 &&& Int32.toUInt32 31)).toInt32) &&& (858993459 : Int32))).toUInt32 >>> ((4 : Int32).toUInt32 &&& Int32.toUInt32 31)).toInt32)) &&& (252645135 : Int32)) + (((((((x0 - (((x0.toUInt32 >>> ((1 : Int32).toUInt32 &&& Int32.toUInt32 31)).toInt32) &&& (1431655765 : Int32))) &&& (858993459 : Int32)) + ((((x0 - (((x0.toUInt32 >>> ((1 : Int32).toUInt32 &&& Int32.toUInt32 31)).toInt32) &&& (1431655765 : Int32))).toUInt32 >>> ((2 : Int32).toUInt32 &&& Int32.toUInt32 31)).toInt32) &&& (858993459 : Int32))) + (((((x0 - (((x0.toUInt32 >>> ((1 : Int32).toUInt32 &&& Int32.toUInt32 31)).toInt32) &&& (1431655765 : Int32))) &&& (858993459 : Int32)) + ((((x0 - (((x0.toUInt32 >>> ((1 : Int32).toUInt32 &&& Int32.toUInt32 31)).toInt32) &&& (1431655765 : Int32))).toUInt32 >>> ((2 : Int32).toUInt32 &&& Int32.toUInt32 31)).toInt32) &&& (858993459 : Int32))).toUInt32 >>> ((4 : Int32).toUInt32 &&& Int32.toUInt32 31)).toInt32)) &&& (252645135 : Int32)).toUInt32 >>> ((8 : Int32).toUInt32 &&& Int32.toUInt32 31)).toInt32)).toUInt32 >>> ((16 : Int32).toUInt32 &&& Int32.toUInt32 31)).toInt32)) &&& (63 : Int32))
set_option maxHeartbeats 4000000 in
set_option maxRecDepth 100000 in
theorem kJ6_bitCount_0f7a4 (l : Launch) (K : fm_K) {x0 : Int32} {σ : fm_S} {r : Int32} (h : mJ6_bitCount_0f7a4 x0 = some r) : fm_CI l yJ6_bitCount_0f7a4 wsJ6_bitCount_0f7a4 rmJ6_bitCount_0f7a4 K [.int x0] σ r σ := by
  intro sz
  refine fm_start (Qc := fun sz => fm_QI K r σ sz) (cc := cJ6_bitCount_0f7a4) (maxL := 1) (ret := (some .int)) (by decide) rfl (Nat.le_of_ble_eq_true rfl) ?_
  intro p e s m args below meth c C hr hlk hst hH ls hl
  have C : CallFix p m c cJ6_bitCount_0f7a4 1 s args wsJ6_bitCount_0f7a4 RJ6 := C
  obtain ⟨hx, hb, hml, hown, hts⟩ := id C
  have hA : ∀ q, fm_A K s.heap.size q → fm_A K s.heap.size q := fun _ h => h
  have hl : lv_has ls 1 [(0, .int x0)] := hl
  generalize hQ : MQ below _ args s _ _ _ = Q
  rw [mJ6_bitCount_0f7a4] at h
  refine lv_iload_n hx hb dJ6_bitCount_0f7a4_0 rfl (lv_at hl 0 rfl) ?_
  refine lv_iload_n hx hb dJ6_bitCount_0f7a4_1 rfl (lv_at hl 0 rfl) ?_
  refine lv_iconst (v := 1) hx hb dJ6_bitCount_0f7a4_2 (by decide) ?_
  refine lv_iushr (v := (x0.toUInt32 >>> ((1 : Int32).toUInt32 &&& Int32.toUInt32 31)).toInt32) hx hb dJ6_bitCount_0f7a4_3 rfl ?_
  refine lv_ldcw (v := 1431655765) hx hb hown (hts (.constant RJ6 265 (1431655765)) (List.mem_of_getElem? (i := 1) rfl)) dJ6_bitCount_0f7a4_4 ?_
  refine lv_iand hx hb dJ6_bitCount_0f7a4_7 ?_
  refine lv_isub hx hb dJ6_bitCount_0f7a4_8 ?_
  refine lv_istore_n (lv' := [(0, .int (x0 - (((x0.toUInt32 >>> ((1 : Int32).toUInt32 &&& Int32.toUInt32 31)).toInt32) &&& (1431655765 : Int32))))]) hx hb dJ6_bitCount_0f7a4_9 rfl hl (by decide) rfl (fun ls hl => ?_)
  refine lv_iload_n hx hb dJ6_bitCount_0f7a4_10 rfl (lv_at hl 0 rfl) ?_
  refine lv_ldcw (v := 858993459) hx hb hown (hts (.constant RJ6 266 (858993459)) (List.mem_of_getElem? (i := 2) rfl)) dJ6_bitCount_0f7a4_11 ?_
  refine lv_iand hx hb dJ6_bitCount_0f7a4_14 ?_
  refine lv_iload_n hx hb dJ6_bitCount_0f7a4_15 rfl (lv_at hl 0 rfl) ?_
  refine lv_iconst (v := 2) hx hb dJ6_bitCount_0f7a4_16 (by decide) ?_
  refine lv_iushr (v := ((x0 - (((x0.toUInt32 >>> ((1 : Int32).toUInt32 &&& Int32.toUInt32 31)).toInt32) &&& (1431655765 : Int32))).toUInt32 >>> ((2 : Int32).toUInt32 &&& Int32.toUInt32 31)).toInt32) hx hb dJ6_bitCount_0f7a4_17 rfl ?_
  refine lv_ldcw (v := 858993459) hx hb hown (hts (.constant RJ6 266 (858993459)) (List.mem_of_getElem? (i := 2) rfl)) dJ6_bitCount_0f7a4_18 ?_
  refine lv_iand hx hb dJ6_bitCount_0f7a4_21 ?_
  refine lv_iadd hx hb dJ6_bitCount_0f7a4_22 ?_
  refine lv_istore_n (lv' := [(0, .int (((x0 - (((x0.toUInt32 >>> ((1 : Int32).toUInt32 &&& Int32.toUInt32 31)).toInt32) &&& (1431655765 : Int32))) &&& (858993459 : Int32)) + ((((x0 - (((x0.toUInt32 >>> ((1 : Int32).toUInt32 &&& Int32.toUInt32 31)).toInt32) &&& (1431655765 : Int32))).toUInt32 >>> ((2 : Int32).toUInt32 &&& Int32.toUInt32 31)).toInt32) &&& (858993459 : Int32))))]) hx hb dJ6_bitCount_0f7a4_23 rfl hl (by decide) rfl (fun ls hl => ?_)
  refine lv_iload_n hx hb dJ6_bitCount_0f7a4_24 rfl (lv_at hl 0 rfl) ?_
  refine lv_iload_n hx hb dJ6_bitCount_0f7a4_25 rfl (lv_at hl 0 rfl) ?_
  refine lv_iconst (v := 4) hx hb dJ6_bitCount_0f7a4_26 (by decide) ?_
  refine lv_iushr (v := ((((x0 - (((x0.toUInt32 >>> ((1 : Int32).toUInt32 &&& Int32.toUInt32 31)).toInt32) &&& (1431655765 : Int32))) &&& (858993459 : Int32)) + ((((x0 - (((x0.toUInt32 >>> ((1 : Int32).toUInt32 &&& Int32.toUInt32 31)).toInt32) &&& (1431655765 : Int32))).toUInt32 >>> ((2 : Int32).toUInt32 &&& Int32.toUInt32 31)).toInt32) &&& (858993459 : Int32))).toUInt32 >>> ((4 : Int32).toUInt32 &&& Int32.toUInt32 31)).toInt32) hx hb dJ6_bitCount_0f7a4_27 rfl ?_
  refine lv_iadd hx hb dJ6_bitCount_0f7a4_28 ?_
  refine lv_ldcw (v := 252645135) hx hb hown (hts (.constant RJ6 267 (252645135)) (List.mem_of_getElem? (i := 3) rfl)) dJ6_bitCount_0f7a4_29 ?_
  refine lv_iand hx hb dJ6_bitCount_0f7a4_32 ?_
  refine lv_istore_n (lv' := [(0, .int (((((x0 - (((x0.toUInt32 >>> ((1 : Int32).toUInt32 &&& Int32.toUInt32 31)).toInt32) &&& (1431655765 : Int32))) &&& (858993459 : Int32)) + ((((x0 - (((x0.toUInt32 >>> ((1 : Int32).toUInt32 &&& Int32.toUInt32 31)).toInt32) &&& (1431655765 : Int32))).toUInt32 >>> ((2 : Int32).toUInt32 &&& Int32.toUInt32 31)).toInt32) &&& (858993459 : Int32))) + (((((x0 - (((x0.toUInt32 >>> ((1 : Int32).toUInt32 &&& Int32.toUInt32 31)).toInt32) &&& (1431655765 : Int32))) &&& (858993459 : Int32)) + ((((x0 - (((x0.toUInt32 >>> ((1 : Int32).toUInt32 &&& Int32.toUInt32 31)).toInt32) &&& (1431655765 : Int32))).toUInt32 >>> ((2 : Int32).toUInt32 &&& Int32.toUInt32 31)).toInt32) &&& (858993459 : Int32))).toUInt32 >>> ((4 : Int32).toUInt32 &&& Int32.toUInt32 31)).toInt32)) &&& (252645135 : Int32)))]) hx hb dJ6_bitCount_0f7a4_33 rfl hl (by decide) rfl (fun ls hl => ?_)
  refine lv_iload_n hx hb dJ6_bitCount_0f7a4_34 rfl (lv_at hl 0 rfl) ?_
  refine lv_iload_n hx hb dJ6_bitCount_0f7a4_35 rfl (lv_at hl 0 rfl) ?_
  refine lv_bipush (v := 8) hx hb dJ6_bitCount_0f7a4_36 (by decide) ?_
  refine lv_iushr (v := ((((((x0 - (((x0.toUInt32 >>> ((1 : Int32).toUInt32 &&& Int32.toUInt32 31)).toInt32) &&& (1431655765 : Int32))) &&& (858993459 : Int32)) + ((((x0 - (((x0.toUInt32 >>> ((1 : Int32).toUInt32 &&& Int32.toUInt32 31)).toInt32) &&& (1431655765 : Int32))).toUInt32 >>> ((2 : Int32).toUInt32 &&& Int32.toUInt32 31)).toInt32) &&& (858993459 : Int32))) + (((((x0 - (((x0.toUInt32 >>> ((1 : Int32).toUInt32 &&& Int32.toUInt32 31)).toInt32) &&& (1431655765 : Int32))) &&& (858993459 : Int32)) + ((((x0 - (((x0.toUInt32 >>> ((1 : Int32).toUInt32 &&& Int32.toUInt32 31)).toInt32) &&& (1431655765 : Int32))).toUInt32 >>> ((2 : Int32).toUInt32 &&& Int32.toUInt32 31)).toInt32) &&& (858993459 : Int32))).toUInt32 >>> ((4 : Int32).toUInt32 &&& Int32.toUInt32 31)).toInt32)) &&& (252645135 : Int32)).toUInt32 >>> ((8 : Int32).toUInt32 &&& Int32.toUInt32 31)).toInt32) hx hb dJ6_bitCount_0f7a4_38 rfl ?_
  refine lv_iadd hx hb dJ6_bitCount_0f7a4_39 ?_
  refine lv_istore_n (lv' := [(0, .int ((((((x0 - (((x0.toUInt32 >>> ((1 : Int32).toUInt32 &&& Int32.toUInt32 31)).toInt32) &&& (1431655765 : Int32))) &&& (858993459 : Int32)) + ((((x0 - (((x0.toUInt32 >>> ((1 : Int32).toUInt32 &&& Int32.toUInt32 31)).toInt32) &&& (1431655765 : Int32))).toUInt32 >>> ((2 : Int32).toUInt32 &&& Int32.toUInt32 31)).toInt32) &&& (858993459 : Int32))) + (((((x0 - (((x0.toUInt32 >>> ((1 : Int32).toUInt32 &&& Int32.toUInt32 31)).toInt32) &&& (1431655765 : Int32))) &&& (858993459 : Int32)) + ((((x0 - (((x0.toUInt32 >>> ((1 : Int32).toUInt32 &&& Int32.toUInt32 31)).toInt32) &&& (1431655765 : Int32))).toUInt32 >>> ((2 : Int32).toUInt32 &&& Int32.toUInt32 31)).toInt32) &&& (858993459 : Int32))).toUInt32 >>> ((4 : Int32).toUInt32 &&& Int32.toUInt32 31)).toInt32)) &&& (252645135 : Int32)) + (((((((x0 - (((x0.toUInt32 >>> ((1 : Int32).toUInt32 &&& Int32.toUInt32 31)).toInt32) &&& (1431655765 : Int32))) &&& (858993459 : Int32)) + ((((x0 - (((x0.toUInt32 >>> ((1 : Int32).toUInt32 &&& Int32.toUInt32 31)).toInt32) &&& (1431655765 : Int32))).toUInt32 >>> ((2 : Int32).toUInt32 &&& Int32.toUInt32 31)).toInt32) &&& (858993459 : Int32))) + (((((x0 - (((x0.toUInt32 >>> ((1 : Int32).toUInt32 &&& Int32.toUInt32 31)).toInt32) &&& (1431655765 : Int32))) &&& (858993459 : Int32)) + ((((x0 - (((x0.toUInt32 >>> ((1 : Int32).toUInt32 &&& Int32.toUInt32 31)).toInt32) &&& (1431655765 : Int32))).toUInt32 >>> ((2 : Int32).toUInt32 &&& Int32.toUInt32 31)).toInt32) &&& (858993459 : Int32))).toUInt32 >>> ((4 : Int32).toUInt32 &&& Int32.toUInt32 31)).toInt32)) &&& (252645135 : Int32)).toUInt32 >>> ((8 : Int32).toUInt32 &&& Int32.toUInt32 31)).toInt32)))]) hx hb dJ6_bitCount_0f7a4_40 rfl hl (by decide) rfl (fun ls hl => ?_)
  refine lv_iload_n hx hb dJ6_bitCount_0f7a4_41 rfl (lv_at hl 0 rfl) ?_
  refine lv_iload_n hx hb dJ6_bitCount_0f7a4_42 rfl (lv_at hl 0 rfl) ?_
  refine lv_bipush (v := 16) hx hb dJ6_bitCount_0f7a4_43 (by decide) ?_
  refine lv_iushr (v := (((((((x0 - (((x0.toUInt32 >>> ((1 : Int32).toUInt32 &&& Int32.toUInt32 31)).toInt32) &&& (1431655765 : Int32))) &&& (858993459 : Int32)) + ((((x0 - (((x0.toUInt32 >>> ((1 : Int32).toUInt32 &&& Int32.toUInt32 31)).toInt32) &&& (1431655765 : Int32))).toUInt32 >>> ((2 : Int32).toUInt32 &&& Int32.toUInt32 31)).toInt32) &&& (858993459 : Int32))) + (((((x0 - (((x0.toUInt32 >>> ((1 : Int32).toUInt32 &&& Int32.toUInt32 31)).toInt32) &&& (1431655765 : Int32))) &&& (858993459 : Int32)) + ((((x0 - (((x0.toUInt32 >>> ((1 : Int32).toUInt32 &&& Int32.toUInt32 31)).toInt32) &&& (1431655765 : Int32))).toUInt32 >>> ((2 : Int32).toUInt32 &&& Int32.toUInt32 31)).toInt32) &&& (858993459 : Int32))).toUInt32 >>> ((4 : Int32).toUInt32 &&& Int32.toUInt32 31)).toInt32)) &&& (252645135 : Int32)) + (((((((x0 - (((x0.toUInt32 >>> ((1 : Int32).toUInt32 &&& Int32.toUInt32 31)).toInt32) &&& (1431655765 : Int32))) &&& (858993459 : Int32)) + ((((x0 - (((x0.toUInt32 >>> ((1 : Int32).toUInt32 &&& Int32.toUInt32 31)).toInt32) &&& (1431655765 : Int32))).toUInt32 >>> ((2 : Int32).toUInt32 &&& Int32.toUInt32 31)).toInt32) &&& (858993459 : Int32))) + (((((x0 - (((x0.toUInt32 >>> ((1 : Int32).toUInt32 &&& Int32.toUInt32 31)).toInt32) &&& (1431655765 : Int32))) &&& (858993459 : Int32)) + ((((x0 - (((x0.toUInt32 >>> ((1 : Int32).toUInt32 &&& Int32.toUInt32 31)).toInt32) &&& (1431655765 : Int32))).toUInt32 >>> ((2 : Int32).toUInt32 &&& Int32.toUInt32 31)).toInt32) &&& (858993459 : Int32))).toUInt32 >>> ((4 : Int32).toUInt32 &&& Int32.toUInt32 31)).toInt32)) &&& (252645135 : Int32)).toUInt32 >>> ((8 : Int32).toUInt32 &&& Int32.toUInt32 31)).toInt32)).toUInt32 >>> ((16 : Int32).toUInt32 &&& Int32.toUInt32 31)).toInt32) hx hb dJ6_bitCount_0f7a4_45 rfl ?_
  refine lv_iadd hx hb dJ6_bitCount_0f7a4_46 ?_
  refine lv_istore_n (lv' := [(0, .int (((((((x0 - (((x0.toUInt32 >>> ((1 : Int32).toUInt32 &&& Int32.toUInt32 31)).toInt32) &&& (1431655765 : Int32))) &&& (858993459 : Int32)) + ((((x0 - (((x0.toUInt32 >>> ((1 : Int32).toUInt32 &&& Int32.toUInt32 31)).toInt32) &&& (1431655765 : Int32))).toUInt32 >>> ((2 : Int32).toUInt32 &&& Int32.toUInt32 31)).toInt32) &&& (858993459 : Int32))) + (((((x0 - (((x0.toUInt32 >>> ((1 : Int32).toUInt32 &&& Int32.toUInt32 31)).toInt32) &&& (1431655765 : Int32))) &&& (858993459 : Int32)) + ((((x0 - (((x0.toUInt32 >>> ((1 : Int32).toUInt32 &&& Int32.toUInt32 31)).toInt32) &&& (1431655765 : Int32))).toUInt32 >>> ((2 : Int32).toUInt32 &&& Int32.toUInt32 31)).toInt32) &&& (858993459 : Int32))).toUInt32 >>> ((4 : Int32).toUInt32 &&& Int32.toUInt32 31)).toInt32)) &&& (252645135 : Int32)) + (((((((x0 - (((x0.toUInt32 >>> ((1 : Int32).toUInt32 &&& Int32.toUInt32 31)).toInt32) &&& (1431655765 : Int32))) &&& (858993459 : Int32)) + ((((x0 - (((x0.toUInt32 >>> ((1 : Int32).toUInt32 &&& Int32.toUInt32 31)).toInt32) &&& (1431655765 : Int32))).toUInt32 >>> ((2 : Int32).toUInt32 &&& Int32.toUInt32 31)).toInt32) &&& (858993459 : Int32))) + (((((x0 - (((x0.toUInt32 >>> ((1 : Int32).toUInt32 &&& Int32.toUInt32 31)).toInt32) &&& (1431655765 : Int32))) &&& (858993459 : Int32)) + ((((x0 - (((x0.toUInt32 >>> ((1 : Int32).toUInt32 &&& Int32.toUInt32 31)).toInt32) &&& (1431655765 : Int32))).toUInt32 >>> ((2 : Int32).toUInt32 &&& Int32.toUInt32 31)).toInt32) &&& (858993459 : Int32))).toUInt32 >>> ((4 : Int32).toUInt32 &&& Int32.toUInt32 31)).toInt32)) &&& (252645135 : Int32)).toUInt32 >>> ((8 : Int32).toUInt32 &&& Int32.toUInt32 31)).toInt32)) + ((((((((x0 - (((x0.toUInt32 >>> ((1 : Int32).toUInt32 &&& Int32.toUInt32 31)).toInt32) &&& (1431655765 : Int32))) &&& (858993459 : Int32)) + ((((x0 - (((x0.toUInt32 >>> ((1 : Int32).toUInt32 &&& Int32.toUInt32 31)).toInt32) &&& (1431655765 : Int32))).toUInt32 >>> ((2 : Int32).toUInt32 &&& Int32.toUInt32 31)).toInt32) &&& (858993459 : Int32))) + (((((x0 - (((x0.toUInt32 >>> ((1 : Int32).toUInt32 &&& Int32.toUInt32 31)).toInt32) &&& (1431655765 : Int32))) &&& (858993459 : Int32)) + ((((x0 - (((x0.toUInt32 >>> ((1 : Int32).toUInt32 &&& Int32.toUInt32 31)).toInt32) &&& (1431655765 : Int32))).toUInt32 >>> ((2 : Int32).toUInt32 &&& Int32.toUInt32 31)).toInt32) &&& (858993459 : Int32))).toUInt32 >>> ((4 : Int32).toUInt32 &&& Int32.toUInt32 31)).toInt32)) &&& (252645135 : Int32)) + (((((((x0 - (((x0.toUInt32 >>> ((1 : Int32).toUInt32 &&& Int32.toUInt32 31)).toInt32) &&& (1431655765 : Int32))) &&& (858993459 : Int32)) + ((((x0 - (((x0.toUInt32 >>> ((1 : Int32).toUInt32 &&& Int32.toUInt32 31)).toInt32) &&& (1431655765 : Int32))).toUInt32 >>> ((2 : Int32).toUInt32 &&& Int32.toUInt32 31)).toInt32) &&& (858993459 : Int32))) + (((((x0 - (((x0.toUInt32 >>> ((1 : Int32).toUInt32 &&& Int32.toUInt32 31)).toInt32) &&& (1431655765 : Int32))) &&& (858993459 : Int32)) + ((((x0 - (((x0.toUInt32 >>> ((1 : Int32).toUInt32 &&& Int32.toUInt32 31)).toInt32) &&& (1431655765 : Int32))).toUInt32 >>> ((2 : Int32).toUInt32 &&& Int32.toUInt32 31)).toInt32) &&& (858993459 : Int32))).toUInt32 >>> ((4 : Int32).toUInt32 &&& Int32.toUInt32 31)).toInt32)) &&& (252645135 : Int32)).toUInt32 >>> ((8 : Int32).toUInt32 &&& Int32.toUInt32 31)).toInt32)).toUInt32 >>> ((16 : Int32).toUInt32 &&& Int32.toUInt32 31)).toInt32)))]) hx hb dJ6_bitCount_0f7a4_47 rfl hl (by decide) rfl (fun ls hl => ?_)
  refine lv_iload_n hx hb dJ6_bitCount_0f7a4_48 rfl (lv_at hl 0 rfl) ?_
  refine lv_bipush (v := 63) hx hb dJ6_bitCount_0f7a4_49 (by decide) ?_
  refine lv_iand hx hb dJ6_bitCount_0f7a4_51 ?_
  cases h
  subst hQ
  exact fm_iret hx hb hr hlk hst hH dJ6_bitCount_0f7a4_52
/-! RJ6.numberOfTrailingZeros(I)I -/
abbrev rmJ6_numberOfTrailingZeros_0f7a4 : Room := { frames := 0, cells := 0, slots := 0, locals := 0 }
def mJ6_numberOfTrailingZeros_0f7a4 (x0 : Int32) : Option Int32 :=
  if 0 < ((x0 ^^^ (-1 : Int32)) &&& (x0 - (1 : Int32))) then
    mb2 (show Option (Int32 × Int32) from
      if ((x0 ^^^ (-1 : Int32)) &&& (x0 - (1 : Int32))) ≤ (65536 : Int32) then
        some (((x0 ^^^ (-1 : Int32)) &&& (x0 - (1 : Int32))), (1 : Int32))
      else
        some (((((x0 ^^^ (-1 : Int32)) &&& (x0 - (1 : Int32))).toUInt32 >>> ((16 : Int32).toUInt32 &&& Int32.toUInt32 31)).toInt32), ((1 : Int32) + 16))) fun w1_0 w1_1 =>
    mb2 (show Option (Int32 × Int32) from
      if w1_0 ≤ (256 : Int32) then
        some (w1_0, w1_1)
      else
        some (((w1_0.toUInt32 >>> ((8 : Int32).toUInt32 &&& Int32.toUInt32 31)).toInt32), (w1_1 + 8))) fun w2_0 w2_1 =>
    mb2 (show Option (Int32 × Int32) from
      if w2_0 ≤ (16 : Int32) then
        some (w2_0, w2_1)
      else
        some (((w2_0.toUInt32 >>> ((4 : Int32).toUInt32 &&& Int32.toUInt32 31)).toInt32), (w2_1 + 4))) fun w3_0 w3_1 =>
    mb2 (show Option (Int32 × Int32) from
      if w3_0 ≤ (4 : Int32) then
        some (w3_0, w3_1)
      else
        some (((w3_0.toUInt32 >>> ((2 : Int32).toUInt32 &&& Int32.toUInt32 31)).toInt32), (w3_1 + 2))) fun w4_0 w4_1 =>
    some (w4_1 + ((w4_0.toUInt32 >>> ((1 : Int32).toUInt32 &&& Int32.toUInt32 31)).toInt32))
  else
    some (((x0 ^^^ (-1 : Int32)) &&& (x0 - (1 : Int32))) &&& (32 : Int32))
set_option maxHeartbeats 4000000 in
set_option maxRecDepth 100000 in
theorem kJ6_numberOfTrailingZeros_0f7a4 (l : Launch) (K : fm_K) {x0 : Int32} {σ : fm_S} {r : Int32} (h : mJ6_numberOfTrailingZeros_0f7a4 x0 = some r) : fm_CI l yJ6_numberOfTrailingZeros_0f7a4 wsJ6_numberOfTrailingZeros_0f7a4 rmJ6_numberOfTrailingZeros_0f7a4 K [.int x0] σ r σ := by
  intro sz
  refine fm_start (Qc := fun sz => fm_QI K r σ sz) (cc := cJ6_numberOfTrailingZeros_0f7a4) (maxL := 2) (ret := (some .int)) (by decide) rfl (Nat.le_of_ble_eq_true rfl) ?_
  intro p e s m args below meth c C hr hlk hst hH ls hl
  have C : CallFix p m c cJ6_numberOfTrailingZeros_0f7a4 2 s args wsJ6_numberOfTrailingZeros_0f7a4 RJ6 := C
  obtain ⟨hx, hb, hml, hown, hts⟩ := id C
  have hA : ∀ q, fm_A K s.heap.size q → fm_A K s.heap.size q := fun _ h => h
  have hl : lv_has ls 2 [(0, .int x0)] := hl
  generalize hQ : MQ below _ args s _ _ _ = Q
  rw [mJ6_numberOfTrailingZeros_0f7a4] at h
  refine lv_iload_n hx hb dJ6_numberOfTrailingZeros_0f7a4_0 rfl (lv_at hl 0 rfl) ?_
  refine lv_iconst (v := -1) hx hb dJ6_numberOfTrailingZeros_0f7a4_1 (by decide) ?_
  refine lv_ixor hx hb dJ6_numberOfTrailingZeros_0f7a4_2 ?_
  refine lv_iload_n hx hb dJ6_numberOfTrailingZeros_0f7a4_3 rfl (lv_at hl 0 rfl) ?_
  refine lv_iconst (v := 1) hx hb dJ6_numberOfTrailingZeros_0f7a4_4 (by decide) ?_
  refine lv_isub hx hb dJ6_numberOfTrailingZeros_0f7a4_5 ?_
  refine lv_iand hx hb dJ6_numberOfTrailingZeros_0f7a4_6 ?_
  refine lv_istore_n (lv' := [(0, .int ((x0 ^^^ (-1 : Int32)) &&& (x0 - (1 : Int32))))]) hx hb dJ6_numberOfTrailingZeros_0f7a4_7 rfl hl (by decide) rfl (fun ls hl => ?_)
  refine lv_iload_n hx hb dJ6_numberOfTrailingZeros_0f7a4_8 rfl (lv_at hl 0 rfl) ?_
  refine lv_if_gt (tgt := 17) hx hb dJ6_numberOfTrailingZeros_0f7a4_9 (by decide) (fun hc => ?_) (fun hc => ?_)
  · replace h := mi_pos hc h
    refine lv_iconst (v := 1) hx hb dJ6_numberOfTrailingZeros_0f7a4_17 (by decide) ?_
    refine lv_istore_n (lv' := [(1, .int (1 : Int32)), (0, .int ((x0 ^^^ (-1 : Int32)) &&& (x0 - (1 : Int32))))]) hx hb dJ6_numberOfTrailingZeros_0f7a4_18 rfl hl (by decide) rfl (fun ls hl => ?_)
    refine lv_iload_n hx hb dJ6_numberOfTrailingZeros_0f7a4_19 rfl (lv_at hl 1 rfl) ?_
    refine lv_ldcw (v := 65536) hx hb hown (hts (.constant RJ6 264 (65536)) (List.mem_of_getElem? (i := 1) rfl)) dJ6_numberOfTrailingZeros_0f7a4_20 ?_
    obtain ⟨w1_0, w1_1, hd, h2⟩ := mi_b2 h
    have kj : ∀ (ls : Array Slot) (H : Heap) (locs : List Loc), lv_has ls 2 [(0, .int w1_0), (1, .int w1_1)] → fm_H K σ (fm_A K s.heap.size) s H locs → W p l e rmJ6_numberOfTrailingZeros_0f7a4 s m args below meth c H locs 0 0 Q (F0 m 34 ls []) := by
      clear h hd
      intro ls H locs hl hH
      have h := h2
      clear h2
      refine lv_iload_n hx hb dJ6_numberOfTrailingZeros_0f7a4_34 rfl (lv_at hl 0 rfl) ?_
      refine lv_sipush (v := 256) hx hb dJ6_numberOfTrailingZeros_0f7a4_35 (by decide) ?_
      obtain ⟨w2_0, w2_1, hd, h2⟩ := mi_b2 h
      have kj : ∀ (ls : Array Slot) (H : Heap) (locs : List Loc), lv_has ls 2 [(0, .int w2_0), (1, .int w2_1)] → fm_H K σ (fm_A K s.heap.size) s H locs → W p l e rmJ6_numberOfTrailingZeros_0f7a4 s m args below meth c H locs 0 0 Q (F0 m 49 ls []) := by
        clear h hd
        intro ls H locs hl hH
        have h := h2
        clear h2
        refine lv_iload_n hx hb dJ6_numberOfTrailingZeros_0f7a4_49 rfl (lv_at hl 0 rfl) ?_
        refine lv_bipush (v := 16) hx hb dJ6_numberOfTrailingZeros_0f7a4_50 (by decide) ?_
        obtain ⟨w3_0, w3_1, hd, h2⟩ := mi_b2 h
        have kj : ∀ (ls : Array Slot) (H : Heap) (locs : List Loc), lv_has ls 2 [(0, .int w3_0), (1, .int w3_1)] → fm_H K σ (fm_A K s.heap.size) s H locs → W p l e rmJ6_numberOfTrailingZeros_0f7a4 s m args below meth c H locs 0 0 Q (F0 m 62 ls []) := by
          clear h hd
          intro ls H locs hl hH
          have h := h2
          clear h2
          refine lv_iload_n hx hb dJ6_numberOfTrailingZeros_0f7a4_62 rfl (lv_at hl 0 rfl) ?_
          refine lv_iconst (v := 4) hx hb dJ6_numberOfTrailingZeros_0f7a4_63 (by decide) ?_
          obtain ⟨w4_0, w4_1, hd, h2⟩ := mi_b2 h
          have kj : ∀ (ls : Array Slot) (H : Heap) (locs : List Loc), lv_has ls 2 [(0, .int w4_0), (1, .int w4_1)] → fm_H K σ (fm_A K s.heap.size) s H locs → W p l e rmJ6_numberOfTrailingZeros_0f7a4 s m args below meth c H locs 0 0 Q (F0 m 74 ls []) := by
            clear h hd
            intro ls H locs hl hH
            have h := h2
            clear h2
            refine lv_iload_n hx hb dJ6_numberOfTrailingZeros_0f7a4_74 rfl (lv_at hl 1 rfl) ?_
            refine lv_iload_n hx hb dJ6_numberOfTrailingZeros_0f7a4_75 rfl (lv_at hl 0 rfl) ?_
            refine lv_iconst (v := 1) hx hb dJ6_numberOfTrailingZeros_0f7a4_76 (by decide) ?_
            refine lv_iushr (v := (w4_0.toUInt32 >>> ((1 : Int32).toUInt32 &&& Int32.toUInt32 31)).toInt32) hx hb dJ6_numberOfTrailingZeros_0f7a4_77 rfl ?_
            refine lv_iadd hx hb dJ6_numberOfTrailingZeros_0f7a4_78 ?_
            cases h
            subst hQ
            exact fm_iret hx hb hr hlk hst hH dJ6_numberOfTrailingZeros_0f7a4_79
          replace h := hd
          clear h2 hd
          refine lv_icmp_le (tgt := 74) hx hb dJ6_numberOfTrailingZeros_0f7a4_64 (by decide) (fun hc => ?_) (fun hc => ?_)
          · replace h := mi_pos hc h
            cases h
            exact kj _ _ _ (lv_sub hl [0, 1] rfl) hH
          · replace h := mi_neg hc h
            refine lv_iinc (v := (w3_1 + 2)) (lv' := [(1, .int (w3_1 + 2)), (0, .int w3_0)]) hx hb dJ6_numberOfTrailingZeros_0f7a4_67 hl (k := 1) rfl rfl (by decide) rfl (fun ls hl => ?_)
            refine lv_iload_n hx hb dJ6_numberOfTrailingZeros_0f7a4_70 rfl (lv_at hl 1 rfl) ?_
            refine lv_iconst (v := 2) hx hb dJ6_numberOfTrailingZeros_0f7a4_71 (by decide) ?_
            refine lv_iushr (v := (w3_0.toUInt32 >>> ((2 : Int32).toUInt32 &&& Int32.toUInt32 31)).toInt32) hx hb dJ6_numberOfTrailingZeros_0f7a4_72 rfl ?_
            refine lv_istore_n (lv' := [(0, .int ((w3_0.toUInt32 >>> ((2 : Int32).toUInt32 &&& Int32.toUInt32 31)).toInt32)), (1, .int (w3_1 + 2))]) hx hb dJ6_numberOfTrailingZeros_0f7a4_73 rfl hl (by decide) rfl (fun ls hl => ?_)
            cases h
            exact kj _ _ _ (lv_sub hl [0, 1] rfl) hH
        replace h := hd
        clear h2 hd
        refine lv_icmp_le (tgt := 62) hx hb dJ6_numberOfTrailingZeros_0f7a4_52 (by decide) (fun hc => ?_) (fun hc => ?_)
        · replace h := mi_pos hc h
          cases h
          exact kj _ _ _ (lv_sub hl [0, 1] rfl) hH
        · replace h := mi_neg hc h
          refine lv_iinc (v := (w2_1 + 4)) (lv' := [(1, .int (w2_1 + 4)), (0, .int w2_0)]) hx hb dJ6_numberOfTrailingZeros_0f7a4_55 hl (k := 1) rfl rfl (by decide) rfl (fun ls hl => ?_)
          refine lv_iload_n hx hb dJ6_numberOfTrailingZeros_0f7a4_58 rfl (lv_at hl 1 rfl) ?_
          refine lv_iconst (v := 4) hx hb dJ6_numberOfTrailingZeros_0f7a4_59 (by decide) ?_
          refine lv_iushr (v := (w2_0.toUInt32 >>> ((4 : Int32).toUInt32 &&& Int32.toUInt32 31)).toInt32) hx hb dJ6_numberOfTrailingZeros_0f7a4_60 rfl ?_
          refine lv_istore_n (lv' := [(0, .int ((w2_0.toUInt32 >>> ((4 : Int32).toUInt32 &&& Int32.toUInt32 31)).toInt32)), (1, .int (w2_1 + 4))]) hx hb dJ6_numberOfTrailingZeros_0f7a4_61 rfl hl (by decide) rfl (fun ls hl => ?_)
          cases h
          exact kj _ _ _ (lv_sub hl [0, 1] rfl) hH
      replace h := hd
      clear h2 hd
      refine lv_icmp_le (tgt := 49) hx hb dJ6_numberOfTrailingZeros_0f7a4_38 (by decide) (fun hc => ?_) (fun hc => ?_)
      · replace h := mi_pos hc h
        cases h
        exact kj _ _ _ (lv_sub hl [0, 1] rfl) hH
      · replace h := mi_neg hc h
        refine lv_iinc (v := (w1_1 + 8)) (lv' := [(1, .int (w1_1 + 8)), (0, .int w1_0)]) hx hb dJ6_numberOfTrailingZeros_0f7a4_41 hl (k := 1) rfl rfl (by decide) rfl (fun ls hl => ?_)
        refine lv_iload_n hx hb dJ6_numberOfTrailingZeros_0f7a4_44 rfl (lv_at hl 1 rfl) ?_
        refine lv_bipush (v := 8) hx hb dJ6_numberOfTrailingZeros_0f7a4_45 (by decide) ?_
        refine lv_iushr (v := (w1_0.toUInt32 >>> ((8 : Int32).toUInt32 &&& Int32.toUInt32 31)).toInt32) hx hb dJ6_numberOfTrailingZeros_0f7a4_47 rfl ?_
        refine lv_istore_n (lv' := [(0, .int ((w1_0.toUInt32 >>> ((8 : Int32).toUInt32 &&& Int32.toUInt32 31)).toInt32)), (1, .int (w1_1 + 8))]) hx hb dJ6_numberOfTrailingZeros_0f7a4_48 rfl hl (by decide) rfl (fun ls hl => ?_)
        cases h
        exact kj _ _ _ (lv_sub hl [0, 1] rfl) hH
    replace h := hd
    clear h2 hd
    refine lv_icmp_le (tgt := 34) hx hb dJ6_numberOfTrailingZeros_0f7a4_23 (by decide) (fun hc => ?_) (fun hc => ?_)
    · replace h := mi_pos hc h
      cases h
      exact kj _ _ _ (lv_sub hl [1, 0] rfl) hH
    · replace h := mi_neg hc h
      refine lv_iinc (v := ((1 : Int32) + 16)) (lv' := [(1, .int ((1 : Int32) + 16)), (0, .int ((x0 ^^^ (-1 : Int32)) &&& (x0 - (1 : Int32))))]) hx hb dJ6_numberOfTrailingZeros_0f7a4_26 hl (k := 0) rfl rfl (by decide) rfl (fun ls hl => ?_)
      refine lv_iload_n hx hb dJ6_numberOfTrailingZeros_0f7a4_29 rfl (lv_at hl 1 rfl) ?_
      refine lv_bipush (v := 16) hx hb dJ6_numberOfTrailingZeros_0f7a4_30 (by decide) ?_
      refine lv_iushr (v := (((x0 ^^^ (-1 : Int32)) &&& (x0 - (1 : Int32))).toUInt32 >>> ((16 : Int32).toUInt32 &&& Int32.toUInt32 31)).toInt32) hx hb dJ6_numberOfTrailingZeros_0f7a4_32 rfl ?_
      refine lv_istore_n (lv' := [(0, .int ((((x0 ^^^ (-1 : Int32)) &&& (x0 - (1 : Int32))).toUInt32 >>> ((16 : Int32).toUInt32 &&& Int32.toUInt32 31)).toInt32)), (1, .int ((1 : Int32) + 16))]) hx hb dJ6_numberOfTrailingZeros_0f7a4_33 rfl hl (by decide) rfl (fun ls hl => ?_)
      cases h
      exact kj _ _ _ (lv_sub hl [0, 1] rfl) hH
  · replace h := mi_neg hc h
    refine lv_iload_n hx hb dJ6_numberOfTrailingZeros_0f7a4_12 rfl (lv_at hl 0 rfl) ?_
    refine lv_bipush (v := 32) hx hb dJ6_numberOfTrailingZeros_0f7a4_13 (by decide) ?_
    refine lv_iand hx hb dJ6_numberOfTrailingZeros_0f7a4_15 ?_
    cases h
    subst hQ
    exact fm_iret hx hb hr hlk hst hH dJ6_numberOfTrailingZeros_0f7a4_16
/-! RX1.holds(II)Z -/
abbrev rmX1_holds : Room := { frames := 0, cells := 0, slots := 0, locals := 0 }
def mX1_holds (x0 : Int32) (x1 : Int32) : Option Int32 :=
  if (x0 &&& ((1 : Int32) <<< (x1 &&& 31))) = 0 then
    some (0 : Int32)
  else
    some (1 : Int32)
set_option maxHeartbeats 4000000 in
set_option maxRecDepth 100000 in
theorem kX1_holds (l : Launch) (K : fm_K) {x0 : Int32} {x1 : Int32} {σ : fm_S} {r : Int32} (h : mX1_holds x0 x1 = some r) : fm_CI l yX1_holds wsX1_holds rmX1_holds K [.int x0, .int x1] σ r σ := by
  intro sz
  refine fm_start (Qc := fun sz => fm_QI K r σ sz) (cc := cX1_holds) (maxL := 2) (ret := (some .boolean)) (by decide) rfl (Nat.le_of_ble_eq_true rfl) ?_
  intro p e s m args below meth c C hr hlk hst hH ls hl
  have C : CallFix p m c cX1_holds 2 s args wsX1_holds RX1 := C
  obtain ⟨hx, hb, hml, hown, hts⟩ := id C
  have hA : ∀ q, fm_A K s.heap.size q → fm_A K s.heap.size q := fun _ h => h
  have hl : lv_has ls 2 [(0, .int x0), (1, .int x1)] := hl
  generalize hQ : MQ below _ args s _ _ _ = Q
  rw [mX1_holds] at h
  refine lv_iload_n hx hb dX1_holds_0 rfl (lv_at hl 0 rfl) ?_
  refine lv_iconst (v := 1) hx hb dX1_holds_1 (by decide) ?_
  refine lv_iload_n hx hb dX1_holds_2 rfl (lv_at hl 1 rfl) ?_
  refine lv_ishl hx hb dX1_holds_3 ?_
  refine lv_iand hx hb dX1_holds_4 ?_
  refine lv_if_eq (tgt := 12) hx hb dX1_holds_5 (by decide) (fun hc => ?_) (fun hc => ?_)
  · replace h := mi_pos hc h
    refine lv_iconst (v := 0) hx hb dX1_holds_12 (by decide) ?_
    cases h
    subst hQ
    exact fm_zret hx hb hr rfl hlk hst hH dX1_holds_13
  · replace h := mi_neg hc h
    refine lv_iconst (v := 1) hx hb dX1_holds_8 (by decide) ?_
    refine lv_goto (tgt := 13) hx hb dX1_holds_9 (by decide) ?_
    cases h
    subst hQ
    exact fm_zret hx hb hr rfl hlk hst hH dX1_holds_13
/-! RX1.with(II)I -/
abbrev rmX1_with : Room := { frames := 0, cells := 0, slots := 0, locals := 0 }
def mX1_with (x0 : Int32) (x1 : Int32) : Option Int32 :=
  some (x0 ||| ((1 : Int32) <<< (x1 &&& 31)))
set_option maxHeartbeats 4000000 in
set_option maxRecDepth 100000 in
theorem kX1_with (l : Launch) (K : fm_K) {x0 : Int32} {x1 : Int32} {σ : fm_S} {r : Int32} (h : mX1_with x0 x1 = some r) : fm_CI l yX1_with wsX1_with rmX1_with K [.int x0, .int x1] σ r σ := by
  intro sz
  refine fm_start (Qc := fun sz => fm_QI K r σ sz) (cc := cX1_with) (maxL := 2) (ret := (some .int)) (by decide) rfl (Nat.le_of_ble_eq_true rfl) ?_
  intro p e s m args below meth c C hr hlk hst hH ls hl
  have C : CallFix p m c cX1_with 2 s args wsX1_with RX1 := C
  obtain ⟨hx, hb, hml, hown, hts⟩ := id C
  have hA : ∀ q, fm_A K s.heap.size q → fm_A K s.heap.size q := fun _ h => h
  have hl : lv_has ls 2 [(0, .int x0), (1, .int x1)] := hl
  generalize hQ : MQ below _ args s _ _ _ = Q
  rw [mX1_with] at h
  refine lv_iload_n hx hb dX1_with_0 rfl (lv_at hl 0 rfl) ?_
  refine lv_iconst (v := 1) hx hb dX1_with_1 (by decide) ?_
  refine lv_iload_n hx hb dX1_with_2 rfl (lv_at hl 1 rfl) ?_
  refine lv_ishl hx hb dX1_with_3 ?_
  refine lv_ior hx hb dX1_with_4 ?_
  cases h
  subst hQ
  exact fm_iret hx hb hr hlk hst hH dX1_with_5
/-! RX1.without(II)I -/
abbrev rmX1_without : Room := { frames := 0, cells := 0, slots := 0, locals := 0 }
def mX1_without (x0 : Int32) (x1 : Int32) : Option Int32 :=
  some (x0 &&& (((1 : Int32) <<< (x1 &&& 31)) ^^^ (-1 : Int32)))
set_option maxHeartbeats 4000000 in
set_option maxRecDepth 100000 in
theorem kX1_without (l : Launch) (K : fm_K) {x0 : Int32} {x1 : Int32} {σ : fm_S} {r : Int32} (h : mX1_without x0 x1 = some r) : fm_CI l yX1_without wsX1_without rmX1_without K [.int x0, .int x1] σ r σ := by
  intro sz
  refine fm_start (Qc := fun sz => fm_QI K r σ sz) (cc := cX1_without) (maxL := 2) (ret := (some .int)) (by decide) rfl (Nat.le_of_ble_eq_true rfl) ?_
  intro p e s m args below meth c C hr hlk hst hH ls hl
  have C : CallFix p m c cX1_without 2 s args wsX1_without RX1 := C
  obtain ⟨hx, hb, hml, hown, hts⟩ := id C
  have hA : ∀ q, fm_A K s.heap.size q → fm_A K s.heap.size q := fun _ h => h
  have hl : lv_has ls 2 [(0, .int x0), (1, .int x1)] := hl
  generalize hQ : MQ below _ args s _ _ _ = Q
  rw [mX1_without] at h
  refine lv_iload_n hx hb dX1_without_0 rfl (lv_at hl 0 rfl) ?_
  refine lv_iconst (v := 1) hx hb dX1_without_1 (by decide) ?_
  refine lv_iload_n hx hb dX1_without_2 rfl (lv_at hl 1 rfl) ?_
  refine lv_ishl hx hb dX1_without_3 ?_
  refine lv_iconst (v := -1) hx hb dX1_without_4 (by decide) ?_
  refine lv_ixor hx hb dX1_without_5 ?_
  refine lv_iand hx hb dX1_without_6 ?_
  cases h
  subst hQ
  exact fm_iret hx hb hr hlk hst hH dX1_without_7
/-! RX1.joins(II)Z -/
abbrev rmX1_joins18 : Room := { frames := 1, cells := 0, slots := 0, locals := 21 }
def mX1_joins18 (x1 : Int32) (x2 : Int32) (σ : fm_S) : Option Int32 :=
  if (x1 < 0 ∨ 8 ≤ x1.toNatClampNeg) then none else
  mb1 (mX1_holds (rI σ 19 x1) x2) fun r7 =>
  if ¬ vp_nar .boolean r7 = r7 then none else
  some r7
set_option maxHeartbeats 4000000 in
set_option maxRecDepth 100000 in
theorem kX1_joins18 (l : Launch) (K : fm_K) {x1 : Int32} {x2 : Int32} {σ : fm_S} {r : Int32} (h : mX1_joins18 x1 x2 σ = some r) : fm_CI l yX1_joins wsX1_joins rmX1_joins18 K [.ref (K.2.2.2 18), .int x1, .int x2] σ r σ := by
  intro sz
  refine fm_start (Qc := fun sz => fm_QI K r σ sz) (cc := cX1_joins) (maxL := 3) (ret := (some .boolean)) (by decide) rfl (Nat.le_of_ble_eq_true rfl) ?_
  intro p e s m args below meth c C hr hlk hst hH ls hl
  have C : CallFix p m c cX1_joins 3 s args wsX1_joins RX1 := C
  obtain ⟨hx, hb, hml, hown, hts⟩ := id C
  have hA : ∀ q, fm_A K s.heap.size q → fm_A K s.heap.size q := fun _ h => h
  have hl : lv_has ls 3 [(0, .ref (K.2.2.2 18)), (1, .int x1), (2, .int x2)] := hl
  generalize hQ : MQ below _ args s _ _ _ = Q
  rw [mX1_joins18] at h
  refine lv_aload_n hx hb dX1_joins_0 rfl (lv_at hl 0 rfl) ?_
  refine fm_getf (T := TX1) (N := 1) hx hb hts (fun _ h => List.mem_cons_of_mem _ (List.mem_append_right _ h)) hown hst.1 hH 18 (fm_inb (by decide)) rfl (fm_ob_18 _ _) rfl 0 (by decide) (List.mem_of_getElem? (i := 1) rfl) rfl rfl dX1_joins_1 ?_
  refine lv_iload_n hx hb dX1_joins_4 rfl (lv_at hl 1 rfl) ?_
  obtain ⟨hi1, h⟩ := mi_chk h
  refine fm_ild hx hb hst.1 hH 19 (fm_inb (by decide)) rfl rfl hi1 dX1_joins_5 ?_
  refine lv_iload_n hx hb dX1_joins_6 rfl (lv_at hl 2 rfl) ?_
  obtain ⟨r7, h7, h⟩ := mi_b1 h
  refine fm_ci (va_runS (As := [.int (rI σ 19 x1), .int x2]) (rest := []) C (kX1_holds l K h7 _) (va_cwS 2 hts gX1_joins_X1_holds rfl rfl rfl (by decide +kernel) ⟨(Nat.le_of_ble_eq_true rfl), (Nat.le_of_ble_eq_true rfl)⟩) ⟨fm_blind, fm_pre hst hA hH⟩ rfl rfl hl.1 rfl (lv_room (Nat.le_of_ble_eq_true rfl)) dX1_joins_7 ⟨(Nat.le_of_ble_eq_true rfl), (Nat.le_of_ble_eq_true rfl)⟩) hA hH (fun H locs hH => ?_)
  obtain ⟨hn2, h⟩ := mi_chk h
  cases h
  subst hQ
  exact fm_zret hx hb hr (Decidable.not_not.mp hn2) hlk hst hH dX1_joins_10
/-! RX1.joins(II)Z -/
abbrev rmX1_joins20 : Room := { frames := 1, cells := 0, slots := 0, locals := 21 }
def mX1_joins20 (x1 : Int32) (x2 : Int32) (σ : fm_S) : Option Int32 :=
  if (x1 < 0 ∨ 8 ≤ x1.toNatClampNeg) then none else
  mb1 (mX1_holds (rI σ 21 x1) x2) fun r7 =>
  if ¬ vp_nar .boolean r7 = r7 then none else
  some r7
set_option maxHeartbeats 4000000 in
set_option maxRecDepth 100000 in
theorem kX1_joins20 (l : Launch) (K : fm_K) {x1 : Int32} {x2 : Int32} {σ : fm_S} {r : Int32} (h : mX1_joins20 x1 x2 σ = some r) : fm_CI l yX1_joins wsX1_joins rmX1_joins20 K [.ref (K.2.2.2 20), .int x1, .int x2] σ r σ := by
  intro sz
  refine fm_start (Qc := fun sz => fm_QI K r σ sz) (cc := cX1_joins) (maxL := 3) (ret := (some .boolean)) (by decide) rfl (Nat.le_of_ble_eq_true rfl) ?_
  intro p e s m args below meth c C hr hlk hst hH ls hl
  have C : CallFix p m c cX1_joins 3 s args wsX1_joins RX1 := C
  obtain ⟨hx, hb, hml, hown, hts⟩ := id C
  have hA : ∀ q, fm_A K s.heap.size q → fm_A K s.heap.size q := fun _ h => h
  have hl : lv_has ls 3 [(0, .ref (K.2.2.2 20)), (1, .int x1), (2, .int x2)] := hl
  generalize hQ : MQ below _ args s _ _ _ = Q
  rw [mX1_joins20] at h
  refine lv_aload_n hx hb dX1_joins_0 rfl (lv_at hl 0 rfl) ?_
  refine fm_getf (T := TX1) (N := 1) hx hb hts (fun _ h => List.mem_cons_of_mem _ (List.mem_append_right _ h)) hown hst.1 hH 20 (fm_inb (by decide)) rfl (fm_ob_20 _ _) rfl 0 (by decide) (List.mem_of_getElem? (i := 1) rfl) rfl rfl dX1_joins_1 ?_
  refine lv_iload_n hx hb dX1_joins_4 rfl (lv_at hl 1 rfl) ?_
  obtain ⟨hi1, h⟩ := mi_chk h
  refine fm_ild hx hb hst.1 hH 21 (fm_inb (by decide)) rfl rfl hi1 dX1_joins_5 ?_
  refine lv_iload_n hx hb dX1_joins_6 rfl (lv_at hl 2 rfl) ?_
  obtain ⟨r7, h7, h⟩ := mi_b1 h
  refine fm_ci (va_runS (As := [.int (rI σ 21 x1), .int x2]) (rest := []) C (kX1_holds l K h7 _) (va_cwS 2 hts gX1_joins_X1_holds rfl rfl rfl (by decide +kernel) ⟨(Nat.le_of_ble_eq_true rfl), (Nat.le_of_ble_eq_true rfl)⟩) ⟨fm_blind, fm_pre hst hA hH⟩ rfl rfl hl.1 rfl (lv_room (Nat.le_of_ble_eq_true rfl)) dX1_joins_7 ⟨(Nat.le_of_ble_eq_true rfl), (Nat.le_of_ble_eq_true rfl)⟩) hA hH (fun H locs hH => ?_)
  obtain ⟨hn2, h⟩ := mi_chk h
  cases h
  subst hQ
  exact fm_zret hx hb hr (Decidable.not_not.mp hn2) hlk hst hH dX1_joins_10
/-! RX1.join(II)V -/
abbrev rmX1_join18 : Room := { frames := 1, cells := 0, slots := 0, locals := 21 }
def mX1_join18 (x1 : Int32) (x2 : Int32) (σ : fm_S) : Option fm_S :=
  if (x1 < 0 ∨ 8 ≤ x1.toNatClampNeg) then none else
  mb1 (mX1_with (rI σ 19 x1) x2) fun r12 =>
  if (x2 < 0 ∨ 8 ≤ x2.toNatClampNeg) then none else
  mb1 (mX1_with (rI (sI σ 19 x1 r12) 19 x2) x1) fun r28 =>
  some (sI (sI σ 19 x1 r12) 19 x2 r28)
set_option maxHeartbeats 4000000 in
set_option maxRecDepth 100000 in
theorem kX1_join18 (l : Launch) (K : fm_K) {x1 : Int32} {x2 : Int32} {σ : fm_S} {σ' : fm_S} (h : mX1_join18 x1 x2 σ = some σ') : fm_CV l yX1_join wsX1_join rmX1_join18 K [.ref (K.2.2.2 18), .int x1, .int x2] σ σ' := by
  intro sz
  refine fm_start (Qc := fun sz => fm_QV K σ' sz) (cc := cX1_join) (maxL := 3) (ret := none) (by decide) rfl (Nat.le_of_ble_eq_true rfl) ?_
  intro p e s m args below meth c C hr hlk hst hH ls hl
  have C : CallFix p m c cX1_join 3 s args wsX1_join RX1 := C
  obtain ⟨hx, hb, hml, hown, hts⟩ := id C
  have hA : ∀ q, fm_A K s.heap.size q → fm_A K s.heap.size q := fun _ h => h
  have hl : lv_has ls 3 [(0, .ref (K.2.2.2 18)), (1, .int x1), (2, .int x2)] := hl
  generalize hQ : MQ below _ args s _ _ _ = Q
  rw [mX1_join18] at h
  refine lv_aload_n hx hb dX1_join_0 rfl (lv_at hl 0 rfl) ?_
  refine fm_getf (T := TX1) (N := 1) hx hb hts (fun _ h => List.mem_cons_of_mem _ (List.mem_append_right _ h)) hown hst.1 hH 18 (fm_inb (by decide)) rfl (fm_ob_18 _ _) rfl 0 (by decide) (List.mem_of_getElem? (i := 1) rfl) rfl rfl dX1_join_1 ?_
  refine lv_iload_n hx hb dX1_join_4 rfl (lv_at hl 1 rfl) ?_
  refine lv_aload_n hx hb dX1_join_5 rfl (lv_at hl 0 rfl) ?_
  refine fm_getf (T := TX1) (N := 1) hx hb hts (fun _ h => List.mem_cons_of_mem _ (List.mem_append_right _ h)) hown hst.1 hH 18 (fm_inb (by decide)) rfl (fm_ob_18 _ _) rfl 0 (by decide) (List.mem_of_getElem? (i := 1) rfl) rfl rfl dX1_join_6 ?_
  refine lv_iload_n hx hb dX1_join_9 rfl (lv_at hl 1 rfl) ?_
  obtain ⟨hi1, h⟩ := mi_chk h
  refine fm_ild hx hb hst.1 hH 19 (fm_inb (by decide)) rfl rfl hi1 dX1_join_10 ?_
  refine lv_iload_n hx hb dX1_join_11 rfl (lv_at hl 2 rfl) ?_
  obtain ⟨r12, h12, h⟩ := mi_b1 h
  refine fm_ci (va_runS (As := [.int (rI σ 19 x1), .int x2]) (rest := [.int x1, .ref (K.2.2.2 19)]) C (kX1_with l K h12 _) (va_cwS 2 hts gX1_join_X1_with rfl rfl rfl (by decide +kernel) ⟨(Nat.le_of_ble_eq_true rfl), (Nat.le_of_ble_eq_true rfl)⟩) ⟨fm_blind, fm_pre hst hA hH⟩ rfl rfl hl.1 rfl (lv_room (Nat.le_of_ble_eq_true rfl)) dX1_join_12 ⟨(Nat.le_of_ble_eq_true rfl), (Nat.le_of_ble_eq_true rfl)⟩) hA hH (fun H locs hH => ?_)
  refine fm_ist hx hb hst.1 hH 19 (fm_inb (by decide)) rfl rfl hi1 dX1_join_15 (fun H locs hH => ?_)
  refine lv_aload_n hx hb dX1_join_16 rfl (lv_at hl 0 rfl) ?_
  refine fm_getf (T := TX1) (N := 1) hx hb hts (fun _ h => List.mem_cons_of_mem _ (List.mem_append_right _ h)) hown hst.1 hH 18 (fm_inb (by decide)) rfl (fm_ob_18 _ _) rfl 0 (by decide) (List.mem_of_getElem? (i := 1) rfl) rfl rfl dX1_join_17 ?_
  refine lv_iload_n hx hb dX1_join_20 rfl (lv_at hl 2 rfl) ?_
  refine lv_aload_n hx hb dX1_join_21 rfl (lv_at hl 0 rfl) ?_
  refine fm_getf (T := TX1) (N := 1) hx hb hts (fun _ h => List.mem_cons_of_mem _ (List.mem_append_right _ h)) hown hst.1 hH 18 (fm_inb (by decide)) rfl (fm_ob_18 _ _) rfl 0 (by decide) (List.mem_of_getElem? (i := 1) rfl) rfl rfl dX1_join_22 ?_
  refine lv_iload_n hx hb dX1_join_25 rfl (lv_at hl 2 rfl) ?_
  obtain ⟨hi2, h⟩ := mi_chk h
  refine fm_ild hx hb hst.1 hH 19 (fm_inb (by decide)) rfl rfl hi2 dX1_join_26 ?_
  refine lv_iload_n hx hb dX1_join_27 rfl (lv_at hl 1 rfl) ?_
  obtain ⟨r28, h28, h⟩ := mi_b1 h
  refine fm_ci (va_runS (As := [.int (rI (sI σ 19 x1 r12) 19 x2), .int x1]) (rest := [.int x2, .ref (K.2.2.2 19)]) C (kX1_with l K h28 _) (va_cwS 2 hts gX1_join_X1_with rfl rfl rfl (by decide +kernel) ⟨(Nat.le_of_ble_eq_true rfl), (Nat.le_of_ble_eq_true rfl)⟩) ⟨fm_blind, fm_pre hst hA hH⟩ rfl rfl hl.1 rfl (lv_room (Nat.le_of_ble_eq_true rfl)) dX1_join_28 ⟨(Nat.le_of_ble_eq_true rfl), (Nat.le_of_ble_eq_true rfl)⟩) hA hH (fun H locs hH => ?_)
  refine fm_ist hx hb hst.1 hH 19 (fm_inb (by decide)) rfl rfl hi2 dX1_join_31 (fun H locs hH => ?_)
  cases h
  subst hQ
  exact fm_vret hx hb hr hlk hst hH dX1_join_32
/-! RX1.join(II)V -/
abbrev rmX1_join20 : Room := { frames := 1, cells := 0, slots := 0, locals := 21 }
def mX1_join20 (x1 : Int32) (x2 : Int32) (σ : fm_S) : Option fm_S :=
  if (x1 < 0 ∨ 8 ≤ x1.toNatClampNeg) then none else
  mb1 (mX1_with (rI σ 21 x1) x2) fun r12 =>
  if (x2 < 0 ∨ 8 ≤ x2.toNatClampNeg) then none else
  mb1 (mX1_with (rI (sI σ 21 x1 r12) 21 x2) x1) fun r28 =>
  some (sI (sI σ 21 x1 r12) 21 x2 r28)
set_option maxHeartbeats 4000000 in
set_option maxRecDepth 100000 in
theorem kX1_join20 (l : Launch) (K : fm_K) {x1 : Int32} {x2 : Int32} {σ : fm_S} {σ' : fm_S} (h : mX1_join20 x1 x2 σ = some σ') : fm_CV l yX1_join wsX1_join rmX1_join20 K [.ref (K.2.2.2 20), .int x1, .int x2] σ σ' := by
  intro sz
  refine fm_start (Qc := fun sz => fm_QV K σ' sz) (cc := cX1_join) (maxL := 3) (ret := none) (by decide) rfl (Nat.le_of_ble_eq_true rfl) ?_
  intro p e s m args below meth c C hr hlk hst hH ls hl
  have C : CallFix p m c cX1_join 3 s args wsX1_join RX1 := C
  obtain ⟨hx, hb, hml, hown, hts⟩ := id C
  have hA : ∀ q, fm_A K s.heap.size q → fm_A K s.heap.size q := fun _ h => h
  have hl : lv_has ls 3 [(0, .ref (K.2.2.2 20)), (1, .int x1), (2, .int x2)] := hl
  generalize hQ : MQ below _ args s _ _ _ = Q
  rw [mX1_join20] at h
  refine lv_aload_n hx hb dX1_join_0 rfl (lv_at hl 0 rfl) ?_
  refine fm_getf (T := TX1) (N := 1) hx hb hts (fun _ h => List.mem_cons_of_mem _ (List.mem_append_right _ h)) hown hst.1 hH 20 (fm_inb (by decide)) rfl (fm_ob_20 _ _) rfl 0 (by decide) (List.mem_of_getElem? (i := 1) rfl) rfl rfl dX1_join_1 ?_
  refine lv_iload_n hx hb dX1_join_4 rfl (lv_at hl 1 rfl) ?_
  refine lv_aload_n hx hb dX1_join_5 rfl (lv_at hl 0 rfl) ?_
  refine fm_getf (T := TX1) (N := 1) hx hb hts (fun _ h => List.mem_cons_of_mem _ (List.mem_append_right _ h)) hown hst.1 hH 20 (fm_inb (by decide)) rfl (fm_ob_20 _ _) rfl 0 (by decide) (List.mem_of_getElem? (i := 1) rfl) rfl rfl dX1_join_6 ?_
  refine lv_iload_n hx hb dX1_join_9 rfl (lv_at hl 1 rfl) ?_
  obtain ⟨hi1, h⟩ := mi_chk h
  refine fm_ild hx hb hst.1 hH 21 (fm_inb (by decide)) rfl rfl hi1 dX1_join_10 ?_
  refine lv_iload_n hx hb dX1_join_11 rfl (lv_at hl 2 rfl) ?_
  obtain ⟨r12, h12, h⟩ := mi_b1 h
  refine fm_ci (va_runS (As := [.int (rI σ 21 x1), .int x2]) (rest := [.int x1, .ref (K.2.2.2 21)]) C (kX1_with l K h12 _) (va_cwS 2 hts gX1_join_X1_with rfl rfl rfl (by decide +kernel) ⟨(Nat.le_of_ble_eq_true rfl), (Nat.le_of_ble_eq_true rfl)⟩) ⟨fm_blind, fm_pre hst hA hH⟩ rfl rfl hl.1 rfl (lv_room (Nat.le_of_ble_eq_true rfl)) dX1_join_12 ⟨(Nat.le_of_ble_eq_true rfl), (Nat.le_of_ble_eq_true rfl)⟩) hA hH (fun H locs hH => ?_)
  refine fm_ist hx hb hst.1 hH 21 (fm_inb (by decide)) rfl rfl hi1 dX1_join_15 (fun H locs hH => ?_)
  refine lv_aload_n hx hb dX1_join_16 rfl (lv_at hl 0 rfl) ?_
  refine fm_getf (T := TX1) (N := 1) hx hb hts (fun _ h => List.mem_cons_of_mem _ (List.mem_append_right _ h)) hown hst.1 hH 20 (fm_inb (by decide)) rfl (fm_ob_20 _ _) rfl 0 (by decide) (List.mem_of_getElem? (i := 1) rfl) rfl rfl dX1_join_17 ?_
  refine lv_iload_n hx hb dX1_join_20 rfl (lv_at hl 2 rfl) ?_
  refine lv_aload_n hx hb dX1_join_21 rfl (lv_at hl 0 rfl) ?_
  refine fm_getf (T := TX1) (N := 1) hx hb hts (fun _ h => List.mem_cons_of_mem _ (List.mem_append_right _ h)) hown hst.1 hH 20 (fm_inb (by decide)) rfl (fm_ob_20 _ _) rfl 0 (by decide) (List.mem_of_getElem? (i := 1) rfl) rfl rfl dX1_join_22 ?_
  refine lv_iload_n hx hb dX1_join_25 rfl (lv_at hl 2 rfl) ?_
  obtain ⟨hi2, h⟩ := mi_chk h
  refine fm_ild hx hb hst.1 hH 21 (fm_inb (by decide)) rfl rfl hi2 dX1_join_26 ?_
  refine lv_iload_n hx hb dX1_join_27 rfl (lv_at hl 1 rfl) ?_
  obtain ⟨r28, h28, h⟩ := mi_b1 h
  refine fm_ci (va_runS (As := [.int (rI (sI σ 21 x1 r12) 21 x2), .int x1]) (rest := [.int x2, .ref (K.2.2.2 21)]) C (kX1_with l K h28 _) (va_cwS 2 hts gX1_join_X1_with rfl rfl rfl (by decide +kernel) ⟨(Nat.le_of_ble_eq_true rfl), (Nat.le_of_ble_eq_true rfl)⟩) ⟨fm_blind, fm_pre hst hA hH⟩ rfl rfl hl.1 rfl (lv_room (Nat.le_of_ble_eq_true rfl)) dX1_join_28 ⟨(Nat.le_of_ble_eq_true rfl), (Nat.le_of_ble_eq_true rfl)⟩) hA hH (fun H locs hH => ?_)
  refine fm_ist hx hb hst.1 hH 21 (fm_inb (by decide)) rfl rfl hi2 dX1_join_31 (fun H locs hH => ?_)
  cases h
  subst hQ
  exact fm_vret hx hb hr hlk hst hH dX1_join_32
/-! RX1.cut(II)V -/
abbrev rmX1_cut18 : Room := { frames := 1, cells := 0, slots := 0, locals := 21 }
def mX1_cut18 (x1 : Int32) (x2 : Int32) (σ : fm_S) : Option fm_S :=
  if (x1 < 0 ∨ 8 ≤ x1.toNatClampNeg) then none else
  mb1 (mX1_without (rI σ 19 x1) x2) fun r12 =>
  if (x2 < 0 ∨ 8 ≤ x2.toNatClampNeg) then none else
  mb1 (mX1_without (rI (sI σ 19 x1 r12) 19 x2) x1) fun r28 =>
  some (sI (sI σ 19 x1 r12) 19 x2 r28)
set_option maxHeartbeats 4000000 in
set_option maxRecDepth 100000 in
theorem kX1_cut18 (l : Launch) (K : fm_K) {x1 : Int32} {x2 : Int32} {σ : fm_S} {σ' : fm_S} (h : mX1_cut18 x1 x2 σ = some σ') : fm_CV l yX1_cut wsX1_cut rmX1_cut18 K [.ref (K.2.2.2 18), .int x1, .int x2] σ σ' := by
  intro sz
  refine fm_start (Qc := fun sz => fm_QV K σ' sz) (cc := cX1_cut) (maxL := 3) (ret := none) (by decide) rfl (Nat.le_of_ble_eq_true rfl) ?_
  intro p e s m args below meth c C hr hlk hst hH ls hl
  have C : CallFix p m c cX1_cut 3 s args wsX1_cut RX1 := C
  obtain ⟨hx, hb, hml, hown, hts⟩ := id C
  have hA : ∀ q, fm_A K s.heap.size q → fm_A K s.heap.size q := fun _ h => h
  have hl : lv_has ls 3 [(0, .ref (K.2.2.2 18)), (1, .int x1), (2, .int x2)] := hl
  generalize hQ : MQ below _ args s _ _ _ = Q
  rw [mX1_cut18] at h
  refine lv_aload_n hx hb dX1_cut_0 rfl (lv_at hl 0 rfl) ?_
  refine fm_getf (T := TX1) (N := 1) hx hb hts (fun _ h => List.mem_cons_of_mem _ (List.mem_append_right _ h)) hown hst.1 hH 18 (fm_inb (by decide)) rfl (fm_ob_18 _ _) rfl 0 (by decide) (List.mem_of_getElem? (i := 1) rfl) rfl rfl dX1_cut_1 ?_
  refine lv_iload_n hx hb dX1_cut_4 rfl (lv_at hl 1 rfl) ?_
  refine lv_aload_n hx hb dX1_cut_5 rfl (lv_at hl 0 rfl) ?_
  refine fm_getf (T := TX1) (N := 1) hx hb hts (fun _ h => List.mem_cons_of_mem _ (List.mem_append_right _ h)) hown hst.1 hH 18 (fm_inb (by decide)) rfl (fm_ob_18 _ _) rfl 0 (by decide) (List.mem_of_getElem? (i := 1) rfl) rfl rfl dX1_cut_6 ?_
  refine lv_iload_n hx hb dX1_cut_9 rfl (lv_at hl 1 rfl) ?_
  obtain ⟨hi1, h⟩ := mi_chk h
  refine fm_ild hx hb hst.1 hH 19 (fm_inb (by decide)) rfl rfl hi1 dX1_cut_10 ?_
  refine lv_iload_n hx hb dX1_cut_11 rfl (lv_at hl 2 rfl) ?_
  obtain ⟨r12, h12, h⟩ := mi_b1 h
  refine fm_ci (va_runS (As := [.int (rI σ 19 x1), .int x2]) (rest := [.int x1, .ref (K.2.2.2 19)]) C (kX1_without l K h12 _) (va_cwS 2 hts gX1_cut_X1_without rfl rfl rfl (by decide +kernel) ⟨(Nat.le_of_ble_eq_true rfl), (Nat.le_of_ble_eq_true rfl)⟩) ⟨fm_blind, fm_pre hst hA hH⟩ rfl rfl hl.1 rfl (lv_room (Nat.le_of_ble_eq_true rfl)) dX1_cut_12 ⟨(Nat.le_of_ble_eq_true rfl), (Nat.le_of_ble_eq_true rfl)⟩) hA hH (fun H locs hH => ?_)
  refine fm_ist hx hb hst.1 hH 19 (fm_inb (by decide)) rfl rfl hi1 dX1_cut_15 (fun H locs hH => ?_)
  refine lv_aload_n hx hb dX1_cut_16 rfl (lv_at hl 0 rfl) ?_
  refine fm_getf (T := TX1) (N := 1) hx hb hts (fun _ h => List.mem_cons_of_mem _ (List.mem_append_right _ h)) hown hst.1 hH 18 (fm_inb (by decide)) rfl (fm_ob_18 _ _) rfl 0 (by decide) (List.mem_of_getElem? (i := 1) rfl) rfl rfl dX1_cut_17 ?_
  refine lv_iload_n hx hb dX1_cut_20 rfl (lv_at hl 2 rfl) ?_
  refine lv_aload_n hx hb dX1_cut_21 rfl (lv_at hl 0 rfl) ?_
  refine fm_getf (T := TX1) (N := 1) hx hb hts (fun _ h => List.mem_cons_of_mem _ (List.mem_append_right _ h)) hown hst.1 hH 18 (fm_inb (by decide)) rfl (fm_ob_18 _ _) rfl 0 (by decide) (List.mem_of_getElem? (i := 1) rfl) rfl rfl dX1_cut_22 ?_
  refine lv_iload_n hx hb dX1_cut_25 rfl (lv_at hl 2 rfl) ?_
  obtain ⟨hi2, h⟩ := mi_chk h
  refine fm_ild hx hb hst.1 hH 19 (fm_inb (by decide)) rfl rfl hi2 dX1_cut_26 ?_
  refine lv_iload_n hx hb dX1_cut_27 rfl (lv_at hl 1 rfl) ?_
  obtain ⟨r28, h28, h⟩ := mi_b1 h
  refine fm_ci (va_runS (As := [.int (rI (sI σ 19 x1 r12) 19 x2), .int x1]) (rest := [.int x2, .ref (K.2.2.2 19)]) C (kX1_without l K h28 _) (va_cwS 2 hts gX1_cut_X1_without rfl rfl rfl (by decide +kernel) ⟨(Nat.le_of_ble_eq_true rfl), (Nat.le_of_ble_eq_true rfl)⟩) ⟨fm_blind, fm_pre hst hA hH⟩ rfl rfl hl.1 rfl (lv_room (Nat.le_of_ble_eq_true rfl)) dX1_cut_28 ⟨(Nat.le_of_ble_eq_true rfl), (Nat.le_of_ble_eq_true rfl)⟩) hA hH (fun H locs hH => ?_)
  refine fm_ist hx hb hst.1 hH 19 (fm_inb (by decide)) rfl rfl hi2 dX1_cut_31 (fun H locs hH => ?_)
  cases h
  subst hQ
  exact fm_vret hx hb hr hlk hst hH dX1_cut_32
/-! RX1.cut(II)V -/
abbrev rmX1_cut20 : Room := { frames := 1, cells := 0, slots := 0, locals := 21 }
def mX1_cut20 (x1 : Int32) (x2 : Int32) (σ : fm_S) : Option fm_S :=
  if (x1 < 0 ∨ 8 ≤ x1.toNatClampNeg) then none else
  mb1 (mX1_without (rI σ 21 x1) x2) fun r12 =>
  if (x2 < 0 ∨ 8 ≤ x2.toNatClampNeg) then none else
  mb1 (mX1_without (rI (sI σ 21 x1 r12) 21 x2) x1) fun r28 =>
  some (sI (sI σ 21 x1 r12) 21 x2 r28)
set_option maxHeartbeats 4000000 in
set_option maxRecDepth 100000 in
theorem kX1_cut20 (l : Launch) (K : fm_K) {x1 : Int32} {x2 : Int32} {σ : fm_S} {σ' : fm_S} (h : mX1_cut20 x1 x2 σ = some σ') : fm_CV l yX1_cut wsX1_cut rmX1_cut20 K [.ref (K.2.2.2 20), .int x1, .int x2] σ σ' := by
  intro sz
  refine fm_start (Qc := fun sz => fm_QV K σ' sz) (cc := cX1_cut) (maxL := 3) (ret := none) (by decide) rfl (Nat.le_of_ble_eq_true rfl) ?_
  intro p e s m args below meth c C hr hlk hst hH ls hl
  have C : CallFix p m c cX1_cut 3 s args wsX1_cut RX1 := C
  obtain ⟨hx, hb, hml, hown, hts⟩ := id C
  have hA : ∀ q, fm_A K s.heap.size q → fm_A K s.heap.size q := fun _ h => h
  have hl : lv_has ls 3 [(0, .ref (K.2.2.2 20)), (1, .int x1), (2, .int x2)] := hl
  generalize hQ : MQ below _ args s _ _ _ = Q
  rw [mX1_cut20] at h
  refine lv_aload_n hx hb dX1_cut_0 rfl (lv_at hl 0 rfl) ?_
  refine fm_getf (T := TX1) (N := 1) hx hb hts (fun _ h => List.mem_cons_of_mem _ (List.mem_append_right _ h)) hown hst.1 hH 20 (fm_inb (by decide)) rfl (fm_ob_20 _ _) rfl 0 (by decide) (List.mem_of_getElem? (i := 1) rfl) rfl rfl dX1_cut_1 ?_
  refine lv_iload_n hx hb dX1_cut_4 rfl (lv_at hl 1 rfl) ?_
  refine lv_aload_n hx hb dX1_cut_5 rfl (lv_at hl 0 rfl) ?_
  refine fm_getf (T := TX1) (N := 1) hx hb hts (fun _ h => List.mem_cons_of_mem _ (List.mem_append_right _ h)) hown hst.1 hH 20 (fm_inb (by decide)) rfl (fm_ob_20 _ _) rfl 0 (by decide) (List.mem_of_getElem? (i := 1) rfl) rfl rfl dX1_cut_6 ?_
  refine lv_iload_n hx hb dX1_cut_9 rfl (lv_at hl 1 rfl) ?_
  obtain ⟨hi1, h⟩ := mi_chk h
  refine fm_ild hx hb hst.1 hH 21 (fm_inb (by decide)) rfl rfl hi1 dX1_cut_10 ?_
  refine lv_iload_n hx hb dX1_cut_11 rfl (lv_at hl 2 rfl) ?_
  obtain ⟨r12, h12, h⟩ := mi_b1 h
  refine fm_ci (va_runS (As := [.int (rI σ 21 x1), .int x2]) (rest := [.int x1, .ref (K.2.2.2 21)]) C (kX1_without l K h12 _) (va_cwS 2 hts gX1_cut_X1_without rfl rfl rfl (by decide +kernel) ⟨(Nat.le_of_ble_eq_true rfl), (Nat.le_of_ble_eq_true rfl)⟩) ⟨fm_blind, fm_pre hst hA hH⟩ rfl rfl hl.1 rfl (lv_room (Nat.le_of_ble_eq_true rfl)) dX1_cut_12 ⟨(Nat.le_of_ble_eq_true rfl), (Nat.le_of_ble_eq_true rfl)⟩) hA hH (fun H locs hH => ?_)
  refine fm_ist hx hb hst.1 hH 21 (fm_inb (by decide)) rfl rfl hi1 dX1_cut_15 (fun H locs hH => ?_)
  refine lv_aload_n hx hb dX1_cut_16 rfl (lv_at hl 0 rfl) ?_
  refine fm_getf (T := TX1) (N := 1) hx hb hts (fun _ h => List.mem_cons_of_mem _ (List.mem_append_right _ h)) hown hst.1 hH 20 (fm_inb (by decide)) rfl (fm_ob_20 _ _) rfl 0 (by decide) (List.mem_of_getElem? (i := 1) rfl) rfl rfl dX1_cut_17 ?_
  refine lv_iload_n hx hb dX1_cut_20 rfl (lv_at hl 2 rfl) ?_
  refine lv_aload_n hx hb dX1_cut_21 rfl (lv_at hl 0 rfl) ?_
  refine fm_getf (T := TX1) (N := 1) hx hb hts (fun _ h => List.mem_cons_of_mem _ (List.mem_append_right _ h)) hown hst.1 hH 20 (fm_inb (by decide)) rfl (fm_ob_20 _ _) rfl 0 (by decide) (List.mem_of_getElem? (i := 1) rfl) rfl rfl dX1_cut_22 ?_
  refine lv_iload_n hx hb dX1_cut_25 rfl (lv_at hl 2 rfl) ?_
  obtain ⟨hi2, h⟩ := mi_chk h
  refine fm_ild hx hb hst.1 hH 21 (fm_inb (by decide)) rfl rfl hi2 dX1_cut_26 ?_
  refine lv_iload_n hx hb dX1_cut_27 rfl (lv_at hl 1 rfl) ?_
  obtain ⟨r28, h28, h⟩ := mi_b1 h
  refine fm_ci (va_runS (As := [.int (rI (sI σ 21 x1 r12) 21 x2), .int x1]) (rest := [.int x2, .ref (K.2.2.2 21)]) C (kX1_without l K h28 _) (va_cwS 2 hts gX1_cut_X1_without rfl rfl rfl (by decide +kernel) ⟨(Nat.le_of_ble_eq_true rfl), (Nat.le_of_ble_eq_true rfl)⟩) ⟨fm_blind, fm_pre hst hA hH⟩ rfl rfl hl.1 rfl (lv_room (Nat.le_of_ble_eq_true rfl)) dX1_cut_28 ⟨(Nat.le_of_ble_eq_true rfl), (Nat.le_of_ble_eq_true rfl)⟩) hA hH (fun H locs hH => ?_)
  refine fm_ist hx hb hst.1 hH 21 (fm_inb (by decide)) rfl rfl hi2 dX1_cut_31 (fun H locs hH => ?_)
  cases h
  subst hQ
  exact fm_vret hx hb hr hlk hst hH dX1_cut_32
/-! RX1.clear()V -/
abbrev rmX1_clear20 : Room := { frames := 1, cells := 0, slots := 0, locals := 23 }
def mX1_clear20 (σ : fm_S) : Option fm_S :=
  mb1 (mJ7_fill_53178 21 (0 : Int32) σ) fun σ5 =>
  some σ5
set_option maxHeartbeats 4000000 in
set_option maxRecDepth 100000 in
theorem kX1_clear20 (l : Launch) (K : fm_K) {σ : fm_S} {σ' : fm_S} (h : mX1_clear20 σ = some σ') : fm_CV l yX1_clear wsX1_clear rmX1_clear20 K [.ref (K.2.2.2 20)] σ σ' := by
  intro sz
  refine fm_start (Qc := fun sz => fm_QV K σ' sz) (cc := cX1_clear) (maxL := 1) (ret := none) (by decide) rfl (Nat.le_of_ble_eq_true rfl) ?_
  intro p e s m args below meth c C hr hlk hst hH ls hl
  have C : CallFix p m c cX1_clear 1 s args wsX1_clear RX1 := C
  obtain ⟨hx, hb, hml, hown, hts⟩ := id C
  have hA : ∀ q, fm_A K s.heap.size q → fm_A K s.heap.size q := fun _ h => h
  have hl : lv_has ls 1 [(0, .ref (K.2.2.2 20))] := hl
  generalize hQ : MQ below _ args s _ _ _ = Q
  rw [mX1_clear20] at h
  refine lv_aload_n hx hb dX1_clear_0 rfl (lv_at hl 0 rfl) ?_
  refine fm_getf (T := TX1) (N := 1) hx hb hts (fun _ h => List.mem_cons_of_mem _ (List.mem_append_right _ h)) hown hst.1 hH 20 (fm_inb (by decide)) rfl (fm_ob_20 _ _) rfl 0 (by decide) (List.mem_of_getElem? (i := 1) rfl) rfl rfl dX1_clear_1 ?_
  refine lv_iconst (v := 0) hx hb dX1_clear_4 (by decide) ?_
  obtain ⟨σ5, h5, h⟩ := mi_b1 h
  refine fm_cv (va_runS (As := [.ref (K.2.2.2 21), .int (0 : Int32)]) (rest := []) C (kJ7_fill_53178 l K (fm_inb (by decide)) rfl h5 _) (va_cwS 2 hts gX1_clear_J7_fill_53178 rfl rfl rfl (by decide +kernel) ⟨(Nat.le_of_ble_eq_true rfl), (Nat.le_of_ble_eq_true rfl)⟩) ⟨fm_blind, fm_pre hst hA hH⟩ rfl rfl hl.1 rfl (lv_room (Nat.le_of_ble_eq_true rfl)) dX1_clear_5 ⟨(Nat.le_of_ble_eq_true rfl), (Nat.le_of_ble_eq_true rfl)⟩) hA hH (fun H locs hH => ?_)
  cases h
  subst hQ
  exact fm_vret hx hb hr hlk hst hH dX1_clear_8
/-! RX1.degreeOf(I)I -/
abbrev rmX1_degreeOf20 : Room := { frames := 1, cells := 0, slots := 0, locals := 20 }
def mX1_degreeOf20 (x1 : Int32) (σ : fm_S) : Option Int32 :=
  if (x1 < 0 ∨ 8 ≤ x1.toNatClampNeg) then none else
  mb1 (mJ6_bitCount_0f7a4 (rI σ 21 x1)) fun r6 =>
  some r6
set_option maxHeartbeats 4000000 in
set_option maxRecDepth 100000 in
theorem kX1_degreeOf20 (l : Launch) (K : fm_K) {x1 : Int32} {σ : fm_S} {r : Int32} (h : mX1_degreeOf20 x1 σ = some r) : fm_CI l yX1_degreeOf wsX1_degreeOf rmX1_degreeOf20 K [.ref (K.2.2.2 20), .int x1] σ r σ := by
  intro sz
  refine fm_start (Qc := fun sz => fm_QI K r σ sz) (cc := cX1_degreeOf) (maxL := 2) (ret := (some .int)) (by decide) rfl (Nat.le_of_ble_eq_true rfl) ?_
  intro p e s m args below meth c C hr hlk hst hH ls hl
  have C : CallFix p m c cX1_degreeOf 2 s args wsX1_degreeOf RX1 := C
  obtain ⟨hx, hb, hml, hown, hts⟩ := id C
  have hA : ∀ q, fm_A K s.heap.size q → fm_A K s.heap.size q := fun _ h => h
  have hl : lv_has ls 2 [(0, .ref (K.2.2.2 20)), (1, .int x1)] := hl
  generalize hQ : MQ below _ args s _ _ _ = Q
  rw [mX1_degreeOf20] at h
  refine lv_aload_n hx hb dX1_degreeOf_0 rfl (lv_at hl 0 rfl) ?_
  refine fm_getf (T := TX1) (N := 1) hx hb hts (fun _ h => List.mem_cons_of_mem _ (List.mem_append_right _ h)) hown hst.1 hH 20 (fm_inb (by decide)) rfl (fm_ob_20 _ _) rfl 0 (by decide) (List.mem_of_getElem? (i := 1) rfl) rfl rfl dX1_degreeOf_1 ?_
  refine lv_iload_n hx hb dX1_degreeOf_4 rfl (lv_at hl 1 rfl) ?_
  obtain ⟨hi1, h⟩ := mi_chk h
  refine fm_ild hx hb hst.1 hH 21 (fm_inb (by decide)) rfl rfl hi1 dX1_degreeOf_5 ?_
  obtain ⟨r6, h6, h⟩ := mi_b1 h
  refine fm_ci (va_runS (As := [.int (rI σ 21 x1)]) (rest := []) C (kJ6_bitCount_0f7a4 l K h6 _) (va_cwS 1 hts gX1_degreeOf_J6_bitCount_0f7a4 rfl rfl rfl (by decide +kernel) ⟨(Nat.le_of_ble_eq_true rfl), (Nat.le_of_ble_eq_true rfl)⟩) ⟨fm_blind, fm_pre hst hA hH⟩ rfl rfl hl.1 rfl (lv_room (Nat.le_of_ble_eq_true rfl)) dX1_degreeOf_6 ⟨(Nat.le_of_ble_eq_true rfl), (Nat.le_of_ble_eq_true rfl)⟩) hA hH (fun H locs hH => ?_)
  cases h
  subst hQ
  exact fm_iret hx hb hr hlk hst hH dX1_degreeOf_9
/-! RX1.pairCount()I -/
abbrev rmX1_pairCount20 : Room := { frames := 2, cells := 0, slots := 0, locals := 41 }
def mX1_pairCount20_L4 : Nat → Int32 → Int32 → fm_S → Option (Int32)
  | 0, _, _, _ => none
  | n + 1, x1, x2, σ =>
    if (8 : Int32) ≤ x2 then
      some x1
    else
      mb1 (mX1_degreeOf20 x2 σ) fun r13 =>
      mX1_pairCount20_L4 n (x1 + r13) (x2 + 1) σ
set_option maxHeartbeats 4000000 in
set_option maxRecDepth 100000 in
theorem wX1_pairCount20_L4 {p : Program} {l : Launch} {e : Env} {s : State} {m : MethodId} {args : Array Value} {below : List Frame} {meth : Method} {c : Code} {Q : State → Prop} {K : fm_K} {A : Nat → Prop} (C : CallFix p m c cX1_pairCount 3 s args wsX1_pairCount RX1) (hst : fm_st K A s s.heap) (hA : ∀ q, fm_A K s.heap.size q → A q) :
    ∀ (n : Nat) (x1 : Int32) (x2 : Int32) (σ : fm_S) (o1 : Int32), mX1_pairCount20_L4 n x1 x2 σ = some o1 → (∀ (ls : Array Slot) (H : Heap) (locs : List Loc), lv_has ls 3 [(1, .int o1)] → fm_H K σ A s H locs → W p l e rmX1_pairCount20 s m args below meth c H locs 0 0 Q (F0 m 24 ls [])) → ∀ (ls : Array Slot) (H : Heap) (locs : List Loc), lv_has ls 3 [(0, .ref (K.2.2.2 20)), (1, .int x1), (2, .int x2)] → fm_H K σ A s H locs → W p l e rmX1_pairCount20 s m args below meth c H locs 0 0 Q (F0 m 4 ls []) := by
  obtain ⟨hx, hb, hml, hown, hts⟩ := id C
  intro n
  induction n with
  | zero => intro x1 x2 σ o1 h; simp [mX1_pairCount20_L4] at h
  | succ n ih =>
    intro x1 x2 σ o1 h kk ls H locs hl hH
    rw [mX1_pairCount20_L4] at h
    refine lv_iload_n hx hb dX1_pairCount_4 rfl (lv_at hl 2 rfl) ?_
    refine lv_bipush (v := 8) hx hb dX1_pairCount_5 (by decide) ?_
    refine lv_icmp_ge (tgt := 24) hx hb dX1_pairCount_7 (by decide) (fun hc => ?_) (fun hc => ?_)
    · replace h := mi_pos hc h
      cases h
      exact kk _ _ _ (lv_sub hl [1] rfl) hH
    · replace h := mi_neg hc h
      refine lv_iload_n hx hb dX1_pairCount_10 rfl (lv_at hl 1 rfl) ?_
      refine lv_aload_n hx hb dX1_pairCount_11 rfl (lv_at hl 0 rfl) ?_
      refine lv_iload_n hx hb dX1_pairCount_12 rfl (lv_at hl 2 rfl) ?_
      obtain ⟨r13, h13, h⟩ := mi_b1 h
      refine fm_ci (va_runV (As := [.int x2]) (rest := [.int x1]) C (kX1_degreeOf20 l K h13 _) (cwV 1 hts gX1_pairCount_X1_degreeOf rfl rfl rfl (by decide +kernel) ⟨(Nat.le_of_ble_eq_true rfl), (Nat.le_of_ble_eq_true rfl)⟩) ⟨fm_blind, fm_recv hst hH (q := 20) (fm_inb (by decide)) rfl (fm_ob_20 _ _) rfl, fm_pre hst hA hH⟩ rfl rfl hl.1 rfl (lv_room (Nat.le_of_ble_eq_true rfl)) dX1_pairCount_13 ⟨(Nat.le_of_ble_eq_true rfl), (Nat.le_of_ble_eq_true rfl)⟩) hA hH (fun H locs hH => ?_)
      refine lv_iadd hx hb dX1_pairCount_16 ?_
      refine lv_istore_n (lv' := [(1, .int (x1 + r13)), (0, .ref (K.2.2.2 20)), (2, .int x2)]) hx hb dX1_pairCount_17 rfl hl (by decide) rfl (fun ls hl => ?_)
      refine lv_iinc (v := (x2 + 1)) (lv' := [(2, .int (x2 + 1)), (1, .int (x1 + r13)), (0, .ref (K.2.2.2 20))]) hx hb dX1_pairCount_18 hl (k := 2) rfl rfl (by decide) rfl (fun ls hl => ?_)
      refine lv_goto (tgt := 4) hx hb dX1_pairCount_21 (by decide) ?_
      exact ih _ _ _ _ h kk _ _ _ (lv_sub hl [2, 1, 0] rfl) hH
def mX1_pairCount20 (σ : fm_S) : Option Int32 :=
  mb1 (mX1_pairCount20_L4 fF (0 : Int32) (0 : Int32) σ) fun y4_1 =>
  some (y4_1 / (2 : Int32))
set_option maxHeartbeats 4000000 in
set_option maxRecDepth 100000 in
theorem kX1_pairCount20 (l : Launch) (K : fm_K) {σ : fm_S} {r : Int32} (h : mX1_pairCount20 σ = some r) : fm_CI l yX1_pairCount wsX1_pairCount rmX1_pairCount20 K [.ref (K.2.2.2 20)] σ r σ := by
  intro sz
  refine fm_start (Qc := fun sz => fm_QI K r σ sz) (cc := cX1_pairCount) (maxL := 3) (ret := (some .int)) (by decide) rfl (Nat.le_of_ble_eq_true rfl) ?_
  intro p e s m args below meth c C hr hlk hst hH ls hl
  have C : CallFix p m c cX1_pairCount 3 s args wsX1_pairCount RX1 := C
  obtain ⟨hx, hb, hml, hown, hts⟩ := id C
  have hA : ∀ q, fm_A K s.heap.size q → fm_A K s.heap.size q := fun _ h => h
  have hl : lv_has ls 3 [(0, .ref (K.2.2.2 20))] := hl
  generalize hQ : MQ below _ args s _ _ _ = Q
  rw [mX1_pairCount20] at h
  refine lv_iconst (v := 0) hx hb dX1_pairCount_0 (by decide) ?_
  refine lv_istore_n (lv' := [(1, .int (0 : Int32)), (0, .ref (K.2.2.2 20))]) hx hb dX1_pairCount_1 rfl hl (by decide) rfl (fun ls hl => ?_)
  refine lv_iconst (v := 0) hx hb dX1_pairCount_2 (by decide) ?_
  refine lv_istore_n (lv' := [(2, .int (0 : Int32)), (1, .int (0 : Int32)), (0, .ref (K.2.2.2 20))]) hx hb dX1_pairCount_3 rfl hl (by decide) rfl (fun ls hl => ?_)
  obtain ⟨y4_1, h4, h⟩ := mi_b1 h
  refine wX1_pairCount20_L4 C hst hA _ _ _ _ _ h4 (fun ls H locs hl hH => ?_) _ _ _ (lv_sub hl [2, 1, 0] rfl) hH
  refine lv_iload_n hx hb dX1_pairCount_24 rfl (lv_at hl 0 rfl) ?_
  refine lv_iconst (v := 2) hx hb dX1_pairCount_25 (by decide) ?_
  refine lv_idiv hx hb dX1_pairCount_26 (by decide) ?_
  cases h
  subst hQ
  exact fm_iret hx hb hr hlk hst hH dX1_pairCount_27
/-! RX1.groupOf(I)I -/
abbrev rmX1_groupOf20 : Room := { frames := 1, cells := 0, slots := 0, locals := 21 }
def mX1_groupOf20_L20 : Nat → Int32 → Int32 → Int32 → fm_S → Option (Int32)
  | 0, _, _, _, _ => none
  | n + 1, x2, x4, x5, σ =>
    if (8 : Int32) ≤ x5 then
      some x4
    else
      mb1 (mX1_holds x2 x5) fun r30 =>
      if r30 = 0 then
        mX1_groupOf20_L20 n x2 x4 (x5 + 1) σ
      else
        if (x5 < 0 ∨ 8 ≤ x5.toNatClampNeg) then none else
        mX1_groupOf20_L20 n x2 (x4 ||| (rI σ 21 x5)) (x5 + 1) σ
set_option maxHeartbeats 4000000 in
set_option maxRecDepth 100000 in
theorem wX1_groupOf20_L20 {p : Program} {l : Launch} {e : Env} {s : State} {m : MethodId} {args : Array Value} {below : List Frame} {meth : Method} {c : Code} {Q : State → Prop} {K : fm_K} {A : Nat → Prop} (C : CallFix p m c cX1_groupOf 6 s args wsX1_groupOf RX1) (hst : fm_st K A s s.heap) (hA : ∀ q, fm_A K s.heap.size q → A q) :
    ∀ (n : Nat) (x2 : Int32) (x4 : Int32) (x5 : Int32) (σ : fm_S) (o4 : Int32), mX1_groupOf20_L20 n x2 x4 x5 σ = some o4 → ∀ (x3 : Int32), (∀ (ls : Array Slot) (H : Heap) (locs : List Loc), lv_has ls 6 [(0, .ref (K.2.2.2 20)), (3, .int x3), (4, .int o4)] → fm_H K σ A s H locs → W p l e rmX1_groupOf20 s m args below meth c H locs 0 0 Q (F0 m 54 ls [])) → ∀ (ls : Array Slot) (H : Heap) (locs : List Loc), lv_has ls 6 [(0, .ref (K.2.2.2 20)), (2, .int x2), (3, .int x3), (4, .int x4), (5, .int x5)] → fm_H K σ A s H locs → W p l e rmX1_groupOf20 s m args below meth c H locs 0 0 Q (F0 m 20 ls []) := by
  obtain ⟨hx, hb, hml, hown, hts⟩ := id C
  intro n
  induction n with
  | zero => intro x2 x4 x5 σ o4 h; simp [mX1_groupOf20_L20] at h
  | succ n ih =>
    intro x2 x4 x5 σ o4 h x3 kk ls H locs hl hH
    rw [mX1_groupOf20_L20] at h
    refine lv_iload hx hb dX1_groupOf_20 (lv_at hl 4 rfl) ?_
    refine lv_bipush (v := 8) hx hb dX1_groupOf_22 (by decide) ?_
    refine lv_icmp_ge (tgt := 54) hx hb dX1_groupOf_24 (by decide) (fun hc => ?_) (fun hc => ?_)
    · replace h := mi_pos hc h
      cases h
      exact kk _ _ _ (lv_sub hl [0, 2, 3] rfl) hH
    · replace h := mi_neg hc h
      refine lv_iload_n hx hb dX1_groupOf_27 rfl (lv_at hl 1 rfl) ?_
      refine lv_iload hx hb dX1_groupOf_28 (lv_at hl 4 rfl) ?_
      obtain ⟨r30, h30, h⟩ := mi_b1 h
      refine fm_ci (va_runS (As := [.int x2, .int x5]) (rest := []) C (kX1_holds l K h30 _) (va_cwS 2 hts gX1_groupOf_X1_holds rfl rfl rfl (by decide +kernel) ⟨(Nat.le_of_ble_eq_true rfl), (Nat.le_of_ble_eq_true rfl)⟩) ⟨fm_blind, fm_pre hst hA hH⟩ rfl rfl hl.1 rfl (lv_room (Nat.le_of_ble_eq_true rfl)) dX1_groupOf_30 ⟨(Nat.le_of_ble_eq_true rfl), (Nat.le_of_ble_eq_true rfl)⟩) hA hH (fun H locs hH => ?_)
      refine lv_if_eq (tgt := 48) hx hb dX1_groupOf_33 (by decide) (fun hc => ?_) (fun hc => ?_)
      · replace h := mi_pos hc h
        refine lv_iinc (v := (x5 + 1)) (lv' := [(5, .int (x5 + 1)), (0, .ref (K.2.2.2 20)), (2, .int x2), (3, .int x3), (4, .int x4)]) hx hb dX1_groupOf_48 hl (k := 4) rfl rfl (by decide) rfl (fun ls hl => ?_)
        refine lv_goto (tgt := 20) hx hb dX1_groupOf_51 (by decide) ?_
        exact ih _ _ _ _ _ h _ kk _ _ _ (lv_sub hl [1, 2, 3, 4, 0] rfl) hH
      · replace h := mi_neg hc h
        refine lv_iload hx hb dX1_groupOf_36 (lv_at hl 3 rfl) ?_
        refine lv_aload_n hx hb dX1_groupOf_38 rfl (lv_at hl 0 rfl) ?_
        refine fm_getf (T := TX1) (N := 1) hx hb hts (fun _ h => List.mem_cons_of_mem _ (List.mem_append_right _ h)) hown hst.1 hH 20 (fm_inb (by decide)) rfl (fm_ob_20 _ _) rfl 0 (by decide) (List.mem_of_getElem? (i := 1) rfl) rfl rfl dX1_groupOf_39 ?_
        refine lv_iload hx hb dX1_groupOf_42 (lv_at hl 4 rfl) ?_
        obtain ⟨hi1, h⟩ := mi_chk h
        refine fm_ild hx hb hst.1 hH 21 (fm_inb (by decide)) rfl rfl hi1 dX1_groupOf_44 ?_
        refine lv_ior hx hb dX1_groupOf_45 ?_
        refine lv_istore (lv' := [(4, .int (x4 ||| (rI σ 21 x5))), (0, .ref (K.2.2.2 20)), (2, .int x2), (3, .int x3), (5, .int x5)]) hx hb dX1_groupOf_46 hl (by decide) rfl (fun ls hl => ?_)
        refine lv_iinc (v := (x5 + 1)) (lv' := [(5, .int (x5 + 1)), (4, .int (x4 ||| (rI σ 21 x5))), (0, .ref (K.2.2.2 20)), (2, .int x2), (3, .int x3)]) hx hb dX1_groupOf_48 hl (k := 4) rfl rfl (by decide) rfl (fun ls hl => ?_)
        refine lv_goto (tgt := 20) hx hb dX1_groupOf_51 (by decide) ?_
        exact ih _ _ _ _ _ h _ kk _ _ _ (lv_sub hl [2, 3, 4, 1, 0] rfl) hH
def mX1_groupOf20_L8 : Nat → Int32 → Int32 → fm_S → Option (Int32)
  | 0, _, _, _ => none
  | n + 1, x2, x3, σ =>
    if (8 : Int32) ≤ x3 then
      some x2
    else
      mb1 (mX1_groupOf20_L20 fF x2 x2 (0 : Int32) σ) fun y20_4 =>
      mX1_groupOf20_L8 n y20_4 (x3 + 1) σ
set_option maxHeartbeats 4000000 in
set_option maxRecDepth 100000 in
theorem wX1_groupOf20_L8 {p : Program} {l : Launch} {e : Env} {s : State} {m : MethodId} {args : Array Value} {below : List Frame} {meth : Method} {c : Code} {Q : State → Prop} {K : fm_K} {A : Nat → Prop} (C : CallFix p m c cX1_groupOf 6 s args wsX1_groupOf RX1) (hst : fm_st K A s s.heap) (hA : ∀ q, fm_A K s.heap.size q → A q) :
    ∀ (n : Nat) (x2 : Int32) (x3 : Int32) (σ : fm_S) (o2 : Int32), mX1_groupOf20_L8 n x2 x3 σ = some o2 → (∀ (ls : Array Slot) (H : Heap) (locs : List Loc), lv_has ls 6 [(2, .int o2)] → fm_H K σ A s H locs → W p l e rmX1_groupOf20 s m args below meth c H locs 0 0 Q (F0 m 63 ls [])) → ∀ (ls : Array Slot) (H : Heap) (locs : List Loc), lv_has ls 6 [(0, .ref (K.2.2.2 20)), (2, .int x2), (3, .int x3)] → fm_H K σ A s H locs → W p l e rmX1_groupOf20 s m args below meth c H locs 0 0 Q (F0 m 8 ls []) := by
  obtain ⟨hx, hb, hml, hown, hts⟩ := id C
  intro n
  induction n with
  | zero => intro x2 x3 σ o2 h; simp [mX1_groupOf20_L8] at h
  | succ n ih =>
    intro x2 x3 σ o2 h kk ls H locs hl hH
    rw [mX1_groupOf20_L8] at h
    refine lv_iload_n hx hb dX1_groupOf_8 rfl (lv_at hl 2 rfl) ?_
    refine lv_bipush (v := 8) hx hb dX1_groupOf_9 (by decide) ?_
    refine lv_icmp_ge (tgt := 63) hx hb dX1_groupOf_11 (by decide) (fun hc => ?_) (fun hc => ?_)
    · replace h := mi_pos hc h
      cases h
      exact kk _ _ _ (lv_sub hl [1] rfl) hH
    · replace h := mi_neg hc h
      refine lv_iload_n hx hb dX1_groupOf_14 rfl (lv_at hl 1 rfl) ?_
      refine lv_istore (lv' := [(4, .int x2), (0, .ref (K.2.2.2 20)), (2, .int x2), (3, .int x3)]) hx hb dX1_groupOf_15 hl (by decide) rfl (fun ls hl => ?_)
      refine lv_iconst (v := 0) hx hb dX1_groupOf_17 (by decide) ?_
      refine lv_istore (lv' := [(5, .int (0 : Int32)), (4, .int x2), (0, .ref (K.2.2.2 20)), (2, .int x2), (3, .int x3)]) hx hb dX1_groupOf_18 hl (by decide) rfl (fun ls hl => ?_)
      obtain ⟨y20_4, h20, h⟩ := mi_b1 h
      refine wX1_groupOf20_L20 C hst hA _ _ _ _ _ _ h20 _ (fun ls H locs hl hH => ?_) _ _ _ (lv_sub hl [2, 3, 4, 1, 0] rfl) hH
      refine lv_iload hx hb dX1_groupOf_54 (lv_at hl 2 rfl) ?_
      refine lv_istore_n (lv' := [(2, .int y20_4), (0, .ref (K.2.2.2 20)), (3, .int x3), (4, .int y20_4)]) hx hb dX1_groupOf_56 rfl hl (by decide) rfl (fun ls hl => ?_)
      refine lv_iinc (v := (x3 + 1)) (lv' := [(3, .int (x3 + 1)), (2, .int y20_4), (0, .ref (K.2.2.2 20)), (4, .int y20_4)]) hx hb dX1_groupOf_57 hl (k := 2) rfl rfl (by decide) rfl (fun ls hl => ?_)
      refine lv_goto (tgt := 8) hx hb dX1_groupOf_60 (by decide) ?_
      exact ih _ _ _ _ h kk _ _ _ (lv_sub hl [2, 1, 0] rfl) hH
def mX1_groupOf20 (x1 : Int32) (σ : fm_S) : Option Int32 :=
  mb1 (mX1_with (0 : Int32) x1) fun r2 =>
  mb1 (mX1_groupOf20_L8 fF r2 (1 : Int32) σ) fun y8_2 =>
  some y8_2
set_option maxHeartbeats 4000000 in
set_option maxRecDepth 100000 in
theorem kX1_groupOf20 (l : Launch) (K : fm_K) {x1 : Int32} {σ : fm_S} {r : Int32} (h : mX1_groupOf20 x1 σ = some r) : fm_CI l yX1_groupOf wsX1_groupOf rmX1_groupOf20 K [.ref (K.2.2.2 20), .int x1] σ r σ := by
  intro sz
  refine fm_start (Qc := fun sz => fm_QI K r σ sz) (cc := cX1_groupOf) (maxL := 6) (ret := (some .int)) (by decide) rfl (Nat.le_of_ble_eq_true rfl) ?_
  intro p e s m args below meth c C hr hlk hst hH ls hl
  have C : CallFix p m c cX1_groupOf 6 s args wsX1_groupOf RX1 := C
  obtain ⟨hx, hb, hml, hown, hts⟩ := id C
  have hA : ∀ q, fm_A K s.heap.size q → fm_A K s.heap.size q := fun _ h => h
  have hl : lv_has ls 6 [(0, .ref (K.2.2.2 20)), (1, .int x1)] := hl
  generalize hQ : MQ below _ args s _ _ _ = Q
  rw [mX1_groupOf20] at h
  refine lv_iconst (v := 0) hx hb dX1_groupOf_0 (by decide) ?_
  refine lv_iload_n hx hb dX1_groupOf_1 rfl (lv_at hl 1 rfl) ?_
  obtain ⟨r2, h2, h⟩ := mi_b1 h
  refine fm_ci (va_runS (As := [.int (0 : Int32), .int x1]) (rest := []) C (kX1_with l K h2 _) (va_cwS 2 hts gX1_groupOf_X1_with rfl rfl rfl (by decide +kernel) ⟨(Nat.le_of_ble_eq_true rfl), (Nat.le_of_ble_eq_true rfl)⟩) ⟨fm_blind, fm_pre hst hA hH⟩ rfl rfl hl.1 rfl (lv_room (Nat.le_of_ble_eq_true rfl)) dX1_groupOf_2 ⟨(Nat.le_of_ble_eq_true rfl), (Nat.le_of_ble_eq_true rfl)⟩) hA hH (fun H locs hH => ?_)
  refine lv_istore_n (lv' := [(2, .int r2), (0, .ref (K.2.2.2 20)), (1, .int x1)]) hx hb dX1_groupOf_5 rfl hl (by decide) rfl (fun ls hl => ?_)
  refine lv_iconst (v := 1) hx hb dX1_groupOf_6 (by decide) ?_
  refine lv_istore_n (lv' := [(3, .int (1 : Int32)), (2, .int r2), (0, .ref (K.2.2.2 20)), (1, .int x1)]) hx hb dX1_groupOf_7 rfl hl (by decide) rfl (fun ls hl => ?_)
  obtain ⟨y8_2, h8, h⟩ := mi_b1 h
  refine wX1_groupOf20_L8 C hst hA _ _ _ _ _ h8 (fun ls H locs hl hH => ?_) _ _ _ (lv_sub hl [2, 1, 0] rfl) hH
  refine lv_iload_n hx hb dX1_groupOf_63 rfl (lv_at hl 0 rfl) ?_
  cases h
  subst hQ
  exact fm_iret hx hb hr hlk hst hH dX1_groupOf_64
