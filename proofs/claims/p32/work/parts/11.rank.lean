/-! RX0.leavesFree(I)Z -/
abbrev rmX0_leavesFree : Room := { frames := 1, cells := 0, slots := 0, locals := 20 }
def mX0_leavesFree_L2 : Nat → Int32 → Int32 → fm_S → Option (Except Int32 (Unit))
  | 0, _, _, _ => none
  | n + 1, x1, x2, σ =>
    if (256 : Int32) ≤ x2 then
      some (.ok ())
    else
      mb1 (show Option (Int32) from
        if (x2 &&& x1) = x1 then
          some ((1 : Int32))
        else
          some ((0 : Int32))) fun v1_0 =>
      if v1_0 = 0 then
        mX0_leavesFree_L2 n x1 (x2 + 1) σ
      else
        if (x2 < 0 ∨ 256 ≤ x2.toNatClampNeg) then none else
        mb1 (mJ6_bitCount_0f7a4 x2) fun r34 =>
        if (rI σ 29 x2) < (((2 : Int32) * r34) - (3 : Int32)) then
          mX0_leavesFree_L2 n x1 (x2 + 1) σ
        else
          some (.error (0 : Int32))
set_option maxHeartbeats 4000000 in
set_option maxRecDepth 100000 in
theorem wX0_leavesFree_L2 {p : Program} {l : Launch} {e : Env} {s : State} {m : MethodId} {args : Array Value} {below : List Frame} {meth : Method} {c : Code} {Q : State → Prop} {K : fm_K} {A : Nat → Prop} (C : CallFix p m c cX0_leavesFree 4 s args wsX0_leavesFree RX0) (hst : fm_st K A s s.heap) (hA : ∀ q, fm_A K s.heap.size q → A q) :
    ∀ (n : Nat) (x1 : Int32) (x2 : Int32) (σ : fm_S) (x : Except Int32 (Unit)), mX0_leavesFree_L2 n x1 x2 σ = some x → (x = .ok () → ∀ (ls : Array Slot) (H : Heap) (locs : List Loc), lv_has ls 4 [] → fm_H K σ A s H locs → W p l e rmX0_leavesFree s m args below meth c H locs 0 0 Q (F0 m 51 ls [])) → (∀ (ve : Int32), x = .error ve → ∀ (pcR : Nat) (ls : Array Slot) (H : Heap) (locs : List Loc), decode cX0_leavesFree pcR = .ok (.ireturn, 1) → vp_nar .boolean ve = ve → fm_H K σ A s H locs → W p l e rmX0_leavesFree s m args below meth c H locs 0 0 Q (F0 m pcR ls [.int ve])) → ∀ (ls : Array Slot) (H : Heap) (locs : List Loc), lv_has ls 4 [(0, .ref (K.2.2.2 28)), (1, .int x1), (2, .int x2)] → fm_H K σ A s H locs → W p l e rmX0_leavesFree s m args below meth c H locs 0 0 Q (F0 m 2 ls []) := by
  obtain ⟨hx, hb, hml, hown, hts⟩ := id C
  intro n
  induction n with
  | zero => intro x1 x2 σ x h; simp [mX0_leavesFree_L2] at h
  | succ n ih =>
    intro x1 x2 σ x h kk kr ls H locs hl hH
    rw [mX0_leavesFree_L2] at h
    refine lv_iload_n hx hb dX0_leavesFree_2 rfl (lv_at hl 2 rfl) ?_
    refine lv_sipush (v := 256) hx hb dX0_leavesFree_3 (by decide) ?_
    refine lv_icmp_ge (tgt := 51) hx hb dX0_leavesFree_6 (by decide) (fun hc => ?_) (fun hc => ?_)
    · replace h := mi_pos hc h
      cases h
      exact kk rfl _ _ _ (lv_sub hl [] rfl) hH
    · replace h := mi_neg hc h
      refine lv_iload_n hx hb dX0_leavesFree_9 rfl (lv_at hl 2 rfl) ?_
      refine lv_iload_n hx hb dX0_leavesFree_10 rfl (lv_at hl 1 rfl) ?_
      refine lv_iand hx hb dX0_leavesFree_11 ?_
      refine lv_iload_n hx hb dX0_leavesFree_12 rfl (lv_at hl 1 rfl) ?_
      obtain ⟨v1_0, hd, h2⟩ := mi_b1 h
      have kj : ∀ (ls : Array Slot) (H : Heap) (locs : List Loc), lv_has ls 4 [(0, .ref (K.2.2.2 28)), (1, .int x1), (2, .int x2)] → fm_H K σ A s H locs → W p l e rmX0_leavesFree s m args below meth c H locs 0 0 Q (F0 m 21 ls [.int v1_0]) := by
        clear h hd
        intro ls H locs hl hH
        have h := h2
        clear h2
        refine lv_istore_n (lv' := [(3, .int v1_0), (0, .ref (K.2.2.2 28)), (1, .int x1), (2, .int x2)]) hx hb dX0_leavesFree_21 rfl hl (by decide) rfl (fun ls hl => ?_)
        refine lv_iload_n hx hb dX0_leavesFree_22 rfl (lv_at hl 0 rfl) ?_
        refine lv_if_eq (tgt := 45) hx hb dX0_leavesFree_23 (by decide) (fun hc => ?_) (fun hc => ?_)
        · replace h := mi_pos hc h
          refine lv_iinc (v := (x2 + 1)) (lv' := [(2, .int (x2 + 1)), (3, .int v1_0), (0, .ref (K.2.2.2 28)), (1, .int x1)]) hx hb dX0_leavesFree_45 hl (k := 3) rfl rfl (by decide) rfl (fun ls hl => ?_)
          refine lv_goto (tgt := 2) hx hb dX0_leavesFree_48 (by decide) ?_
          exact ih _ _ _ _ h kk kr _ _ _ (lv_sub hl [2, 3, 0] rfl) hH
        · replace h := mi_neg hc h
          refine lv_aload_n hx hb dX0_leavesFree_26 rfl (lv_at hl 1 rfl) ?_
          refine fm_getf (T := TX0) (N := 1) hx hb hts (fun _ h => List.mem_cons_of_mem _ (List.mem_append_right _ h)) hown hst.1 hH 28 (fm_inb (by decide)) rfl (fm_ob_28 _ _) rfl 0 (by decide) (List.mem_of_getElem? (i := 1) rfl) rfl rfl dX0_leavesFree_27 ?_
          refine lv_iload_n hx hb dX0_leavesFree_30 rfl (lv_at hl 3 rfl) ?_
          obtain ⟨hi2, h⟩ := mi_chk h
          refine fm_ild hx hb hst.1 hH 29 (fm_inb (by decide)) rfl rfl hi2 dX0_leavesFree_31 ?_
          refine lv_iconst (v := 2) hx hb dX0_leavesFree_32 (by decide) ?_
          refine lv_iload_n hx hb dX0_leavesFree_33 rfl (lv_at hl 3 rfl) ?_
          obtain ⟨r34, h34, h⟩ := mi_b1 h
          refine fm_ci (va_runS (As := [.int x2]) (rest := [.int (2 : Int32), .int (rI σ 29 x2)]) C (kJ6_bitCount_0f7a4 l K h34 _) (va_cwS 1 hts gX0_leavesFree_J6_bitCount_0f7a4 rfl rfl rfl (by decide +kernel) ⟨(Nat.le_of_ble_eq_true rfl), (Nat.le_of_ble_eq_true rfl)⟩) ⟨fm_blind, fm_pre hst hA hH⟩ rfl rfl hl.1 rfl (lv_room (Nat.le_of_ble_eq_true rfl)) dX0_leavesFree_34 ⟨(Nat.le_of_ble_eq_true rfl), (Nat.le_of_ble_eq_true rfl)⟩) hA hH (fun H locs hH => ?_)
          refine lv_imul hx hb dX0_leavesFree_37 ?_
          refine lv_iconst (v := 3) hx hb dX0_leavesFree_38 (by decide) ?_
          refine lv_isub hx hb dX0_leavesFree_39 ?_
          refine lv_icmp_lt (tgt := 45) hx hb dX0_leavesFree_40 (by decide) (fun hc => ?_) (fun hc => ?_)
          · replace h := mi_pos hc h
            refine lv_iinc (v := (x2 + 1)) (lv' := [(2, .int (x2 + 1)), (3, .int v1_0), (0, .ref (K.2.2.2 28)), (1, .int x1)]) hx hb dX0_leavesFree_45 hl (k := 3) rfl rfl (by decide) rfl (fun ls hl => ?_)
            refine lv_goto (tgt := 2) hx hb dX0_leavesFree_48 (by decide) ?_
            exact ih _ _ _ _ h kk kr _ _ _ (lv_sub hl [2, 3, 0] rfl) hH
          · replace h := mi_neg hc h
            refine lv_iconst (v := 0) hx hb dX0_leavesFree_43 (by decide) ?_
            cases h
            exact kr _ rfl _ _ _ _ dX0_leavesFree_44 rfl hH
      replace h := hd
      clear h2 hd
      refine lv_icmp_ne (tgt := 20) hx hb dX0_leavesFree_13 (by decide) (fun hc => ?_) (fun hc => ?_)
      · replace h := mi_neg hc h
        refine lv_iconst (v := 0) hx hb dX0_leavesFree_20 (by decide) ?_
        cases h
        exact kj _ _ _ (lv_sub hl [0, 1, 2] rfl) hH
      · replace h := mi_pos hc h
        refine lv_iconst (v := 1) hx hb dX0_leavesFree_16 (by decide) ?_
        refine lv_goto (tgt := 21) hx hb dX0_leavesFree_17 (by decide) ?_
        cases h
        exact kj _ _ _ (lv_sub hl [0, 1, 2] rfl) hH
def mX0_leavesFree (x1 : Int32) (σ : fm_S) : Option Int32 :=
  ml1 (mX0_leavesFree_L2 fF x1 x1 σ) (fun _ =>
    some (1 : Int32)) (fun e => some e)
set_option maxHeartbeats 4000000 in
set_option maxRecDepth 100000 in
theorem kX0_leavesFree (l : Launch) (K : fm_K) {x1 : Int32} {σ : fm_S} {r : Int32} (h : mX0_leavesFree x1 σ = some r) : fm_CI l yX0_leavesFree wsX0_leavesFree rmX0_leavesFree K [.ref (K.2.2.2 28), .int x1] σ r σ := by
  intro sz
  refine fm_start (Qc := fun sz => fm_QI K r σ sz) (cc := cX0_leavesFree) (maxL := 4) (ret := (some .boolean)) (by decide) rfl (Nat.le_of_ble_eq_true rfl) ?_
  intro p e s m args below meth c C hr hlk hst hH ls hl
  have C : CallFix p m c cX0_leavesFree 4 s args wsX0_leavesFree RX0 := C
  obtain ⟨hx, hb, hml, hown, hts⟩ := id C
  have hA : ∀ q, fm_A K s.heap.size q → fm_A K s.heap.size q := fun _ h => h
  have hl : lv_has ls 4 [(0, .ref (K.2.2.2 28)), (1, .int x1)] := hl
  generalize hQ : MQ below _ args s _ _ _ = Q
  rw [mX0_leavesFree] at h
  refine lv_iload_n hx hb dX0_leavesFree_0 rfl (lv_at hl 1 rfl) ?_
  refine lv_istore_n (lv' := [(2, .int x1), (0, .ref (K.2.2.2 28)), (1, .int x1)]) hx hb dX0_leavesFree_1 rfl hl (by decide) rfl (fun ls hl => ?_)
  obtain ⟨x2_, h2, hok, her⟩ := mi_l1 h
  refine wX0_leavesFree_L2 C hst hA _ _ _ _ _ h2 (fun hx1 ls H locs hl hH => ?_) (fun ve hx1 pcR ls H locs hdg hz hH => ?_) _ _ _ (lv_sub hl [1, 2, 0] rfl) hH
  · replace h := hok _ hx1
    clear hok her
    refine lv_iconst (v := 1) hx hb dX0_leavesFree_51 (by decide) ?_
    cases h
    subst hQ
    exact fm_zret hx hb hr rfl hlk hst hH dX0_leavesFree_52
  · replace h := her _ hx1
    cases h
    subst hQ
    exact fm_zret hx hb hr hz hlk hst hH hdg
/-! RX0.keepLink(I)V -/
abbrev rmX0_keepLink : Room := { frames := 0, cells := 0, slots := 0, locals := 0 }
def mX0_keepLink_L2 : Nat → Int32 → Int32 → fm_S → Option (fm_S)
  | 0, _, _, _ => none
  | n + 1, x1, x2, σ =>
    if (256 : Int32) ≤ x2 then
      some σ
    else
      if (x2 &&& x1) = x1 then
        if (x2 < 0 ∨ 256 ≤ x2.toNatClampNeg) then none else
        mX0_keepLink_L2 n x1 (x2 + 1) (sI σ 29 x2 ((rI σ 29 x2) + (1 : Int32)))
      else
        mX0_keepLink_L2 n x1 (x2 + 1) σ
set_option maxHeartbeats 4000000 in
set_option maxRecDepth 100000 in
theorem wX0_keepLink_L2 {p : Program} {l : Launch} {e : Env} {s : State} {m : MethodId} {args : Array Value} {below : List Frame} {meth : Method} {c : Code} {Q : State → Prop} {K : fm_K} {A : Nat → Prop} (C : CallFix p m c cX0_keepLink 3 s args wsX0_keepLink RX0) (hst : fm_st K A s s.heap) (hA : ∀ q, fm_A K s.heap.size q → A q) :
    ∀ (n : Nat) (x1 : Int32) (x2 : Int32) (σ : fm_S) (σo : fm_S), mX0_keepLink_L2 n x1 x2 σ = some σo → (∀ (ls : Array Slot) (H : Heap) (locs : List Loc), lv_has ls 3 [] → fm_H K σo A s H locs → W p l e rmX0_keepLink s m args below meth c H locs 0 0 Q (F0 m 32 ls [])) → ∀ (ls : Array Slot) (H : Heap) (locs : List Loc), lv_has ls 3 [(0, .ref (K.2.2.2 28)), (1, .int x1), (2, .int x2)] → fm_H K σ A s H locs → W p l e rmX0_keepLink s m args below meth c H locs 0 0 Q (F0 m 2 ls []) := by
  obtain ⟨hx, hb, hml, hown, hts⟩ := id C
  intro n
  induction n with
  | zero => intro x1 x2 σ σo h; simp [mX0_keepLink_L2] at h
  | succ n ih =>
    intro x1 x2 σ σo h kk ls H locs hl hH
    rw [mX0_keepLink_L2] at h
    refine lv_iload_n hx hb dX0_keepLink_2 rfl (lv_at hl 2 rfl) ?_
    refine lv_sipush (v := 256) hx hb dX0_keepLink_3 (by decide) ?_
    refine lv_icmp_ge (tgt := 32) hx hb dX0_keepLink_6 (by decide) (fun hc => ?_) (fun hc => ?_)
    · replace h := mi_pos hc h
      cases h
      exact kk _ _ _ (lv_sub hl [] rfl) hH
    · replace h := mi_neg hc h
      refine lv_iload_n hx hb dX0_keepLink_9 rfl (lv_at hl 2 rfl) ?_
      refine lv_iload_n hx hb dX0_keepLink_10 rfl (lv_at hl 1 rfl) ?_
      refine lv_iand hx hb dX0_keepLink_11 ?_
      refine lv_iload_n hx hb dX0_keepLink_12 rfl (lv_at hl 1 rfl) ?_
      refine lv_icmp_ne (tgt := 26) hx hb dX0_keepLink_13 (by decide) (fun hc => ?_) (fun hc => ?_)
      · replace h := mi_neg hc h
        refine lv_iinc (v := (x2 + 1)) (lv' := [(2, .int (x2 + 1)), (0, .ref (K.2.2.2 28)), (1, .int x1)]) hx hb dX0_keepLink_26 hl (k := 2) rfl rfl (by decide) rfl (fun ls hl => ?_)
        refine lv_goto (tgt := 2) hx hb dX0_keepLink_29 (by decide) ?_
        exact ih _ _ _ _ h kk _ _ _ (lv_sub hl [1, 2, 0] rfl) hH
      · replace h := mi_pos hc h
        refine lv_aload_n hx hb dX0_keepLink_16 rfl (lv_at hl 0 rfl) ?_
        refine fm_getf (T := TX0) (N := 1) hx hb hts (fun _ h => List.mem_cons_of_mem _ (List.mem_append_right _ h)) hown hst.1 hH 28 (fm_inb (by decide)) rfl (fm_ob_28 _ _) rfl 0 (by decide) (List.mem_of_getElem? (i := 1) rfl) rfl rfl dX0_keepLink_17 ?_
        refine lv_iload_n hx hb dX0_keepLink_20 rfl (lv_at hl 2 rfl) ?_
        refine lv_dup2_11 hx hb dX0_keepLink_21 rfl rfl ?_
        obtain ⟨hi1, h⟩ := mi_chk h
        refine fm_ild hx hb hst.1 hH 29 (fm_inb (by decide)) rfl rfl hi1 dX0_keepLink_22 ?_
        refine lv_iconst (v := 1) hx hb dX0_keepLink_23 (by decide) ?_
        refine lv_iadd hx hb dX0_keepLink_24 ?_
        refine fm_ist hx hb hst.1 hH 29 (fm_inb (by decide)) rfl rfl hi1 dX0_keepLink_25 (fun H locs hH => ?_)
        refine lv_iinc (v := (x2 + 1)) (lv' := [(2, .int (x2 + 1)), (0, .ref (K.2.2.2 28)), (1, .int x1)]) hx hb dX0_keepLink_26 hl (k := 2) rfl rfl (by decide) rfl (fun ls hl => ?_)
        refine lv_goto (tgt := 2) hx hb dX0_keepLink_29 (by decide) ?_
        exact ih _ _ _ _ h kk _ _ _ (lv_sub hl [1, 2, 0] rfl) hH
def mX0_keepLink (x1 : Int32) (σ : fm_S) : Option fm_S :=
  mb1 (mX0_keepLink_L2 fF x1 x1 σ) fun σ2 =>
  some σ2
set_option maxHeartbeats 4000000 in
set_option maxRecDepth 100000 in
theorem kX0_keepLink (l : Launch) (K : fm_K) {x1 : Int32} {σ : fm_S} {σ' : fm_S} (h : mX0_keepLink x1 σ = some σ') : fm_CV l yX0_keepLink wsX0_keepLink rmX0_keepLink K [.ref (K.2.2.2 28), .int x1] σ σ' := by
  intro sz
  refine fm_start (Qc := fun sz => fm_QV K σ' sz) (cc := cX0_keepLink) (maxL := 3) (ret := none) (by decide) rfl (Nat.le_of_ble_eq_true rfl) ?_
  intro p e s m args below meth c C hr hlk hst hH ls hl
  have C : CallFix p m c cX0_keepLink 3 s args wsX0_keepLink RX0 := C
  obtain ⟨hx, hb, hml, hown, hts⟩ := id C
  have hA : ∀ q, fm_A K s.heap.size q → fm_A K s.heap.size q := fun _ h => h
  have hl : lv_has ls 3 [(0, .ref (K.2.2.2 28)), (1, .int x1)] := hl
  generalize hQ : MQ below _ args s _ _ _ = Q
  rw [mX0_keepLink] at h
  refine lv_iload_n hx hb dX0_keepLink_0 rfl (lv_at hl 1 rfl) ?_
  refine lv_istore_n (lv' := [(2, .int x1), (0, .ref (K.2.2.2 28)), (1, .int x1)]) hx hb dX0_keepLink_1 rfl hl (by decide) rfl (fun ls hl => ?_)
  obtain ⟨σ2, h2, h⟩ := mi_b1 h
  refine wX0_keepLink_L2 C hst hA _ _ _ _ _ h2 (fun ls H locs hl hH => ?_) _ _ _ (lv_sub hl [1, 2, 0] rfl) hH
  cases h
  subst hQ
  exact fm_vret hx hb hr hlk hst hH dX0_keepLink_32
/-! RX0.rankOf(LFormationist$Net;)I -/
abbrev rmX0_rankOf : Room := { frames := 2, cells := 0, slots := 0, locals := 43 }
def mX0_rankOf_L21 : Nat → Int32 → Int32 → Int32 → fm_S → Option (Int32 × fm_S)
  | 0, _, _, _, _ => none
  | n + 1, x2, x3, x4, σ =>
    if x3 ≤ x4 then
      some (x2, σ)
    else
      mb1 (mX1_with (0 : Int32) x3) fun r29 =>
      mb1 (mX1_with r29 x4) fun r34 =>
      mb1 (mX1_joins20 x3 x4 σ) fun r43 =>
      if r43 = 0 then
        mX0_rankOf_L21 n x2 x3 (x4 + 1) σ
      else
        mb1 (mX0_leavesFree r34 σ) fun r52 =>
        if r52 = 0 then
          mX0_rankOf_L21 n x2 x3 (x4 + 1) σ
        else
          mb1 (mX0_keepLink r34 σ) fun σ61 =>
          mX0_rankOf_L21 n (x2 + 1) x3 (x4 + 1) σ61
set_option maxHeartbeats 4000000 in
set_option maxRecDepth 100000 in
theorem wX0_rankOf_L21 {p : Program} {l : Launch} {e : Env} {s : State} {m : MethodId} {args : Array Value} {below : List Frame} {meth : Method} {c : Code} {Q : State → Prop} {K : fm_K} {A : Nat → Prop} (C : CallFix p m c cX0_rankOf 6 s args wsX0_rankOf RX0) (hst : fm_st K A s s.heap) (hA : ∀ q, fm_A K s.heap.size q → A q) :
    ∀ (n : Nat) (x2 : Int32) (x3 : Int32) (x4 : Int32) (σ : fm_S) (o2 : Int32) (σo : fm_S), mX0_rankOf_L21 n x2 x3 x4 σ = some (o2, σo) → (∀ (ls : Array Slot) (H : Heap) (locs : List Loc), lv_has ls 6 [(0, .ref (K.2.2.2 28)), (1, .ref (K.2.2.2 20)), (2, .int o2), (3, .int x3)] → fm_H K σo A s H locs → W p l e rmX0_rankOf s m args below meth c H locs 0 0 Q (F0 m 73 ls [])) → ∀ (ls : Array Slot) (H : Heap) (locs : List Loc), lv_has ls 6 [(0, .ref (K.2.2.2 28)), (1, .ref (K.2.2.2 20)), (2, .int x2), (3, .int x3), (4, .int x4)] → fm_H K σ A s H locs → W p l e rmX0_rankOf s m args below meth c H locs 0 0 Q (F0 m 21 ls []) := by
  obtain ⟨hx, hb, hml, hown, hts⟩ := id C
  intro n
  induction n with
  | zero => intro x2 x3 x4 σ o2 σo h; simp [mX0_rankOf_L21] at h
  | succ n ih =>
    intro x2 x3 x4 σ o2 σo h kk ls H locs hl hH
    rw [mX0_rankOf_L21] at h
    refine lv_iload hx hb dX0_rankOf_21 (lv_at hl 4 rfl) ?_
    refine lv_iload_n hx hb dX0_rankOf_23 rfl (lv_at hl 3 rfl) ?_
    refine lv_icmp_ge (tgt := 73) hx hb dX0_rankOf_24 (by decide) (fun hc => ?_) (fun hc => ?_)
    · replace h := mi_pos hc h
      cases h
      exact kk _ _ _ (lv_sub hl [0, 1, 2, 3] rfl) hH
    · replace h := mi_neg hc h
      refine lv_iconst (v := 0) hx hb dX0_rankOf_27 (by decide) ?_
      refine lv_iload_n hx hb dX0_rankOf_28 rfl (lv_at hl 3 rfl) ?_
      obtain ⟨r29, h29, h⟩ := mi_b1 h
      refine fm_ci (va_runSN (As := [.int (0 : Int32), .int x3]) (rest := []) C (kX1_with l K h29 _) ⟨va_cnB 2 hts gX0_rankOf_X1_with_n21 rfl rfl rfl (hst.2.1 (RX0, 21, yX1_with) (List.mem_of_getElem? (i := 18) rfl)) (hts (.initialized RX1) (List.mem_of_getElem? (i := 7) rfl)) (by decide +kernel) ⟨(Nat.le_of_ble_eq_true rfl), (Nat.le_of_ble_eq_true rfl)⟩, (hts (.static yX1_with) (List.mem_of_getElem? (i := 6) rfl)), trivial⟩ ⟨fm_blind, fm_pre hst hA hH⟩ rfl rfl hl.1 rfl (lv_room (Nat.le_of_ble_eq_true rfl)) dX0_rankOf_29 ⟨(Nat.le_of_ble_eq_true rfl), (Nat.le_of_ble_eq_true rfl)⟩) hA hH (fun H locs hH => ?_)
      refine lv_iload hx hb dX0_rankOf_32 (lv_at hl 4 rfl) ?_
      obtain ⟨r34, h34, h⟩ := mi_b1 h
      refine fm_ci (va_runSN (As := [.int r29, .int x4]) (rest := []) C (kX1_with l K h34 _) ⟨va_cnB 2 hts gX0_rankOf_X1_with_n21 rfl rfl rfl (hst.2.1 (RX0, 21, yX1_with) (List.mem_of_getElem? (i := 18) rfl)) (hts (.initialized RX1) (List.mem_of_getElem? (i := 7) rfl)) (by decide +kernel) ⟨(Nat.le_of_ble_eq_true rfl), (Nat.le_of_ble_eq_true rfl)⟩, (hts (.static yX1_with) (List.mem_of_getElem? (i := 6) rfl)), trivial⟩ ⟨fm_blind, fm_pre hst hA hH⟩ rfl rfl hl.1 rfl (lv_room (Nat.le_of_ble_eq_true rfl)) dX0_rankOf_34 ⟨(Nat.le_of_ble_eq_true rfl), (Nat.le_of_ble_eq_true rfl)⟩) hA hH (fun H locs hH => ?_)
      refine lv_istore (lv' := [(5, .int r34), (0, .ref (K.2.2.2 28)), (1, .ref (K.2.2.2 20)), (2, .int x2), (3, .int x3), (4, .int x4)]) hx hb dX0_rankOf_37 hl (by decide) rfl (fun ls hl => ?_)
      refine lv_aload_n hx hb dX0_rankOf_39 rfl (lv_at hl 2 rfl) ?_
      refine lv_iload_n hx hb dX0_rankOf_40 rfl (lv_at hl 4 rfl) ?_
      refine lv_iload hx hb dX0_rankOf_41 (lv_at hl 5 rfl) ?_
      obtain ⟨r43, h43, h⟩ := mi_b1 h
      refine fm_ci (va_runVN (As := [.int x3, .int x4]) (rest := []) C (kX1_joins20 l K h43 _) ⟨va_cnB 2 hts gX0_rankOf_X1_joins_n27 rfl rfl rfl (hst.2.1 (RX0, 27, yX1_joins) (List.mem_of_getElem? (i := 19) rfl)) (hts (.initialized RX1) (List.mem_of_getElem? (i := 7) rfl)) (by decide +kernel) ⟨(Nat.le_of_ble_eq_true rfl), (Nat.le_of_ble_eq_true rfl)⟩, (hts (.instanceMethod yX1_joins) (List.mem_of_getElem? (i := 9) rfl)), (hts (.selects RX1 yX1_joins yX1_joins) (List.mem_of_getElem? (i := 10) rfl))⟩ ⟨fm_blind, fm_recv hst hH (q := 20) (fm_inb (by decide)) rfl (fm_ob_20 _ _) rfl, fm_pre hst hA hH⟩ rfl rfl hl.1 rfl (lv_room (Nat.le_of_ble_eq_true rfl)) dX0_rankOf_43 ⟨(Nat.le_of_ble_eq_true rfl), (Nat.le_of_ble_eq_true rfl)⟩) hA hH (fun H locs hH => ?_)
      refine lv_if_eq (tgt := 67) hx hb dX0_rankOf_46 (by decide) (fun hc => ?_) (fun hc => ?_)
      · replace h := mi_pos hc h
        refine lv_iinc (v := (x4 + 1)) (lv' := [(4, .int (x4 + 1)), (5, .int r34), (0, .ref (K.2.2.2 28)), (1, .ref (K.2.2.2 20)), (2, .int x2), (3, .int x3)]) hx hb dX0_rankOf_67 hl (k := 5) rfl rfl (by decide) rfl (fun ls hl => ?_)
        refine lv_goto (tgt := 21) hx hb dX0_rankOf_70 (by decide) ?_
        exact ih _ _ _ _ _ _ h kk _ _ _ (lv_sub hl [2, 3, 4, 5, 0] rfl) hH
      · replace h := mi_neg hc h
        refine lv_aload_n hx hb dX0_rankOf_49 rfl (lv_at hl 1 rfl) ?_
        refine lv_iload hx hb dX0_rankOf_50 (lv_at hl 0 rfl) ?_
        obtain ⟨r52, h52, h⟩ := mi_b1 h
        refine fm_ci (va_runV (As := [.int r34]) (rest := []) C (kX0_leavesFree l K h52 _) (cwV 1 hts gX0_rankOf_X0_leavesFree rfl rfl rfl (by decide +kernel) ⟨(Nat.le_of_ble_eq_true rfl), (Nat.le_of_ble_eq_true rfl)⟩) ⟨fm_blind, fm_recv hst hH (q := 28) (fm_inb (by decide)) rfl (fm_ob_28 _ _) rfl, fm_pre hst hA hH⟩ rfl rfl hl.1 rfl (lv_room (Nat.le_of_ble_eq_true rfl)) dX0_rankOf_52 ⟨(Nat.le_of_ble_eq_true rfl), (Nat.le_of_ble_eq_true rfl)⟩) hA hH (fun H locs hH => ?_)
        refine lv_if_eq (tgt := 67) hx hb dX0_rankOf_55 (by decide) (fun hc => ?_) (fun hc => ?_)
        · replace h := mi_pos hc h
          refine lv_iinc (v := (x4 + 1)) (lv' := [(4, .int (x4 + 1)), (5, .int r34), (0, .ref (K.2.2.2 28)), (1, .ref (K.2.2.2 20)), (2, .int x2), (3, .int x3)]) hx hb dX0_rankOf_67 hl (k := 5) rfl rfl (by decide) rfl (fun ls hl => ?_)
          refine lv_goto (tgt := 21) hx hb dX0_rankOf_70 (by decide) ?_
          exact ih _ _ _ _ _ _ h kk _ _ _ (lv_sub hl [2, 3, 4, 5, 0] rfl) hH
        · replace h := mi_neg hc h
          refine lv_aload_n hx hb dX0_rankOf_58 rfl (lv_at hl 1 rfl) ?_
          refine lv_iload hx hb dX0_rankOf_59 (lv_at hl 0 rfl) ?_
          obtain ⟨σ61, h61, h⟩ := mi_b1 h
          refine fm_cv (va_runV (As := [.int r34]) (rest := []) C (kX0_keepLink l K h61 _) (cwV 1 hts gX0_rankOf_X0_keepLink rfl rfl rfl (by decide +kernel) ⟨(Nat.le_of_ble_eq_true rfl), (Nat.le_of_ble_eq_true rfl)⟩) ⟨fm_blind, fm_recv hst hH (q := 28) (fm_inb (by decide)) rfl (fm_ob_28 _ _) rfl, fm_pre hst hA hH⟩ rfl rfl hl.1 rfl (lv_room (Nat.le_of_ble_eq_true rfl)) dX0_rankOf_61 ⟨(Nat.le_of_ble_eq_true rfl), (Nat.le_of_ble_eq_true rfl)⟩) hA hH (fun H locs hH => ?_)
          refine lv_iinc (v := (x2 + 1)) (lv' := [(2, .int (x2 + 1)), (5, .int r34), (0, .ref (K.2.2.2 28)), (1, .ref (K.2.2.2 20)), (3, .int x3), (4, .int x4)]) hx hb dX0_rankOf_64 hl (k := 3) rfl rfl (by decide) rfl (fun ls hl => ?_)
          refine lv_iinc (v := (x4 + 1)) (lv' := [(4, .int (x4 + 1)), (2, .int (x2 + 1)), (5, .int r34), (0, .ref (K.2.2.2 28)), (1, .ref (K.2.2.2 20)), (3, .int x3)]) hx hb dX0_rankOf_67 hl (k := 5) rfl rfl (by decide) rfl (fun ls hl => ?_)
          refine lv_goto (tgt := 21) hx hb dX0_rankOf_70 (by decide) ?_
          exact ih _ _ _ _ _ _ h kk _ _ _ (lv_sub hl [3, 4, 1, 5, 0] rfl) hH
def mX0_rankOf_L12 : Nat → Int32 → Int32 → fm_S → Option (Int32 × fm_S)
  | 0, _, _, _ => none
  | n + 1, x2, x3, σ =>
    if (8 : Int32) ≤ x3 then
      some (x2, σ)
    else
      mb2 (mX0_rankOf_L21 fF x2 x3 (0 : Int32) σ) fun y21_2 σ21 =>
      mX0_rankOf_L12 n y21_2 (x3 + 1) σ21
set_option maxHeartbeats 4000000 in
set_option maxRecDepth 100000 in
theorem wX0_rankOf_L12 {p : Program} {l : Launch} {e : Env} {s : State} {m : MethodId} {args : Array Value} {below : List Frame} {meth : Method} {c : Code} {Q : State → Prop} {K : fm_K} {A : Nat → Prop} (C : CallFix p m c cX0_rankOf 6 s args wsX0_rankOf RX0) (hst : fm_st K A s s.heap) (hA : ∀ q, fm_A K s.heap.size q → A q) :
    ∀ (n : Nat) (x2 : Int32) (x3 : Int32) (σ : fm_S) (o2 : Int32) (σo : fm_S), mX0_rankOf_L12 n x2 x3 σ = some (o2, σo) → (∀ (ls : Array Slot) (H : Heap) (locs : List Loc), lv_has ls 6 [(2, .int o2)] → fm_H K σo A s H locs → W p l e rmX0_rankOf s m args below meth c H locs 0 0 Q (F0 m 79 ls [])) → ∀ (ls : Array Slot) (H : Heap) (locs : List Loc), lv_has ls 6 [(0, .ref (K.2.2.2 28)), (1, .ref (K.2.2.2 20)), (2, .int x2), (3, .int x3)] → fm_H K σ A s H locs → W p l e rmX0_rankOf s m args below meth c H locs 0 0 Q (F0 m 12 ls []) := by
  obtain ⟨hx, hb, hml, hown, hts⟩ := id C
  intro n
  induction n with
  | zero => intro x2 x3 σ o2 σo h; simp [mX0_rankOf_L12] at h
  | succ n ih =>
    intro x2 x3 σ o2 σo h kk ls H locs hl hH
    rw [mX0_rankOf_L12] at h
    refine lv_iload_n hx hb dX0_rankOf_12 rfl (lv_at hl 3 rfl) ?_
    refine lv_bipush (v := 8) hx hb dX0_rankOf_13 (by decide) ?_
    refine lv_icmp_ge (tgt := 79) hx hb dX0_rankOf_15 (by decide) (fun hc => ?_) (fun hc => ?_)
    · replace h := mi_pos hc h
      cases h
      exact kk _ _ _ (lv_sub hl [2] rfl) hH
    · replace h := mi_neg hc h
      refine lv_iconst (v := 0) hx hb dX0_rankOf_18 (by decide) ?_
      refine lv_istore (lv' := [(4, .int (0 : Int32)), (0, .ref (K.2.2.2 28)), (1, .ref (K.2.2.2 20)), (2, .int x2), (3, .int x3)]) hx hb dX0_rankOf_19 hl (by decide) rfl (fun ls hl => ?_)
      obtain ⟨y21_2, σ21, h21, h⟩ := mi_b2 h
      refine wX0_rankOf_L21 C hst hA _ _ _ _ _ _ _ h21 (fun ls H locs hl hH => ?_) _ _ _ (lv_sub hl [1, 2, 3, 4, 0] rfl) hH
      refine lv_iinc (v := (x3 + 1)) (lv' := [(3, .int (x3 + 1)), (0, .ref (K.2.2.2 28)), (1, .ref (K.2.2.2 20)), (2, .int y21_2)]) hx hb dX0_rankOf_73 hl (k := 3) rfl rfl (by decide) rfl (fun ls hl => ?_)
      refine lv_goto (tgt := 12) hx hb dX0_rankOf_76 (by decide) ?_
      exact ih _ _ _ _ _ h kk _ _ _ (lv_sub hl [1, 2, 3, 0] rfl) hH
def mX0_rankOf (σ : fm_S) : Option (Int32 × fm_S) :=
  mb1 (mJ7_fill_53178 29 (0 : Int32) σ) fun σ5 =>
  mb2 (mX0_rankOf_L12 fF (0 : Int32) (0 : Int32) σ5) fun y12_2 σ12 =>
  some (y12_2, σ12)
set_option maxHeartbeats 4000000 in
set_option maxRecDepth 100000 in
theorem kX0_rankOf (l : Launch) (K : fm_K) {σ : fm_S} {r : Int32} {σ' : fm_S} (h : mX0_rankOf σ = some (r, σ')) : fm_CI l yX0_rankOf wsX0_rankOf rmX0_rankOf K [.ref (K.2.2.2 28), .ref (K.2.2.2 20)] σ r σ' := by
  intro sz
  refine fm_start (Qc := fun sz => fm_QI K r σ' sz) (cc := cX0_rankOf) (maxL := 6) (ret := (some .int)) (by decide) rfl (Nat.le_of_ble_eq_true rfl) ?_
  intro p e s m args below meth c C hr hlk hst hH ls hl
  have C : CallFix p m c cX0_rankOf 6 s args wsX0_rankOf RX0 := C
  obtain ⟨hx, hb, hml, hown, hts⟩ := id C
  have hA : ∀ q, fm_A K s.heap.size q → fm_A K s.heap.size q := fun _ h => h
  have hl : lv_has ls 6 [(0, .ref (K.2.2.2 28)), (1, .ref (K.2.2.2 20))] := hl
  generalize hQ : MQ below _ args s _ _ _ = Q
  rw [mX0_rankOf] at h
  refine lv_aload_n hx hb dX0_rankOf_0 rfl (lv_at hl 0 rfl) ?_
  refine fm_getf (T := TX0) (N := 1) hx hb hts (fun _ h => List.mem_cons_of_mem _ (List.mem_append_left _ (List.mem_append_right _ h))) hown hst.1 hH 28 (fm_inb (by decide)) rfl (fm_ob_28 _ _) rfl 0 (by decide) (List.mem_of_getElem? (i := 1) rfl) rfl rfl dX0_rankOf_1 ?_
  refine lv_iconst (v := 0) hx hb dX0_rankOf_4 (by decide) ?_
  obtain ⟨σ5, h5, h⟩ := mi_b1 h
  refine fm_cv (va_runS (As := [.ref (K.2.2.2 29), .int (0 : Int32)]) (rest := []) C (kJ7_fill_53178 l K (fm_inb (by decide)) rfl h5 _) (va_cwS 2 hts gX0_rankOf_J7_fill_53178 rfl rfl rfl (by decide +kernel) ⟨(Nat.le_of_ble_eq_true rfl), (Nat.le_of_ble_eq_true rfl)⟩) ⟨fm_blind, fm_pre hst hA hH⟩ rfl rfl hl.1 rfl (lv_room (Nat.le_of_ble_eq_true rfl)) dX0_rankOf_5 ⟨(Nat.le_of_ble_eq_true rfl), (Nat.le_of_ble_eq_true rfl)⟩) hA hH (fun H locs hH => ?_)
  refine lv_iconst (v := 0) hx hb dX0_rankOf_8 (by decide) ?_
  refine lv_istore_n (lv' := [(2, .int (0 : Int32)), (0, .ref (K.2.2.2 28)), (1, .ref (K.2.2.2 20))]) hx hb dX0_rankOf_9 rfl hl (by decide) rfl (fun ls hl => ?_)
  refine lv_iconst (v := 0) hx hb dX0_rankOf_10 (by decide) ?_
  refine lv_istore_n (lv' := [(3, .int (0 : Int32)), (2, .int (0 : Int32)), (0, .ref (K.2.2.2 28)), (1, .ref (K.2.2.2 20))]) hx hb dX0_rankOf_11 rfl hl (by decide) rfl (fun ls hl => ?_)
  obtain ⟨y12_2, σ12, h12, h⟩ := mi_b2 h
  refine wX0_rankOf_L12 C hst hA _ _ _ _ _ _ h12 (fun ls H locs hl hH => ?_) _ _ _ (lv_sub hl [2, 3, 1, 0] rfl) hH
  refine lv_iload_n hx hb dX0_rankOf_79 rfl (lv_at hl 0 rfl) ?_
  cases h
  subst hQ
  exact fm_iret hx hb hr hlk hst hH dX0_rankOf_80
/-! RX2.noteWay(II)V -/
abbrev rmX2_noteWay : Room := { frames := 1, cells := 0, slots := 0, locals := 21 }
def mX2_noteWay_L2 : Nat → Int32 → Int32 → Int32 → fm_S → Option (fm_S)
  | 0, _, _, _, _ => none
  | n + 1, x1, x2, x3, σ =>
    if (8 : Int32) ≤ x3 then
      some σ
    else
      mb1 (mX1_holds x2 x3) fun r10 =>
      if r10 = 0 then
        mX2_noteWay_L2 n x1 x2 (x3 + 1) σ
      else
        if (x3 < 0 ∨ 8 ≤ x3.toNatClampNeg) then none else
        mX2_noteWay_L2 n x1 x2 (x3 + 1) (sI σ 27 x3 x1)
set_option maxHeartbeats 4000000 in
set_option maxRecDepth 100000 in
theorem wX2_noteWay_L2 {p : Program} {l : Launch} {e : Env} {s : State} {m : MethodId} {args : Array Value} {below : List Frame} {meth : Method} {c : Code} {Q : State → Prop} {K : fm_K} {A : Nat → Prop} (C : CallFix p m c cX2_noteWay 4 s args wsX2_noteWay RX2) (hst : fm_st K A s s.heap) (hA : ∀ q, fm_A K s.heap.size q → A q) :
    ∀ (n : Nat) (x1 : Int32) (x2 : Int32) (x3 : Int32) (σ : fm_S) (σo : fm_S), mX2_noteWay_L2 n x1 x2 x3 σ = some σo → (∀ (ls : Array Slot) (H : Heap) (locs : List Loc), lv_has ls 4 [] → fm_H K σo A s H locs → W p l e rmX2_noteWay s m args below meth c H locs 0 0 Q (F0 m 29 ls [])) → ∀ (ls : Array Slot) (H : Heap) (locs : List Loc), lv_has ls 4 [(0, .ref (K.2.2.2 24)), (1, .int x1), (2, .int x2), (3, .int x3)] → fm_H K σ A s H locs → W p l e rmX2_noteWay s m args below meth c H locs 0 0 Q (F0 m 2 ls []) := by
  obtain ⟨hx, hb, hml, hown, hts⟩ := id C
  intro n
  induction n with
  | zero => intro x1 x2 x3 σ σo h; simp [mX2_noteWay_L2] at h
  | succ n ih =>
    intro x1 x2 x3 σ σo h kk ls H locs hl hH
    rw [mX2_noteWay_L2] at h
    refine lv_iload_n hx hb dX2_noteWay_2 rfl (lv_at hl 3 rfl) ?_
    refine lv_bipush (v := 8) hx hb dX2_noteWay_3 (by decide) ?_
    refine lv_icmp_ge (tgt := 29) hx hb dX2_noteWay_5 (by decide) (fun hc => ?_) (fun hc => ?_)
    · replace h := mi_pos hc h
      cases h
      exact kk _ _ _ (lv_sub hl [] rfl) hH
    · replace h := mi_neg hc h
      refine lv_iload_n hx hb dX2_noteWay_8 rfl (lv_at hl 2 rfl) ?_
      refine lv_iload_n hx hb dX2_noteWay_9 rfl (lv_at hl 3 rfl) ?_
      obtain ⟨r10, h10, h⟩ := mi_b1 h
      refine fm_ci (va_runSN (As := [.int x2, .int x3]) (rest := []) C (kX1_holds l K h10 _) ⟨va_cnB 2 hts gX2_noteWay_X1_holds_n50 rfl rfl rfl (hst.2.1 (RX2, 50, yX1_holds) (List.mem_of_getElem? (i := 15) rfl)) (hts (.initialized RX1) (List.mem_of_getElem? (i := 3) rfl)) (by decide +kernel) ⟨(Nat.le_of_ble_eq_true rfl), (Nat.le_of_ble_eq_true rfl)⟩, (hts (.static yX1_holds) (List.mem_of_getElem? (i := 2) rfl)), trivial⟩ ⟨fm_blind, fm_pre hst hA hH⟩ rfl rfl hl.1 rfl (lv_room (Nat.le_of_ble_eq_true rfl)) dX2_noteWay_10 ⟨(Nat.le_of_ble_eq_true rfl), (Nat.le_of_ble_eq_true rfl)⟩) hA hH (fun H locs hH => ?_)
      refine lv_if_eq (tgt := 23) hx hb dX2_noteWay_13 (by decide) (fun hc => ?_) (fun hc => ?_)
      · replace h := mi_pos hc h
        refine lv_iinc (v := (x3 + 1)) (lv' := [(3, .int (x3 + 1)), (0, .ref (K.2.2.2 24)), (1, .int x1), (2, .int x2)]) hx hb dX2_noteWay_23 hl (k := 3) rfl rfl (by decide) rfl (fun ls hl => ?_)
        refine lv_goto (tgt := 2) hx hb dX2_noteWay_26 (by decide) ?_
        exact ih _ _ _ _ _ h kk _ _ _ (lv_sub hl [1, 2, 3, 0] rfl) hH
      · replace h := mi_neg hc h
        refine lv_aload_n hx hb dX2_noteWay_16 rfl (lv_at hl 0 rfl) ?_
        refine fm_getf (T := TX2) (N := 3) hx hb hts (fun _ h => List.mem_cons_of_mem _ (List.mem_append_right _ h)) hown hst.1 hH 24 (fm_inb (by decide)) rfl (fm_ob_24 _ _) rfl 2 (by decide) (List.mem_of_getElem? (i := 1) rfl) rfl rfl dX2_noteWay_17 ?_
        refine lv_iload_n hx hb dX2_noteWay_20 rfl (lv_at hl 3 rfl) ?_
        refine lv_iload_n hx hb dX2_noteWay_21 rfl (lv_at hl 1 rfl) ?_
        obtain ⟨hi1, h⟩ := mi_chk h
        refine fm_ist hx hb hst.1 hH 27 (fm_inb (by decide)) rfl rfl hi1 dX2_noteWay_22 (fun H locs hH => ?_)
        refine lv_iinc (v := (x3 + 1)) (lv' := [(3, .int (x3 + 1)), (0, .ref (K.2.2.2 24)), (1, .int x1), (2, .int x2)]) hx hb dX2_noteWay_23 hl (k := 3) rfl rfl (by decide) rfl (fun ls hl => ?_)
        refine lv_goto (tgt := 2) hx hb dX2_noteWay_26 (by decide) ?_
        exact ih _ _ _ _ _ h kk _ _ _ (lv_sub hl [1, 2, 3, 0] rfl) hH
def mX2_noteWay (x1 : Int32) (x2 : Int32) (σ : fm_S) : Option fm_S :=
  mb1 (mX2_noteWay_L2 fF x1 x2 (0 : Int32) σ) fun σ2 =>
  some σ2
set_option maxHeartbeats 4000000 in
set_option maxRecDepth 100000 in
theorem kX2_noteWay (l : Launch) (K : fm_K) {x1 : Int32} {x2 : Int32} {σ : fm_S} {σ' : fm_S} (h : mX2_noteWay x1 x2 σ = some σ') : fm_CV l yX2_noteWay wsX2_noteWay rmX2_noteWay K [.ref (K.2.2.2 24), .int x1, .int x2] σ σ' := by
  intro sz
  refine fm_start (Qc := fun sz => fm_QV K σ' sz) (cc := cX2_noteWay) (maxL := 4) (ret := none) (by decide) rfl (Nat.le_of_ble_eq_true rfl) ?_
  intro p e s m args below meth c C hr hlk hst hH ls hl
  have C : CallFix p m c cX2_noteWay 4 s args wsX2_noteWay RX2 := C
  obtain ⟨hx, hb, hml, hown, hts⟩ := id C
  have hA : ∀ q, fm_A K s.heap.size q → fm_A K s.heap.size q := fun _ h => h
  have hl : lv_has ls 4 [(0, .ref (K.2.2.2 24)), (1, .int x1), (2, .int x2)] := hl
  generalize hQ : MQ below _ args s _ _ _ = Q
  rw [mX2_noteWay] at h
  refine lv_iconst (v := 0) hx hb dX2_noteWay_0 (by decide) ?_
  refine lv_istore_n (lv' := [(3, .int (0 : Int32)), (0, .ref (K.2.2.2 24)), (1, .int x1), (2, .int x2)]) hx hb dX2_noteWay_1 rfl hl (by decide) rfl (fun ls hl => ?_)
  obtain ⟨σ2, h2, h⟩ := mi_b1 h
  refine wX2_noteWay_L2 C hst hA _ _ _ _ _ _ h2 (fun ls H locs hl hH => ?_) _ _ _ (lv_sub hl [1, 2, 3, 0] rfl) hH
  cases h
  subst hQ
  exact fm_vret hx hb hr hlk hst hH dX2_noteWay_29
/-! RX2.holderAmong(I)I -/
abbrev rmX2_holderAmong : Room := { frames := 1, cells := 0, slots := 0, locals := 21 }
def mX2_holderAmong_L2 : Nat → Int32 → Int32 → fm_S → Option (Except Int32 (Unit))
  | 0, _, _, _ => none
  | n + 1, x1, x2, σ =>
    if (8 : Int32) ≤ x2 then
      some (.ok ())
    else
      mb1 (mX1_holds x1 x2) fun r10 =>
      if r10 = 0 then
        mX2_holderAmong_L2 n x1 (x2 + 1) σ
      else
        if (x2 < 0 ∨ 8 ≤ x2.toNatClampNeg) then none else
        if (rI σ 25 x2) ≤ 0 then
          mX2_holderAmong_L2 n x1 (x2 + 1) σ
        else
          some (.error x2)
set_option maxHeartbeats 4000000 in
set_option maxRecDepth 100000 in
theorem wX2_holderAmong_L2 {p : Program} {l : Launch} {e : Env} {s : State} {m : MethodId} {args : Array Value} {below : List Frame} {meth : Method} {c : Code} {Q : State → Prop} {K : fm_K} {A : Nat → Prop} (C : CallFix p m c cX2_holderAmong 3 s args wsX2_holderAmong RX2) (hst : fm_st K A s s.heap) (hA : ∀ q, fm_A K s.heap.size q → A q) :
    ∀ (n : Nat) (x1 : Int32) (x2 : Int32) (σ : fm_S) (x : Except Int32 (Unit)), mX2_holderAmong_L2 n x1 x2 σ = some x → (x = .ok () → ∀ (ls : Array Slot) (H : Heap) (locs : List Loc), lv_has ls 3 [] → fm_H K σ A s H locs → W p l e rmX2_holderAmong s m args below meth c H locs 0 0 Q (F0 m 33 ls [])) → (∀ (ve : Int32), x = .error ve → ∀ (pcR : Nat) (ls : Array Slot) (H : Heap) (locs : List Loc), decode cX2_holderAmong pcR = .ok (.ireturn, 1) → fm_H K σ A s H locs → W p l e rmX2_holderAmong s m args below meth c H locs 0 0 Q (F0 m pcR ls [.int ve])) → ∀ (ls : Array Slot) (H : Heap) (locs : List Loc), lv_has ls 3 [(0, .ref (K.2.2.2 24)), (1, .int x1), (2, .int x2)] → fm_H K σ A s H locs → W p l e rmX2_holderAmong s m args below meth c H locs 0 0 Q (F0 m 2 ls []) := by
  obtain ⟨hx, hb, hml, hown, hts⟩ := id C
  intro n
  induction n with
  | zero => intro x1 x2 σ x h; simp [mX2_holderAmong_L2] at h
  | succ n ih =>
    intro x1 x2 σ x h kk kr ls H locs hl hH
    rw [mX2_holderAmong_L2] at h
    refine lv_iload_n hx hb dX2_holderAmong_2 rfl (lv_at hl 2 rfl) ?_
    refine lv_bipush (v := 8) hx hb dX2_holderAmong_3 (by decide) ?_
    refine lv_icmp_ge (tgt := 33) hx hb dX2_holderAmong_5 (by decide) (fun hc => ?_) (fun hc => ?_)
    · replace h := mi_pos hc h
      cases h
      exact kk rfl _ _ _ (lv_sub hl [] rfl) hH
    · replace h := mi_neg hc h
      refine lv_iload_n hx hb dX2_holderAmong_8 rfl (lv_at hl 1 rfl) ?_
      refine lv_iload_n hx hb dX2_holderAmong_9 rfl (lv_at hl 2 rfl) ?_
      obtain ⟨r10, h10, h⟩ := mi_b1 h
      refine fm_ci (va_runSN (As := [.int x1, .int x2]) (rest := []) C (kX1_holds l K h10 _) ⟨va_cnB 2 hts gX2_holderAmong_X1_holds_n50 rfl rfl rfl (hst.2.1 (RX2, 50, yX1_holds) (List.mem_of_getElem? (i := 15) rfl)) (hts (.initialized RX1) (List.mem_of_getElem? (i := 3) rfl)) (by decide +kernel) ⟨(Nat.le_of_ble_eq_true rfl), (Nat.le_of_ble_eq_true rfl)⟩, (hts (.static yX1_holds) (List.mem_of_getElem? (i := 2) rfl)), trivial⟩ ⟨fm_blind, fm_pre hst hA hH⟩ rfl rfl hl.1 rfl (lv_room (Nat.le_of_ble_eq_true rfl)) dX2_holderAmong_10 ⟨(Nat.le_of_ble_eq_true rfl), (Nat.le_of_ble_eq_true rfl)⟩) hA hH (fun H locs hH => ?_)
      refine lv_if_eq (tgt := 27) hx hb dX2_holderAmong_13 (by decide) (fun hc => ?_) (fun hc => ?_)
      · replace h := mi_pos hc h
        refine lv_iinc (v := (x2 + 1)) (lv' := [(2, .int (x2 + 1)), (0, .ref (K.2.2.2 24)), (1, .int x1)]) hx hb dX2_holderAmong_27 hl (k := 2) rfl rfl (by decide) rfl (fun ls hl => ?_)
        refine lv_goto (tgt := 2) hx hb dX2_holderAmong_30 (by decide) ?_
        exact ih _ _ _ _ h kk kr _ _ _ (lv_sub hl [1, 2, 0] rfl) hH
      · replace h := mi_neg hc h
        refine lv_aload_n hx hb dX2_holderAmong_16 rfl (lv_at hl 0 rfl) ?_
        refine fm_getf (T := TX2) (N := 3) hx hb hts (fun _ h => List.mem_cons_of_mem _ (List.mem_append_right _ h)) hown hst.1 hH 24 (fm_inb (by decide)) rfl (fm_ob_24 _ _) rfl 0 (by decide) (List.mem_of_getElem? (i := 1) rfl) rfl rfl dX2_holderAmong_17 ?_
        refine lv_iload_n hx hb dX2_holderAmong_20 rfl (lv_at hl 2 rfl) ?_
        obtain ⟨hi1, h⟩ := mi_chk h
        refine fm_ild hx hb hst.1 hH 25 (fm_inb (by decide)) rfl rfl hi1 dX2_holderAmong_21 ?_
        refine lv_if_le (tgt := 27) hx hb dX2_holderAmong_22 (by decide) (fun hc => ?_) (fun hc => ?_)
        · replace h := mi_pos hc h
          refine lv_iinc (v := (x2 + 1)) (lv' := [(2, .int (x2 + 1)), (0, .ref (K.2.2.2 24)), (1, .int x1)]) hx hb dX2_holderAmong_27 hl (k := 2) rfl rfl (by decide) rfl (fun ls hl => ?_)
          refine lv_goto (tgt := 2) hx hb dX2_holderAmong_30 (by decide) ?_
          exact ih _ _ _ _ h kk kr _ _ _ (lv_sub hl [1, 2, 0] rfl) hH
        · replace h := mi_neg hc h
          refine lv_iload_n hx hb dX2_holderAmong_25 rfl (lv_at hl 2 rfl) ?_
          cases h
          exact kr _ rfl _ _ _ _ dX2_holderAmong_26 hH
def mX2_holderAmong (x1 : Int32) (σ : fm_S) : Option Int32 :=
  ml1 (mX2_holderAmong_L2 fF x1 (0 : Int32) σ) (fun _ =>
    some (-1 : Int32)) (fun e => some e)
set_option maxHeartbeats 4000000 in
set_option maxRecDepth 100000 in
theorem kX2_holderAmong (l : Launch) (K : fm_K) {x1 : Int32} {σ : fm_S} {r : Int32} (h : mX2_holderAmong x1 σ = some r) : fm_CI l yX2_holderAmong wsX2_holderAmong rmX2_holderAmong K [.ref (K.2.2.2 24), .int x1] σ r σ := by
  intro sz
  refine fm_start (Qc := fun sz => fm_QI K r σ sz) (cc := cX2_holderAmong) (maxL := 3) (ret := (some .int)) (by decide) rfl (Nat.le_of_ble_eq_true rfl) ?_
  intro p e s m args below meth c C hr hlk hst hH ls hl
  have C : CallFix p m c cX2_holderAmong 3 s args wsX2_holderAmong RX2 := C
  obtain ⟨hx, hb, hml, hown, hts⟩ := id C
  have hA : ∀ q, fm_A K s.heap.size q → fm_A K s.heap.size q := fun _ h => h
  have hl : lv_has ls 3 [(0, .ref (K.2.2.2 24)), (1, .int x1)] := hl
  generalize hQ : MQ below _ args s _ _ _ = Q
  rw [mX2_holderAmong] at h
  refine lv_iconst (v := 0) hx hb dX2_holderAmong_0 (by decide) ?_
  refine lv_istore_n (lv' := [(2, .int (0 : Int32)), (0, .ref (K.2.2.2 24)), (1, .int x1)]) hx hb dX2_holderAmong_1 rfl hl (by decide) rfl (fun ls hl => ?_)
  obtain ⟨x2_, h2, hok, her⟩ := mi_l1 h
  refine wX2_holderAmong_L2 C hst hA _ _ _ _ _ h2 (fun hx1 ls H locs hl hH => ?_) (fun ve hx1 pcR ls H locs hdg hH => ?_) _ _ _ (lv_sub hl [1, 2, 0] rfl) hH
  · replace h := hok _ hx1
    clear hok her
    refine lv_iconst (v := -1) hx hb dX2_holderAmong_33 (by decide) ?_
    cases h
    subst hQ
    exact fm_iret hx hb hr hlk hst hH dX2_holderAmong_34
  · replace h := her _ hx1
    cases h
    subst hQ
    exact fm_iret hx hb hr hlk hst hH hdg
/-! RX2.findPebble(II)I -/
abbrev rmX2_findPebble : Room := { frames := 2, cells := 0, slots := 0, locals := 44 }
def mX2_findPebble_L41 : Nat → Int32 → Int32 → Int32 → Int32 → fm_S → Option (Int32 × fm_S)
  | 0, _, _, _, _, _ => none
  | n + 1, x3, x4, x6, x7, σ =>
    if (8 : Int32) ≤ x7 then
      some (x6, σ)
    else
      mb1 (mX1_holds x4 x7) fun r52 =>
      if r52 = 0 then
        mX2_findPebble_L41 n x3 x4 x6 (x7 + 1) σ
      else
        if (x7 < 0 ∨ 8 ≤ x7.toNatClampNeg) then none else
        mb1 (mX2_noteWay x7 (((rI σ 26 x7) &&& (x3 ^^^ (-1 : Int32))) &&& (x6 ^^^ (-1 : Int32))) σ) fun σ81 =>
        mX2_findPebble_L41 n x3 x4 (x6 ||| (((rI σ 26 x7) &&& (x3 ^^^ (-1 : Int32))) &&& (x6 ^^^ (-1 : Int32)))) (x7 + 1) σ81
set_option maxHeartbeats 4000000 in
set_option maxRecDepth 100000 in
theorem wX2_findPebble_L41 {p : Program} {l : Launch} {e : Env} {s : State} {m : MethodId} {args : Array Value} {below : List Frame} {meth : Method} {c : Code} {Q : State → Prop} {K : fm_K} {A : Nat → Prop} (C : CallFix p m c cX2_findPebble 9 s args wsX2_findPebble RX2) (hst : fm_st K A s s.heap) (hA : ∀ q, fm_A K s.heap.size q → A q) :
    ∀ (n : Nat) (x3 : Int32) (x4 : Int32) (x6 : Int32) (x7 : Int32) (σ : fm_S) (o6 : Int32) (σo : fm_S), mX2_findPebble_L41 n x3 x4 x6 x7 σ = some (o6, σo) → ∀ (x5 : Int32), (∀ (ls : Array Slot) (H : Heap) (locs : List Loc), lv_has ls 9 [(0, .ref (K.2.2.2 24)), (3, .int x3), (5, .int x5), (6, .int o6)] → fm_H K σo A s H locs → W p l e rmX2_findPebble s m args below meth c H locs 0 0 Q (F0 m 97 ls [])) → ∀ (ls : Array Slot) (H : Heap) (locs : List Loc), lv_has ls 9 [(0, .ref (K.2.2.2 24)), (3, .int x3), (4, .int x4), (5, .int x5), (6, .int x6), (7, .int x7)] → fm_H K σ A s H locs → W p l e rmX2_findPebble s m args below meth c H locs 0 0 Q (F0 m 41 ls []) := by
  obtain ⟨hx, hb, hml, hown, hts⟩ := id C
  intro n
  induction n with
  | zero => intro x3 x4 x6 x7 σ o6 σo h; simp [mX2_findPebble_L41] at h
  | succ n ih =>
    intro x3 x4 x6 x7 σ o6 σo h x5 kk ls H locs hl hH
    rw [mX2_findPebble_L41] at h
    refine lv_iload hx hb dX2_findPebble_41 (lv_at hl 5 rfl) ?_
    refine lv_bipush (v := 8) hx hb dX2_findPebble_43 (by decide) ?_
    refine lv_icmp_ge (tgt := 97) hx hb dX2_findPebble_45 (by decide) (fun hc => ?_) (fun hc => ?_)
    · replace h := mi_pos hc h
      cases h
      exact kk _ _ _ (lv_sub hl [0, 1, 3, 4] rfl) hH
    · replace h := mi_neg hc h
      refine lv_iload hx hb dX2_findPebble_48 (lv_at hl 2 rfl) ?_
      refine lv_iload hx hb dX2_findPebble_50 (lv_at hl 5 rfl) ?_
      obtain ⟨r52, h52, h⟩ := mi_b1 h
      refine fm_ci (va_runSN (As := [.int x4, .int x7]) (rest := []) C (kX1_holds l K h52 _) ⟨va_cnB 2 hts gX2_findPebble_X1_holds_n50 rfl rfl rfl (hst.2.1 (RX2, 50, yX1_holds) (List.mem_of_getElem? (i := 15) rfl)) (hts (.initialized RX1) (List.mem_of_getElem? (i := 8) rfl)) (by decide +kernel) ⟨(Nat.le_of_ble_eq_true rfl), (Nat.le_of_ble_eq_true rfl)⟩, (hts (.static yX1_holds) (List.mem_of_getElem? (i := 10) rfl)), trivial⟩ ⟨fm_blind, fm_pre hst hA hH⟩ rfl rfl hl.1 rfl (lv_room (Nat.le_of_ble_eq_true rfl)) dX2_findPebble_52 ⟨(Nat.le_of_ble_eq_true rfl), (Nat.le_of_ble_eq_true rfl)⟩) hA hH (fun H locs hH => ?_)
      refine lv_if_eq (tgt := 91) hx hb dX2_findPebble_55 (by decide) (fun hc => ?_) (fun hc => ?_)
      · replace h := mi_pos hc h
        refine lv_iinc (v := (x7 + 1)) (lv' := [(7, .int (x7 + 1)), (0, .ref (K.2.2.2 24)), (3, .int x3), (4, .int x4), (5, .int x5), (6, .int x6)]) hx hb dX2_findPebble_91 hl (k := 5) rfl rfl (by decide) rfl (fun ls hl => ?_)
        refine lv_goto (tgt := 41) hx hb dX2_findPebble_94 (by decide) ?_
        exact ih _ _ _ _ _ _ _ h _ kk _ _ _ (lv_sub hl [1, 2, 3, 4, 5, 0] rfl) hH
      · replace h := mi_neg hc h
        refine lv_aload_n hx hb dX2_findPebble_58 rfl (lv_at hl 0 rfl) ?_
        refine fm_getf (T := TX2) (N := 3) hx hb hts (fun _ h => List.mem_cons_of_mem _ (List.mem_append_right _ h)) hown hst.1 hH 24 (fm_inb (by decide)) rfl (fm_ob_24 _ _) rfl 1 (by decide) (List.mem_of_getElem? (i := 2) rfl) rfl rfl dX2_findPebble_59 ?_
        refine lv_iload hx hb dX2_findPebble_62 (lv_at hl 5 rfl) ?_
        obtain ⟨hi1, h⟩ := mi_chk h
        refine fm_ild hx hb hst.1 hH 26 (fm_inb (by decide)) rfl rfl hi1 dX2_findPebble_64 ?_
        refine lv_iload_n hx hb dX2_findPebble_65 rfl (lv_at hl 1 rfl) ?_
        refine lv_iconst (v := -1) hx hb dX2_findPebble_66 (by decide) ?_
        refine lv_ixor hx hb dX2_findPebble_67 ?_
        refine lv_iand hx hb dX2_findPebble_68 ?_
        refine lv_iload hx hb dX2_findPebble_69 (lv_at hl 4 rfl) ?_
        refine lv_iconst (v := -1) hx hb dX2_findPebble_71 (by decide) ?_
        refine lv_ixor hx hb dX2_findPebble_72 ?_
        refine lv_iand hx hb dX2_findPebble_73 ?_
        refine lv_istore (lv' := [(8, .int (((rI σ 26 x7) &&& (x3 ^^^ (-1 : Int32))) &&& (x6 ^^^ (-1 : Int32)))), (0, .ref (K.2.2.2 24)), (3, .int x3), (4, .int x4), (5, .int x5), (6, .int x6), (7, .int x7)]) hx hb dX2_findPebble_74 hl (by decide) rfl (fun ls hl => ?_)
        refine lv_aload_n hx hb dX2_findPebble_76 rfl (lv_at hl 1 rfl) ?_
        refine lv_iload hx hb dX2_findPebble_77 (lv_at hl 6 rfl) ?_
        refine lv_iload hx hb dX2_findPebble_79 (lv_at hl 0 rfl) ?_
        obtain ⟨σ81, h81, h⟩ := mi_b1 h
        refine fm_cv (va_runV (As := [.int x7, .int (((rI σ 26 x7) &&& (x3 ^^^ (-1 : Int32))) &&& (x6 ^^^ (-1 : Int32)))]) (rest := []) C (kX2_noteWay l K h81 _) (cwV 2 hts gX2_findPebble_X2_noteWay rfl rfl rfl (by decide +kernel) ⟨(Nat.le_of_ble_eq_true rfl), (Nat.le_of_ble_eq_true rfl)⟩) ⟨fm_blind, fm_recv hst hH (q := 24) (fm_inb (by decide)) rfl (fm_ob_24 _ _) rfl, fm_pre hst hA hH⟩ rfl rfl hl.1 rfl (lv_room (Nat.le_of_ble_eq_true rfl)) dX2_findPebble_81 ⟨(Nat.le_of_ble_eq_true rfl), (Nat.le_of_ble_eq_true rfl)⟩) hA hH (fun H locs hH => ?_)
        refine lv_iload hx hb dX2_findPebble_84 (lv_at hl 5 rfl) ?_
        refine lv_iload hx hb dX2_findPebble_86 (lv_at hl 0 rfl) ?_
        refine lv_ior hx hb dX2_findPebble_88 ?_
        refine lv_istore (lv' := [(6, .int (x6 ||| (((rI σ 26 x7) &&& (x3 ^^^ (-1 : Int32))) &&& (x6 ^^^ (-1 : Int32))))), (8, .int (((rI σ 26 x7) &&& (x3 ^^^ (-1 : Int32))) &&& (x6 ^^^ (-1 : Int32)))), (0, .ref (K.2.2.2 24)), (3, .int x3), (4, .int x4), (5, .int x5), (7, .int x7)]) hx hb dX2_findPebble_89 hl (by decide) rfl (fun ls hl => ?_)
        refine lv_iinc (v := (x7 + 1)) (lv' := [(7, .int (x7 + 1)), (6, .int (x6 ||| (((rI σ 26 x7) &&& (x3 ^^^ (-1 : Int32))) &&& (x6 ^^^ (-1 : Int32))))), (8, .int (((rI σ 26 x7) &&& (x3 ^^^ (-1 : Int32))) &&& (x6 ^^^ (-1 : Int32)))), (0, .ref (K.2.2.2 24)), (3, .int x3), (4, .int x4), (5, .int x5)]) hx hb dX2_findPebble_91 hl (k := 6) rfl rfl (by decide) rfl (fun ls hl => ?_)
        refine lv_goto (tgt := 41) hx hb dX2_findPebble_94 (by decide) ?_
        exact ih _ _ _ _ _ _ _ h _ kk _ _ _ (lv_sub hl [3, 4, 5, 6, 1, 0] rfl) hH
def mX2_findPebble_L28 : Nat → Int32 → Int32 → Int32 → fm_S → Option (Except (Int32 × fm_S) (fm_S))
  | 0, _, _, _, _ => none
  | n + 1, x3, x4, x5, σ =>
    if (8 : Int32) ≤ x5 then
      some (.ok σ)
    else
      mb2 (mX2_findPebble_L41 fF x3 x4 (0 : Int32) (0 : Int32) σ) fun y41_6 σ41 =>
      mb1 (mX2_holderAmong y41_6 σ41) fun r100 =>
      if r100 < 0 then
        mX2_findPebble_L28 n (x3 ||| y41_6) y41_6 (x5 + 1) σ41
      else
        some (.error (r100, σ41))
set_option maxHeartbeats 4000000 in
set_option maxRecDepth 100000 in
theorem wX2_findPebble_L28 {p : Program} {l : Launch} {e : Env} {s : State} {m : MethodId} {args : Array Value} {below : List Frame} {meth : Method} {c : Code} {Q : State → Prop} {K : fm_K} {A : Nat → Prop} (C : CallFix p m c cX2_findPebble 9 s args wsX2_findPebble RX2) (hst : fm_st K A s s.heap) (hA : ∀ q, fm_A K s.heap.size q → A q) :
    ∀ (n : Nat) (x3 : Int32) (x4 : Int32) (x5 : Int32) (σ : fm_S) (x : Except (Int32 × fm_S) (fm_S)), mX2_findPebble_L28 n x3 x4 x5 σ = some x → (∀ (σo : fm_S), x = .ok σo → ∀ (ls : Array Slot) (H : Heap) (locs : List Loc), lv_has ls 9 [] → fm_H K σo A s H locs → W p l e rmX2_findPebble s m args below meth c H locs 0 0 Q (F0 m 128 ls [])) → (∀ (ve : Int32) (σe : fm_S), x = .error (ve, σe) → ∀ (pcR : Nat) (ls : Array Slot) (H : Heap) (locs : List Loc), decode cX2_findPebble pcR = .ok (.ireturn, 1) → fm_H K σe A s H locs → W p l e rmX2_findPebble s m args below meth c H locs 0 0 Q (F0 m pcR ls [.int ve])) → ∀ (ls : Array Slot) (H : Heap) (locs : List Loc), lv_has ls 9 [(0, .ref (K.2.2.2 24)), (3, .int x3), (4, .int x4), (5, .int x5)] → fm_H K σ A s H locs → W p l e rmX2_findPebble s m args below meth c H locs 0 0 Q (F0 m 28 ls []) := by
  obtain ⟨hx, hb, hml, hown, hts⟩ := id C
  intro n
  induction n with
  | zero => intro x3 x4 x5 σ x h; simp [mX2_findPebble_L28] at h
  | succ n ih =>
    intro x3 x4 x5 σ x h kk kr ls H locs hl hH
    rw [mX2_findPebble_L28] at h
    refine lv_iload hx hb dX2_findPebble_28 (lv_at hl 3 rfl) ?_
    refine lv_bipush (v := 8) hx hb dX2_findPebble_30 (by decide) ?_
    refine lv_icmp_ge (tgt := 128) hx hb dX2_findPebble_32 (by decide) (fun hc => ?_) (fun hc => ?_)
    · replace h := mi_pos hc h
      cases h
      exact kk _ rfl _ _ _ (lv_sub hl [] rfl) hH
    · replace h := mi_neg hc h
      refine lv_iconst (v := 0) hx hb dX2_findPebble_35 (by decide) ?_
      refine lv_istore (lv' := [(6, .int (0 : Int32)), (0, .ref (K.2.2.2 24)), (3, .int x3), (4, .int x4), (5, .int x5)]) hx hb dX2_findPebble_36 hl (by decide) rfl (fun ls hl => ?_)
      refine lv_iconst (v := 0) hx hb dX2_findPebble_38 (by decide) ?_
      refine lv_istore (lv' := [(7, .int (0 : Int32)), (6, .int (0 : Int32)), (0, .ref (K.2.2.2 24)), (3, .int x3), (4, .int x4), (5, .int x5)]) hx hb dX2_findPebble_39 hl (by decide) rfl (fun ls hl => ?_)
      obtain ⟨y41_6, σ41, h41, h⟩ := mi_b2 h
      refine wX2_findPebble_L41 C hst hA _ _ _ _ _ _ _ _ h41 _ (fun ls H locs hl hH => ?_) _ _ _ (lv_sub hl [2, 3, 4, 5, 1, 0] rfl) hH
      refine lv_aload_n hx hb dX2_findPebble_97 rfl (lv_at hl 0 rfl) ?_
      refine lv_iload hx hb dX2_findPebble_98 (lv_at hl 3 rfl) ?_
      obtain ⟨r100, h100, h⟩ := mi_b1 h
      refine fm_ci (va_runV (As := [.int y41_6]) (rest := []) C (kX2_holderAmong l K h100 _) (cwV 1 hts gX2_findPebble_X2_holderAmong rfl rfl rfl (by decide +kernel) ⟨(Nat.le_of_ble_eq_true rfl), (Nat.le_of_ble_eq_true rfl)⟩) ⟨fm_blind, fm_recv hst hH (q := 24) (fm_inb (by decide)) rfl (fm_ob_24 _ _) rfl, fm_pre hst hA hH⟩ rfl rfl hl.1 rfl (lv_room (Nat.le_of_ble_eq_true rfl)) dX2_findPebble_100 ⟨(Nat.le_of_ble_eq_true rfl), (Nat.le_of_ble_eq_true rfl)⟩) hA hH (fun H locs hH => ?_)
      refine lv_istore (lv' := [(7, .int r100), (0, .ref (K.2.2.2 24)), (3, .int x3), (5, .int x5), (6, .int y41_6)]) hx hb dX2_findPebble_103 hl (by decide) rfl (fun ls hl => ?_)
      refine lv_iload hx hb dX2_findPebble_105 (lv_at hl 0 rfl) ?_
      refine lv_if_lt (tgt := 113) hx hb dX2_findPebble_107 (by decide) (fun hc => ?_) (fun hc => ?_)
      · replace h := mi_pos hc h
        refine lv_iload_n hx hb dX2_findPebble_113 rfl (lv_at hl 2 rfl) ?_
        refine lv_iload hx hb dX2_findPebble_114 (lv_at hl 4 rfl) ?_
        refine lv_ior hx hb dX2_findPebble_116 ?_
        refine lv_istore_n (lv' := [(3, .int (x3 ||| y41_6)), (7, .int r100), (0, .ref (K.2.2.2 24)), (5, .int x5), (6, .int y41_6)]) hx hb dX2_findPebble_117 rfl hl (by decide) rfl (fun ls hl => ?_)
        refine lv_iload hx hb dX2_findPebble_118 (lv_at hl 4 rfl) ?_
        refine lv_istore (lv' := [(4, .int y41_6), (3, .int (x3 ||| y41_6)), (7, .int r100), (0, .ref (K.2.2.2 24)), (5, .int x5), (6, .int y41_6)]) hx hb dX2_findPebble_120 hl (by decide) rfl (fun ls hl => ?_)
        refine lv_iinc (v := (x5 + 1)) (lv' := [(5, .int (x5 + 1)), (4, .int y41_6), (3, .int (x3 ||| y41_6)), (7, .int r100), (0, .ref (K.2.2.2 24)), (6, .int y41_6)]) hx hb dX2_findPebble_122 hl (k := 4) rfl rfl (by decide) rfl (fun ls hl => ?_)
        refine lv_goto (tgt := 28) hx hb dX2_findPebble_125 (by decide) ?_
        exact ih _ _ _ _ _ h kk kr _ _ _ (lv_sub hl [4, 2, 1, 0] rfl) hH
      · replace h := mi_neg hc h
        refine lv_iload hx hb dX2_findPebble_110 (lv_at hl 0 rfl) ?_
        cases h
        exact kr _ _ rfl _ _ _ _ dX2_findPebble_112 hH
def mX2_findPebble (x1 : Int32) (x2 : Int32) (σ : fm_S) : Option (Int32 × fm_S) :=
  mb1 (mJ7_fill_53178 27 (-1 : Int32) σ) fun σ5 =>
  mb1 (mX1_with (0 : Int32) x1) fun r10 =>
  mb1 (mX1_with r10 x2) fun r14 =>
  mb1 (mX1_with (0 : Int32) x1) fun r20 =>
  ml1 (mX2_findPebble_L28 fF r14 r20 (1 : Int32) σ5) (fun σ28 =>
    some ((-1 : Int32), σ28)) (fun e => some e)
set_option maxHeartbeats 4000000 in
set_option maxRecDepth 100000 in
theorem kX2_findPebble (l : Launch) (K : fm_K) {x1 : Int32} {x2 : Int32} {σ : fm_S} {r : Int32} {σ' : fm_S} (h : mX2_findPebble x1 x2 σ = some (r, σ')) : fm_CI l yX2_findPebble wsX2_findPebble rmX2_findPebble K [.ref (K.2.2.2 24), .int x1, .int x2] σ r σ' := by
  intro sz
  refine fm_start (Qc := fun sz => fm_QI K r σ' sz) (cc := cX2_findPebble) (maxL := 9) (ret := (some .int)) (by decide) rfl (Nat.le_of_ble_eq_true rfl) ?_
  intro p e s m args below meth c C hr hlk hst hH ls hl
  have C : CallFix p m c cX2_findPebble 9 s args wsX2_findPebble RX2 := C
  obtain ⟨hx, hb, hml, hown, hts⟩ := id C
  have hA : ∀ q, fm_A K s.heap.size q → fm_A K s.heap.size q := fun _ h => h
  have hl : lv_has ls 9 [(0, .ref (K.2.2.2 24)), (1, .int x1), (2, .int x2)] := hl
  generalize hQ : MQ below _ args s _ _ _ = Q
  rw [mX2_findPebble] at h
  refine lv_aload_n hx hb dX2_findPebble_0 rfl (lv_at hl 0 rfl) ?_
  refine fm_getf (T := TX2) (N := 3) hx hb hts (fun _ h => List.mem_cons_of_mem _ (List.mem_append_right _ h)) hown hst.1 hH 24 (fm_inb (by decide)) rfl (fm_ob_24 _ _) rfl 2 (by decide) (List.mem_of_getElem? (i := 1) rfl) rfl rfl dX2_findPebble_1 ?_
  refine lv_iconst (v := -1) hx hb dX2_findPebble_4 (by decide) ?_
  obtain ⟨σ5, h5, h⟩ := mi_b1 h
  refine fm_cv (va_runS (As := [.ref (K.2.2.2 27), .int (-1 : Int32)]) (rest := []) C (kJ7_fill_53178 l K (fm_inb (by decide)) rfl h5 _) (va_cwS 2 hts gX2_findPebble_J7_fill_53178 rfl rfl rfl (by decide +kernel) ⟨(Nat.le_of_ble_eq_true rfl), (Nat.le_of_ble_eq_true rfl)⟩) ⟨fm_blind, fm_pre hst hA hH⟩ rfl rfl hl.1 rfl (lv_room (Nat.le_of_ble_eq_true rfl)) dX2_findPebble_5 ⟨(Nat.le_of_ble_eq_true rfl), (Nat.le_of_ble_eq_true rfl)⟩) hA hH (fun H locs hH => ?_)
  refine lv_iconst (v := 0) hx hb dX2_findPebble_8 (by decide) ?_
  refine lv_iload_n hx hb dX2_findPebble_9 rfl (lv_at hl 1 rfl) ?_
  obtain ⟨r10, h10, h⟩ := mi_b1 h
  refine fm_ci (va_runSN (As := [.int (0 : Int32), .int x1]) (rest := []) C (kX1_with l K h10 _) ⟨va_cnB 2 hts gX2_findPebble_X1_with_n36 rfl rfl rfl (hst.2.1 (RX2, 36, yX1_with) (List.mem_of_getElem? (i := 14) rfl)) (hts (.initialized RX1) (List.mem_of_getElem? (i := 8) rfl)) (by decide +kernel) ⟨(Nat.le_of_ble_eq_true rfl), (Nat.le_of_ble_eq_true rfl)⟩, (hts (.static yX1_with) (List.mem_of_getElem? (i := 7) rfl)), trivial⟩ ⟨fm_blind, fm_pre hst hA hH⟩ rfl rfl hl.1 rfl (lv_room (Nat.le_of_ble_eq_true rfl)) dX2_findPebble_10 ⟨(Nat.le_of_ble_eq_true rfl), (Nat.le_of_ble_eq_true rfl)⟩) hA hH (fun H locs hH => ?_)
  refine lv_iload_n hx hb dX2_findPebble_13 rfl (lv_at hl 2 rfl) ?_
  obtain ⟨r14, h14, h⟩ := mi_b1 h
  refine fm_ci (va_runSN (As := [.int r10, .int x2]) (rest := []) C (kX1_with l K h14 _) ⟨va_cnB 2 hts gX2_findPebble_X1_with_n36 rfl rfl rfl (hst.2.1 (RX2, 36, yX1_with) (List.mem_of_getElem? (i := 14) rfl)) (hts (.initialized RX1) (List.mem_of_getElem? (i := 8) rfl)) (by decide +kernel) ⟨(Nat.le_of_ble_eq_true rfl), (Nat.le_of_ble_eq_true rfl)⟩, (hts (.static yX1_with) (List.mem_of_getElem? (i := 7) rfl)), trivial⟩ ⟨fm_blind, fm_pre hst hA hH⟩ rfl rfl hl.1 rfl (lv_room (Nat.le_of_ble_eq_true rfl)) dX2_findPebble_14 ⟨(Nat.le_of_ble_eq_true rfl), (Nat.le_of_ble_eq_true rfl)⟩) hA hH (fun H locs hH => ?_)
  refine lv_istore_n (lv' := [(3, .int r14), (0, .ref (K.2.2.2 24)), (1, .int x1), (2, .int x2)]) hx hb dX2_findPebble_17 rfl hl (by decide) rfl (fun ls hl => ?_)
  refine lv_iconst (v := 0) hx hb dX2_findPebble_18 (by decide) ?_
  refine lv_iload_n hx hb dX2_findPebble_19 rfl (lv_at hl 2 rfl) ?_
  obtain ⟨r20, h20, h⟩ := mi_b1 h
  refine fm_ci (va_runSN (As := [.int (0 : Int32), .int x1]) (rest := []) C (kX1_with l K h20 _) ⟨va_cnB 2 hts gX2_findPebble_X1_with_n36 rfl rfl rfl (hst.2.1 (RX2, 36, yX1_with) (List.mem_of_getElem? (i := 14) rfl)) (hts (.initialized RX1) (List.mem_of_getElem? (i := 8) rfl)) (by decide +kernel) ⟨(Nat.le_of_ble_eq_true rfl), (Nat.le_of_ble_eq_true rfl)⟩, (hts (.static yX1_with) (List.mem_of_getElem? (i := 7) rfl)), trivial⟩ ⟨fm_blind, fm_pre hst hA hH⟩ rfl rfl hl.1 rfl (lv_room (Nat.le_of_ble_eq_true rfl)) dX2_findPebble_20 ⟨(Nat.le_of_ble_eq_true rfl), (Nat.le_of_ble_eq_true rfl)⟩) hA hH (fun H locs hH => ?_)
  refine lv_istore (lv' := [(4, .int r20), (3, .int r14), (0, .ref (K.2.2.2 24)), (1, .int x1), (2, .int x2)]) hx hb dX2_findPebble_23 hl (by decide) rfl (fun ls hl => ?_)
  refine lv_iconst (v := 1) hx hb dX2_findPebble_25 (by decide) ?_
  refine lv_istore (lv' := [(5, .int (1 : Int32)), (4, .int r20), (3, .int r14), (0, .ref (K.2.2.2 24)), (1, .int x1), (2, .int x2)]) hx hb dX2_findPebble_26 hl (by decide) rfl (fun ls hl => ?_)
  obtain ⟨x28_, h28, hok, her⟩ := mi_l1 h
  refine wX2_findPebble_L28 C hst hA _ _ _ _ _ _ h28 (fun σ28 hx1 ls H locs hl hH => ?_) (fun ve σe hx1 pcR ls H locs hdg hH => ?_) _ _ _ (lv_sub hl [3, 2, 1, 0] rfl) hH
  · replace h := hok _ hx1
    clear hok her
    refine lv_iconst (v := -1) hx hb dX2_findPebble_128 (by decide) ?_
    cases h
    subst hQ
    exact fm_iret hx hb hr hlk hst hH dX2_findPebble_129
  · replace h := her _ hx1
    cases h
    subst hQ
    exact fm_iret hx hb hr hlk hst hH hdg
/-! RX2.turnArcs(I)V -/
abbrev rmX2_turnArcs : Room := { frames := 1, cells := 0, slots := 0, locals := 21 }
def mX2_turnArcs_L4 : Nat → Int32 → Int32 → fm_S → Option (Except fm_S (fm_S))
  | 0, _, _, _ => none
  | n + 1, x2, x3, σ =>
    if (8 : Int32) ≤ x3 then
      some (.ok σ)
    else
      if (x2 < 0 ∨ 8 ≤ x2.toNatClampNeg) then none else
      if 0 ≤ (rI σ 27 x2) then
        if ((rI σ 27 x2) < 0 ∨ 8 ≤ (rI σ 27 x2).toNatClampNeg) then none else
        mb1 (mX1_without (rI σ 26 (rI σ 27 x2)) x2) fun r38 =>
        mb1 (mX1_with (rI (sI σ 26 (rI σ 27 x2) r38) 26 x2) (rI σ 27 x2)) fun r55 =>
        mX2_turnArcs_L4 n (rI σ 27 x2) (x3 + 1) (sI (sI σ 26 (rI σ 27 x2) r38) 26 x2 r55)
      else
        some (.error σ)
set_option maxHeartbeats 4000000 in
set_option maxRecDepth 100000 in
theorem wX2_turnArcs_L4 {p : Program} {l : Launch} {e : Env} {s : State} {m : MethodId} {args : Array Value} {below : List Frame} {meth : Method} {c : Code} {Q : State → Prop} {K : fm_K} {A : Nat → Prop} (C : CallFix p m c cX2_turnArcs 5 s args wsX2_turnArcs RX2) (hst : fm_st K A s s.heap) (hA : ∀ q, fm_A K s.heap.size q → A q) :
    ∀ (n : Nat) (x2 : Int32) (x3 : Int32) (σ : fm_S) (x : Except fm_S (fm_S)), mX2_turnArcs_L4 n x2 x3 σ = some x → (∀ (σo : fm_S), x = .ok σo → ∀ (ls : Array Slot) (H : Heap) (locs : List Loc), lv_has ls 5 [] → fm_H K σo A s H locs → W p l e rmX2_turnArcs s m args below meth c H locs 0 0 Q (F0 m 68 ls [])) → (∀ (σe : fm_S), x = .error σe → ∀ (pcR : Nat) (ls : Array Slot) (H : Heap) (locs : List Loc), decode cX2_turnArcs pcR = .ok (.return_, 1) → fm_H K σe A s H locs → W p l e rmX2_turnArcs s m args below meth c H locs 0 0 Q (F0 m pcR ls [])) → ∀ (ls : Array Slot) (H : Heap) (locs : List Loc), lv_has ls 5 [(0, .ref (K.2.2.2 24)), (2, .int x2), (3, .int x3)] → fm_H K σ A s H locs → W p l e rmX2_turnArcs s m args below meth c H locs 0 0 Q (F0 m 4 ls []) := by
  obtain ⟨hx, hb, hml, hown, hts⟩ := id C
  intro n
  induction n with
  | zero => intro x2 x3 σ x h; simp [mX2_turnArcs_L4] at h
  | succ n ih =>
    intro x2 x3 σ x h kk kr ls H locs hl hH
    rw [mX2_turnArcs_L4] at h
    refine lv_iload_n hx hb dX2_turnArcs_4 rfl (lv_at hl 2 rfl) ?_
    refine lv_bipush (v := 8) hx hb dX2_turnArcs_5 (by decide) ?_
    refine lv_icmp_ge (tgt := 68) hx hb dX2_turnArcs_7 (by decide) (fun hc => ?_) (fun hc => ?_)
    · replace h := mi_pos hc h
      cases h
      exact kk _ rfl _ _ _ (lv_sub hl [] rfl) hH
    · replace h := mi_neg hc h
      refine lv_aload_n hx hb dX2_turnArcs_10 rfl (lv_at hl 0 rfl) ?_
      refine fm_getf (T := TX2) (N := 3) hx hb hts (fun _ h => List.mem_cons_of_mem _ (List.mem_append_right _ h)) hown hst.1 hH 24 (fm_inb (by decide)) rfl (fm_ob_24 _ _) rfl 2 (by decide) (List.mem_of_getElem? (i := 1) rfl) rfl rfl dX2_turnArcs_11 ?_
      refine lv_iload_n hx hb dX2_turnArcs_14 rfl (lv_at hl 1 rfl) ?_
      obtain ⟨hi1, h⟩ := mi_chk h
      refine fm_ild hx hb hst.1 hH 27 (fm_inb (by decide)) rfl rfl hi1 dX2_turnArcs_15 ?_
      refine lv_istore (lv' := [(4, .int (rI σ 27 x2)), (0, .ref (K.2.2.2 24)), (2, .int x2), (3, .int x3)]) hx hb dX2_turnArcs_16 hl (by decide) rfl (fun ls hl => ?_)
      refine lv_iload hx hb dX2_turnArcs_18 (lv_at hl 0 rfl) ?_
      refine lv_if_ge (tgt := 24) hx hb dX2_turnArcs_20 (by decide) (fun hc => ?_) (fun hc => ?_)
      · replace h := mi_pos hc h
        refine lv_aload_n hx hb dX2_turnArcs_24 rfl (lv_at hl 1 rfl) ?_
        refine fm_getf (T := TX2) (N := 3) hx hb hts (fun _ h => List.mem_cons_of_mem _ (List.mem_append_right _ h)) hown hst.1 hH 24 (fm_inb (by decide)) rfl (fm_ob_24 _ _) rfl 1 (by decide) (List.mem_of_getElem? (i := 2) rfl) rfl rfl dX2_turnArcs_25 ?_
        refine lv_iload hx hb dX2_turnArcs_28 (lv_at hl 0 rfl) ?_
        refine lv_aload_n hx hb dX2_turnArcs_30 rfl (lv_at hl 1 rfl) ?_
        refine fm_getf (T := TX2) (N := 3) hx hb hts (fun _ h => List.mem_cons_of_mem _ (List.mem_append_right _ h)) hown hst.1 hH 24 (fm_inb (by decide)) rfl (fm_ob_24 _ _) rfl 1 (by decide) (List.mem_of_getElem? (i := 2) rfl) rfl rfl dX2_turnArcs_31 ?_
        refine lv_iload hx hb dX2_turnArcs_34 (lv_at hl 0 rfl) ?_
        obtain ⟨hi2, h⟩ := mi_chk h
        refine fm_ild hx hb hst.1 hH 26 (fm_inb (by decide)) rfl rfl hi2 dX2_turnArcs_36 ?_
        refine lv_iload_n hx hb dX2_turnArcs_37 rfl (lv_at hl 2 rfl) ?_
        obtain ⟨r38, h38, h⟩ := mi_b1 h
        refine fm_ci (va_runSN (As := [.int (rI σ 26 (rI σ 27 x2)), .int x2]) (rest := [.int (rI σ 27 x2), .ref (K.2.2.2 26)]) C (kX1_without l K h38 _) ⟨va_cnB 2 hts gX2_turnArcs_X1_without_n61 rfl rfl rfl (hst.2.1 (RX2, 61, yX1_without) (List.mem_of_getElem? (i := 16) rfl)) (hts (.initialized RX1) (List.mem_of_getElem? (i := 4) rfl)) (by decide +kernel) ⟨(Nat.le_of_ble_eq_true rfl), (Nat.le_of_ble_eq_true rfl)⟩, (hts (.static yX1_without) (List.mem_of_getElem? (i := 3) rfl)), trivial⟩ ⟨fm_blind, fm_pre hst hA hH⟩ rfl rfl hl.1 rfl (lv_room (Nat.le_of_ble_eq_true rfl)) dX2_turnArcs_38 ⟨(Nat.le_of_ble_eq_true rfl), (Nat.le_of_ble_eq_true rfl)⟩) hA hH (fun H locs hH => ?_)
        refine fm_ist hx hb hst.1 hH 26 (fm_inb (by decide)) rfl rfl hi2 dX2_turnArcs_41 (fun H locs hH => ?_)
        refine lv_aload_n hx hb dX2_turnArcs_42 rfl (lv_at hl 1 rfl) ?_
        refine fm_getf (T := TX2) (N := 3) hx hb hts (fun _ h => List.mem_cons_of_mem _ (List.mem_append_right _ h)) hown hst.1 hH 24 (fm_inb (by decide)) rfl (fm_ob_24 _ _) rfl 1 (by decide) (List.mem_of_getElem? (i := 2) rfl) rfl rfl dX2_turnArcs_43 ?_
        refine lv_iload_n hx hb dX2_turnArcs_46 rfl (lv_at hl 2 rfl) ?_
        refine lv_aload_n hx hb dX2_turnArcs_47 rfl (lv_at hl 1 rfl) ?_
        refine fm_getf (T := TX2) (N := 3) hx hb hts (fun _ h => List.mem_cons_of_mem _ (List.mem_append_right _ h)) hown hst.1 hH 24 (fm_inb (by decide)) rfl (fm_ob_24 _ _) rfl 1 (by decide) (List.mem_of_getElem? (i := 2) rfl) rfl rfl dX2_turnArcs_48 ?_
        refine lv_iload_n hx hb dX2_turnArcs_51 rfl (lv_at hl 2 rfl) ?_
        refine fm_ild hx hb hst.1 hH 26 (fm_inb (by decide)) rfl rfl hi1 dX2_turnArcs_52 ?_
        refine lv_iload hx hb dX2_turnArcs_53 (lv_at hl 0 rfl) ?_
        obtain ⟨r55, h55, h⟩ := mi_b1 h
        refine fm_ci (va_runSN (As := [.int (rI (sI σ 26 (rI σ 27 x2) r38) 26 x2), .int (rI σ 27 x2)]) (rest := [.int x2, .ref (K.2.2.2 26)]) C (kX1_with l K h55 _) ⟨va_cnB 2 hts gX2_turnArcs_X1_with_n36 rfl rfl rfl (hst.2.1 (RX2, 36, yX1_with) (List.mem_of_getElem? (i := 14) rfl)) (hts (.initialized RX1) (List.mem_of_getElem? (i := 4) rfl)) (by decide +kernel) ⟨(Nat.le_of_ble_eq_true rfl), (Nat.le_of_ble_eq_true rfl)⟩, (hts (.static yX1_with) (List.mem_of_getElem? (i := 6) rfl)), trivial⟩ ⟨fm_blind, fm_pre hst hA hH⟩ rfl rfl hl.1 rfl (lv_room (Nat.le_of_ble_eq_true rfl)) dX2_turnArcs_55 ⟨(Nat.le_of_ble_eq_true rfl), (Nat.le_of_ble_eq_true rfl)⟩) hA hH (fun H locs hH => ?_)
        refine fm_ist hx hb hst.1 hH 26 (fm_inb (by decide)) rfl rfl hi1 dX2_turnArcs_58 (fun H locs hH => ?_)
        refine lv_iload hx hb dX2_turnArcs_59 (lv_at hl 0 rfl) ?_
        refine lv_istore_n (lv' := [(2, .int (rI σ 27 x2)), (4, .int (rI σ 27 x2)), (0, .ref (K.2.2.2 24)), (3, .int x3)]) hx hb dX2_turnArcs_61 rfl hl (by decide) rfl (fun ls hl => ?_)
        refine lv_iinc (v := (x3 + 1)) (lv' := [(3, .int (x3 + 1)), (2, .int (rI σ 27 x2)), (4, .int (rI σ 27 x2)), (0, .ref (K.2.2.2 24))]) hx hb dX2_turnArcs_62 hl (k := 3) rfl rfl (by decide) rfl (fun ls hl => ?_)
        refine lv_goto (tgt := 4) hx hb dX2_turnArcs_65 (by decide) ?_
        exact ih _ _ _ _ h kk kr _ _ _ (lv_sub hl [3, 1, 0] rfl) hH
      · replace h := mi_neg hc h
        cases h
        exact kr _ rfl _ _ _ _ dX2_turnArcs_23 hH
def mX2_turnArcs (x1 : Int32) (σ : fm_S) : Option fm_S :=
  ml1 (mX2_turnArcs_L4 fF x1 (1 : Int32) σ) (fun σ4 =>
    some σ4) (fun e => some e)
set_option maxHeartbeats 4000000 in
set_option maxRecDepth 100000 in
theorem kX2_turnArcs (l : Launch) (K : fm_K) {x1 : Int32} {σ : fm_S} {σ' : fm_S} (h : mX2_turnArcs x1 σ = some σ') : fm_CV l yX2_turnArcs wsX2_turnArcs rmX2_turnArcs K [.ref (K.2.2.2 24), .int x1] σ σ' := by
  intro sz
  refine fm_start (Qc := fun sz => fm_QV K σ' sz) (cc := cX2_turnArcs) (maxL := 5) (ret := none) (by decide) rfl (Nat.le_of_ble_eq_true rfl) ?_
  intro p e s m args below meth c C hr hlk hst hH ls hl
  have C : CallFix p m c cX2_turnArcs 5 s args wsX2_turnArcs RX2 := C
  obtain ⟨hx, hb, hml, hown, hts⟩ := id C
  have hA : ∀ q, fm_A K s.heap.size q → fm_A K s.heap.size q := fun _ h => h
  have hl : lv_has ls 5 [(0, .ref (K.2.2.2 24)), (1, .int x1)] := hl
  generalize hQ : MQ below _ args s _ _ _ = Q
  rw [mX2_turnArcs] at h
  refine lv_iload_n hx hb dX2_turnArcs_0 rfl (lv_at hl 1 rfl) ?_
  refine lv_istore_n (lv' := [(2, .int x1), (0, .ref (K.2.2.2 24)), (1, .int x1)]) hx hb dX2_turnArcs_1 rfl hl (by decide) rfl (fun ls hl => ?_)
  refine lv_iconst (v := 1) hx hb dX2_turnArcs_2 (by decide) ?_
  refine lv_istore_n (lv' := [(3, .int (1 : Int32)), (2, .int x1), (0, .ref (K.2.2.2 24)), (1, .int x1)]) hx hb dX2_turnArcs_3 rfl hl (by decide) rfl (fun ls hl => ?_)
  obtain ⟨x4_, h4, hok, her⟩ := mi_l1 h
  refine wX2_turnArcs_L4 C hst hA _ _ _ _ _ h4 (fun σ4 hx1 ls H locs hl hH => ?_) (fun σe hx1 pcR ls H locs hdg hH => ?_) _ _ _ (lv_sub hl [2, 1, 0] rfl) hH
  · replace h := hok _ hx1
    clear hok her
    cases h
    subst hQ
    exact fm_vret hx hb hr hlk hst hH dX2_turnArcs_68
  · replace h := her _ hx1
    cases h
    subst hQ
    exact fm_vret hx hb hr hlk hst hH hdg
/-! RX2.fetchPebble(II)Z -/
abbrev rmX2_fetchPebble : Room := { frames := 3, cells := 0, slots := 0, locals := 72 }
def mX2_fetchPebble (x1 : Int32) (x2 : Int32) (σ : fm_S) : Option (Int32 × fm_S) :=
  mb2 (mX2_findPebble x1 x2 σ) fun r3 σ3 =>
  if 0 ≤ r3 then
    if (r3 < 0 ∨ 8 ≤ r3.toNatClampNeg) then none else
    if (x1 < 0 ∨ 8 ≤ x1.toNatClampNeg) then none else
    mb1 (mX2_turnArcs r3 (sI (sI σ3 25 r3 ((rI σ3 25 r3) - (1 : Int32))) 25 x1 ((rI (sI σ3 25 r3 ((rI σ3 25 r3) - (1 : Int32))) 25 x1) + (1 : Int32)))) fun σ35 =>
    some ((1 : Int32), σ35)
  else
    some ((0 : Int32), σ3)
set_option maxHeartbeats 4000000 in
set_option maxRecDepth 100000 in
theorem kX2_fetchPebble (l : Launch) (K : fm_K) {x1 : Int32} {x2 : Int32} {σ : fm_S} {r : Int32} {σ' : fm_S} (h : mX2_fetchPebble x1 x2 σ = some (r, σ')) : fm_CI l yX2_fetchPebble wsX2_fetchPebble rmX2_fetchPebble K [.ref (K.2.2.2 24), .int x1, .int x2] σ r σ' := by
  intro sz
  refine fm_start (Qc := fun sz => fm_QI K r σ' sz) (cc := cX2_fetchPebble) (maxL := 4) (ret := (some .boolean)) (by decide) rfl (Nat.le_of_ble_eq_true rfl) ?_
  intro p e s m args below meth c C hr hlk hst hH ls hl
  have C : CallFix p m c cX2_fetchPebble 4 s args wsX2_fetchPebble RX2 := C
  obtain ⟨hx, hb, hml, hown, hts⟩ := id C
  have hA : ∀ q, fm_A K s.heap.size q → fm_A K s.heap.size q := fun _ h => h
  have hl : lv_has ls 4 [(0, .ref (K.2.2.2 24)), (1, .int x1), (2, .int x2)] := hl
  generalize hQ : MQ below _ args s _ _ _ = Q
  rw [mX2_fetchPebble] at h
  refine lv_aload_n hx hb dX2_fetchPebble_0 rfl (lv_at hl 0 rfl) ?_
  refine lv_iload_n hx hb dX2_fetchPebble_1 rfl (lv_at hl 1 rfl) ?_
  refine lv_iload_n hx hb dX2_fetchPebble_2 rfl (lv_at hl 2 rfl) ?_
  obtain ⟨r3, σ3, h3, h⟩ := mi_b2 h
  refine fm_ci (va_runV (As := [.int x1, .int x2]) (rest := []) C (kX2_findPebble l K h3 _) (cwV 2 hts gX2_fetchPebble_X2_findPebble rfl rfl rfl (by decide +kernel) ⟨(Nat.le_of_ble_eq_true rfl), (Nat.le_of_ble_eq_true rfl)⟩) ⟨fm_blind, fm_recv hst hH (q := 24) (fm_inb (by decide)) rfl (fm_ob_24 _ _) rfl, fm_pre hst hA hH⟩ rfl rfl hl.1 rfl (lv_room (Nat.le_of_ble_eq_true rfl)) dX2_fetchPebble_3 ⟨(Nat.le_of_ble_eq_true rfl), (Nat.le_of_ble_eq_true rfl)⟩) hA hH (fun H locs hH => ?_)
  refine lv_istore_n (lv' := [(3, .int r3), (0, .ref (K.2.2.2 24)), (1, .int x1), (2, .int x2)]) hx hb dX2_fetchPebble_6 rfl hl (by decide) rfl (fun ls hl => ?_)
  refine lv_iload_n hx hb dX2_fetchPebble_7 rfl (lv_at hl 0 rfl) ?_
  refine lv_if_ge (tgt := 13) hx hb dX2_fetchPebble_8 (by decide) (fun hc => ?_) (fun hc => ?_)
  · replace h := mi_pos hc h
    refine lv_aload_n hx hb dX2_fetchPebble_13 rfl (lv_at hl 1 rfl) ?_
    refine fm_getf (T := TX2) (N := 3) hx hb hts (fun _ h => List.mem_cons_of_mem _ (List.mem_append_right _ h)) hown hst.1 hH 24 (fm_inb (by decide)) rfl (fm_ob_24 _ _) rfl 0 (by decide) (List.mem_of_getElem? (i := 1) rfl) rfl rfl dX2_fetchPebble_14 ?_
    refine lv_iload_n hx hb dX2_fetchPebble_17 rfl (lv_at hl 0 rfl) ?_
    refine lv_dup2_11 hx hb dX2_fetchPebble_18 rfl rfl ?_
    obtain ⟨hi1, h⟩ := mi_chk h
    refine fm_ild hx hb hst.1 hH 25 (fm_inb (by decide)) rfl rfl hi1 dX2_fetchPebble_19 ?_
    refine lv_iconst (v := 1) hx hb dX2_fetchPebble_20 (by decide) ?_
    refine lv_isub hx hb dX2_fetchPebble_21 ?_
    refine fm_ist hx hb hst.1 hH 25 (fm_inb (by decide)) rfl rfl hi1 dX2_fetchPebble_22 (fun H locs hH => ?_)
    refine lv_aload_n hx hb dX2_fetchPebble_23 rfl (lv_at hl 1 rfl) ?_
    refine fm_getf (T := TX2) (N := 3) hx hb hts (fun _ h => List.mem_cons_of_mem _ (List.mem_append_right _ h)) hown hst.1 hH 24 (fm_inb (by decide)) rfl (fm_ob_24 _ _) rfl 0 (by decide) (List.mem_of_getElem? (i := 1) rfl) rfl rfl dX2_fetchPebble_24 ?_
    refine lv_iload_n hx hb dX2_fetchPebble_27 rfl (lv_at hl 2 rfl) ?_
    refine lv_dup2_11 hx hb dX2_fetchPebble_28 rfl rfl ?_
    obtain ⟨hi2, h⟩ := mi_chk h
    refine fm_ild hx hb hst.1 hH 25 (fm_inb (by decide)) rfl rfl hi2 dX2_fetchPebble_29 ?_
    refine lv_iconst (v := 1) hx hb dX2_fetchPebble_30 (by decide) ?_
    refine lv_iadd hx hb dX2_fetchPebble_31 ?_
    refine fm_ist hx hb hst.1 hH 25 (fm_inb (by decide)) rfl rfl hi2 dX2_fetchPebble_32 (fun H locs hH => ?_)
    refine lv_aload_n hx hb dX2_fetchPebble_33 rfl (lv_at hl 1 rfl) ?_
    refine lv_iload_n hx hb dX2_fetchPebble_34 rfl (lv_at hl 0 rfl) ?_
    obtain ⟨σ35, h35, h⟩ := mi_b1 h
    refine fm_cv (va_runV (As := [.int r3]) (rest := []) C (kX2_turnArcs l K h35 _) (cwV 1 hts gX2_fetchPebble_X2_turnArcs rfl rfl rfl (by decide +kernel) ⟨(Nat.le_of_ble_eq_true rfl), (Nat.le_of_ble_eq_true rfl)⟩) ⟨fm_blind, fm_recv hst hH (q := 24) (fm_inb (by decide)) rfl (fm_ob_24 _ _) rfl, fm_pre hst hA hH⟩ rfl rfl hl.1 rfl (lv_room (Nat.le_of_ble_eq_true rfl)) dX2_fetchPebble_35 ⟨(Nat.le_of_ble_eq_true rfl), (Nat.le_of_ble_eq_true rfl)⟩) hA hH (fun H locs hH => ?_)
    refine lv_iconst (v := 1) hx hb dX2_fetchPebble_38 (by decide) ?_
    cases h
    subst hQ
    exact fm_zret hx hb hr rfl hlk hst hH dX2_fetchPebble_39
  · replace h := mi_neg hc h
    refine lv_iconst (v := 0) hx hb dX2_fetchPebble_11 (by decide) ?_
    cases h
    subst hQ
    exact fm_zret hx hb hr rfl hlk hst hH dX2_fetchPebble_12
/-! RX2.gatherPebbles(II)Z -/
abbrev rmX2_gatherPebbles : Room := { frames := 4, cells := 0, slots := 0, locals := 95 }
def mX2_gatherPebbles_L2 : Nat → Int32 → Int32 → Int32 → fm_S → Option (Except (Int32 × fm_S) (fm_S))
  | 0, _, _, _, _ => none
  | n + 1, x1, x2, x3, σ =>
    if (4 : Int32) ≤ x3 then
      some (.ok σ)
    else
      if (x1 < 0 ∨ 8 ≤ x1.toNatClampNeg) then none else
      if (x2 < 0 ∨ 8 ≤ x2.toNatClampNeg) then none else
      if ((rI σ 25 x1) + (rI σ 25 x2)) < (4 : Int32) then
        mb2 (mX2_fetchPebble x1 x2 σ) fun r29 σ29 =>
        if r29 = 0 then
          mb2 (mX2_fetchPebble x2 x1 σ29) fun r38 σ38 =>
          if r38 = 0 then
            some (.error ((0 : Int32), σ38))
          else
            mX2_gatherPebbles_L2 n x1 x2 (x3 + 1) σ38
        else
          mX2_gatherPebbles_L2 n x1 x2 (x3 + 1) σ29
      else
        some (.error ((1 : Int32), σ))
set_option maxHeartbeats 4000000 in
set_option maxRecDepth 100000 in
theorem wX2_gatherPebbles_L2 {p : Program} {l : Launch} {e : Env} {s : State} {m : MethodId} {args : Array Value} {below : List Frame} {meth : Method} {c : Code} {Q : State → Prop} {K : fm_K} {A : Nat → Prop} (C : CallFix p m c cX2_gatherPebbles 4 s args wsX2_gatherPebbles RX2) (hst : fm_st K A s s.heap) (hA : ∀ q, fm_A K s.heap.size q → A q) :
    ∀ (n : Nat) (x1 : Int32) (x2 : Int32) (x3 : Int32) (σ : fm_S) (x : Except (Int32 × fm_S) (fm_S)), mX2_gatherPebbles_L2 n x1 x2 x3 σ = some x → (∀ (σo : fm_S), x = .ok σo → ∀ (ls : Array Slot) (H : Heap) (locs : List Loc), lv_has ls 4 [(0, .ref (K.2.2.2 24)), (1, .int x1), (2, .int x2)] → fm_H K σo A s H locs → W p l e rmX2_gatherPebbles s m args below meth c H locs 0 0 Q (F0 m 52 ls [])) → (∀ (ve : Int32) (σe : fm_S), x = .error (ve, σe) → ∀ (pcR : Nat) (ls : Array Slot) (H : Heap) (locs : List Loc), decode cX2_gatherPebbles pcR = .ok (.ireturn, 1) → vp_nar .boolean ve = ve → fm_H K σe A s H locs → W p l e rmX2_gatherPebbles s m args below meth c H locs 0 0 Q (F0 m pcR ls [.int ve])) → ∀ (ls : Array Slot) (H : Heap) (locs : List Loc), lv_has ls 4 [(0, .ref (K.2.2.2 24)), (1, .int x1), (2, .int x2), (3, .int x3)] → fm_H K σ A s H locs → W p l e rmX2_gatherPebbles s m args below meth c H locs 0 0 Q (F0 m 2 ls []) := by
  obtain ⟨hx, hb, hml, hown, hts⟩ := id C
  intro n
  induction n with
  | zero => intro x1 x2 x3 σ x h; simp [mX2_gatherPebbles_L2] at h
  | succ n ih =>
    intro x1 x2 x3 σ x h kk kr ls H locs hl hH
    rw [mX2_gatherPebbles_L2] at h
    refine lv_iload_n hx hb dX2_gatherPebbles_2 rfl (lv_at hl 3 rfl) ?_
    refine lv_iconst (v := 4) hx hb dX2_gatherPebbles_3 (by decide) ?_
    refine lv_icmp_ge (tgt := 52) hx hb dX2_gatherPebbles_4 (by decide) (fun hc => ?_) (fun hc => ?_)
    · replace h := mi_pos hc h
      cases h
      exact kk _ rfl _ _ _ (lv_sub hl [0, 1, 2] rfl) hH
    · replace h := mi_neg hc h
      refine lv_aload_n hx hb dX2_gatherPebbles_7 rfl (lv_at hl 0 rfl) ?_
      refine fm_getf (T := TX2) (N := 3) hx hb hts (fun _ h => List.mem_cons_of_mem _ (List.mem_append_right _ h)) hown hst.1 hH 24 (fm_inb (by decide)) rfl (fm_ob_24 _ _) rfl 0 (by decide) (List.mem_of_getElem? (i := 1) rfl) rfl rfl dX2_gatherPebbles_8 ?_
      refine lv_iload_n hx hb dX2_gatherPebbles_11 rfl (lv_at hl 1 rfl) ?_
      obtain ⟨hi1, h⟩ := mi_chk h
      refine fm_ild hx hb hst.1 hH 25 (fm_inb (by decide)) rfl rfl hi1 dX2_gatherPebbles_12 ?_
      refine lv_aload_n hx hb dX2_gatherPebbles_13 rfl (lv_at hl 0 rfl) ?_
      refine fm_getf (T := TX2) (N := 3) hx hb hts (fun _ h => List.mem_cons_of_mem _ (List.mem_append_right _ h)) hown hst.1 hH 24 (fm_inb (by decide)) rfl (fm_ob_24 _ _) rfl 0 (by decide) (List.mem_of_getElem? (i := 1) rfl) rfl rfl dX2_gatherPebbles_14 ?_
      refine lv_iload_n hx hb dX2_gatherPebbles_17 rfl (lv_at hl 2 rfl) ?_
      obtain ⟨hi2, h⟩ := mi_chk h
      refine fm_ild hx hb hst.1 hH 25 (fm_inb (by decide)) rfl rfl hi2 dX2_gatherPebbles_18 ?_
      refine lv_iadd hx hb dX2_gatherPebbles_19 ?_
      refine lv_iconst (v := 4) hx hb dX2_gatherPebbles_20 (by decide) ?_
      refine lv_icmp_lt (tgt := 26) hx hb dX2_gatherPebbles_21 (by decide) (fun hc => ?_) (fun hc => ?_)
      · replace h := mi_pos hc h
        refine lv_aload_n hx hb dX2_gatherPebbles_26 rfl (lv_at hl 0 rfl) ?_
        refine lv_iload_n hx hb dX2_gatherPebbles_27 rfl (lv_at hl 1 rfl) ?_
        refine lv_iload_n hx hb dX2_gatherPebbles_28 rfl (lv_at hl 2 rfl) ?_
        obtain ⟨r29, σ29, h29, h⟩ := mi_b2 h
        refine fm_ci (va_runV (As := [.int x1, .int x2]) (rest := []) C (kX2_fetchPebble l K h29 _) (cwV 2 hts gX2_gatherPebbles_X2_fetchPebble rfl rfl rfl (by decide +kernel) ⟨(Nat.le_of_ble_eq_true rfl), (Nat.le_of_ble_eq_true rfl)⟩) ⟨fm_blind, fm_recv hst hH (q := 24) (fm_inb (by decide)) rfl (fm_ob_24 _ _) rfl, fm_pre hst hA hH⟩ rfl rfl hl.1 rfl (lv_room (Nat.le_of_ble_eq_true rfl)) dX2_gatherPebbles_29 ⟨(Nat.le_of_ble_eq_true rfl), (Nat.le_of_ble_eq_true rfl)⟩) hA hH (fun H locs hH => ?_)
        refine lv_if_ne (tgt := 46) hx hb dX2_gatherPebbles_32 (by decide) (fun hc => ?_) (fun hc => ?_)
        · replace h := mi_neg hc h
          refine lv_iinc (v := (x3 + 1)) (lv' := [(3, .int (x3 + 1)), (0, .ref (K.2.2.2 24)), (1, .int x1), (2, .int x2)]) hx hb dX2_gatherPebbles_46 hl (k := 3) rfl rfl (by decide) rfl (fun ls hl => ?_)
          refine lv_goto (tgt := 2) hx hb dX2_gatherPebbles_49 (by decide) ?_
          exact ih _ _ _ _ _ h kk kr _ _ _ (lv_sub hl [1, 2, 3, 0] rfl) hH
        · replace h := mi_pos hc h
          refine lv_aload_n hx hb dX2_gatherPebbles_35 rfl (lv_at hl 0 rfl) ?_
          refine lv_iload_n hx hb dX2_gatherPebbles_36 rfl (lv_at hl 2 rfl) ?_
          refine lv_iload_n hx hb dX2_gatherPebbles_37 rfl (lv_at hl 1 rfl) ?_
          obtain ⟨r38, σ38, h38, h⟩ := mi_b2 h
          refine fm_ci (va_runV (As := [.int x2, .int x1]) (rest := []) C (kX2_fetchPebble l K h38 _) (cwV 2 hts gX2_gatherPebbles_X2_fetchPebble rfl rfl rfl (by decide +kernel) ⟨(Nat.le_of_ble_eq_true rfl), (Nat.le_of_ble_eq_true rfl)⟩) ⟨fm_blind, fm_recv hst hH (q := 24) (fm_inb (by decide)) rfl (fm_ob_24 _ _) rfl, fm_pre hst hA hH⟩ rfl rfl hl.1 rfl (lv_room (Nat.le_of_ble_eq_true rfl)) dX2_gatherPebbles_38 ⟨(Nat.le_of_ble_eq_true rfl), (Nat.le_of_ble_eq_true rfl)⟩) hA hH (fun H locs hH => ?_)
          refine lv_if_ne (tgt := 46) hx hb dX2_gatherPebbles_41 (by decide) (fun hc => ?_) (fun hc => ?_)
          · replace h := mi_neg hc h
            refine lv_iinc (v := (x3 + 1)) (lv' := [(3, .int (x3 + 1)), (0, .ref (K.2.2.2 24)), (1, .int x1), (2, .int x2)]) hx hb dX2_gatherPebbles_46 hl (k := 3) rfl rfl (by decide) rfl (fun ls hl => ?_)
            refine lv_goto (tgt := 2) hx hb dX2_gatherPebbles_49 (by decide) ?_
            exact ih _ _ _ _ _ h kk kr _ _ _ (lv_sub hl [1, 2, 3, 0] rfl) hH
          · replace h := mi_pos hc h
            refine lv_iconst (v := 0) hx hb dX2_gatherPebbles_44 (by decide) ?_
            cases h
            exact kr _ _ rfl _ _ _ _ dX2_gatherPebbles_45 rfl hH
      · replace h := mi_neg hc h
        refine lv_iconst (v := 1) hx hb dX2_gatherPebbles_24 (by decide) ?_
        cases h
        exact kr _ _ rfl _ _ _ _ dX2_gatherPebbles_25 rfl hH
def mX2_gatherPebbles (x1 : Int32) (x2 : Int32) (σ : fm_S) : Option (Int32 × fm_S) :=
  ml1 (mX2_gatherPebbles_L2 fF x1 x2 (0 : Int32) σ) (fun σ2 =>
    if (x1 < 0 ∨ 8 ≤ x1.toNatClampNeg) then none else
    if (x2 < 0 ∨ 8 ≤ x2.toNatClampNeg) then none else
    if ((rI σ2 25 x1) + (rI σ2 25 x2)) < (4 : Int32) then
      some ((0 : Int32), σ2)
    else
      some ((1 : Int32), σ2)) (fun e => some e)
set_option maxHeartbeats 4000000 in
set_option maxRecDepth 100000 in
theorem kX2_gatherPebbles (l : Launch) (K : fm_K) {x1 : Int32} {x2 : Int32} {σ : fm_S} {r : Int32} {σ' : fm_S} (h : mX2_gatherPebbles x1 x2 σ = some (r, σ')) : fm_CI l yX2_gatherPebbles wsX2_gatherPebbles rmX2_gatherPebbles K [.ref (K.2.2.2 24), .int x1, .int x2] σ r σ' := by
  intro sz
  refine fm_start (Qc := fun sz => fm_QI K r σ' sz) (cc := cX2_gatherPebbles) (maxL := 4) (ret := (some .boolean)) (by decide) rfl (Nat.le_of_ble_eq_true rfl) ?_
  intro p e s m args below meth c C hr hlk hst hH ls hl
  have C : CallFix p m c cX2_gatherPebbles 4 s args wsX2_gatherPebbles RX2 := C
  obtain ⟨hx, hb, hml, hown, hts⟩ := id C
  have hA : ∀ q, fm_A K s.heap.size q → fm_A K s.heap.size q := fun _ h => h
  have hl : lv_has ls 4 [(0, .ref (K.2.2.2 24)), (1, .int x1), (2, .int x2)] := hl
  generalize hQ : MQ below _ args s _ _ _ = Q
  rw [mX2_gatherPebbles] at h
  refine lv_iconst (v := 0) hx hb dX2_gatherPebbles_0 (by decide) ?_
  refine lv_istore_n (lv' := [(3, .int (0 : Int32)), (0, .ref (K.2.2.2 24)), (1, .int x1), (2, .int x2)]) hx hb dX2_gatherPebbles_1 rfl hl (by decide) rfl (fun ls hl => ?_)
  obtain ⟨x2_, h2, hok, her⟩ := mi_l1 h
  refine wX2_gatherPebbles_L2 C hst hA _ _ _ _ _ _ h2 (fun σ2 hx1 ls H locs hl hH => ?_) (fun ve σe hx1 pcR ls H locs hdg hz hH => ?_) _ _ _ (lv_sub hl [1, 2, 3, 0] rfl) hH
  · replace h := hok _ hx1
    clear hok her
    refine lv_aload_n hx hb dX2_gatherPebbles_52 rfl (lv_at hl 0 rfl) ?_
    refine fm_getf (T := TX2) (N := 3) hx hb hts (fun _ h => List.mem_cons_of_mem _ (List.mem_append_right _ h)) hown hst.1 hH 24 (fm_inb (by decide)) rfl (fm_ob_24 _ _) rfl 0 (by decide) (List.mem_of_getElem? (i := 1) rfl) rfl rfl dX2_gatherPebbles_53 ?_
    refine lv_iload_n hx hb dX2_gatherPebbles_56 rfl (lv_at hl 1 rfl) ?_
    obtain ⟨hi3, h⟩ := mi_chk h
    refine fm_ild hx hb hst.1 hH 25 (fm_inb (by decide)) rfl rfl hi3 dX2_gatherPebbles_57 ?_
    refine lv_aload_n hx hb dX2_gatherPebbles_58 rfl (lv_at hl 0 rfl) ?_
    refine fm_getf (T := TX2) (N := 3) hx hb hts (fun _ h => List.mem_cons_of_mem _ (List.mem_append_right _ h)) hown hst.1 hH 24 (fm_inb (by decide)) rfl (fm_ob_24 _ _) rfl 0 (by decide) (List.mem_of_getElem? (i := 1) rfl) rfl rfl dX2_gatherPebbles_59 ?_
    refine lv_iload_n hx hb dX2_gatherPebbles_62 rfl (lv_at hl 2 rfl) ?_
    obtain ⟨hi4, h⟩ := mi_chk h
    refine fm_ild hx hb hst.1 hH 25 (fm_inb (by decide)) rfl rfl hi4 dX2_gatherPebbles_63 ?_
    refine lv_iadd hx hb dX2_gatherPebbles_64 ?_
    refine lv_iconst (v := 4) hx hb dX2_gatherPebbles_65 (by decide) ?_
    refine lv_icmp_lt (tgt := 73) hx hb dX2_gatherPebbles_66 (by decide) (fun hc => ?_) (fun hc => ?_)
    · replace h := mi_pos hc h
      refine lv_iconst (v := 0) hx hb dX2_gatherPebbles_73 (by decide) ?_
      cases h
      subst hQ
      exact fm_zret hx hb hr rfl hlk hst hH dX2_gatherPebbles_74
    · replace h := mi_neg hc h
      refine lv_iconst (v := 1) hx hb dX2_gatherPebbles_69 (by decide) ?_
      refine lv_goto (tgt := 74) hx hb dX2_gatherPebbles_70 (by decide) ?_
      cases h
      subst hQ
      exact fm_zret hx hb hr rfl hlk hst hH dX2_gatherPebbles_74
  · replace h := her _ hx1
    cases h
    subst hQ
    exact fm_zret hx hb hr hz hlk hst hH hdg
/-! RX2.rankOf(LFormationist$Net;)I -/
abbrev rmX2_rankOf : Room := { frames := 5, cells := 0, slots := 0, locals := 118 }
def mX2_rankOf_L29 : Nat → Int32 → Int32 → Int32 → fm_S → Option (Int32 × fm_S)
  | 0, _, _, _, _ => none
  | n + 1, x2, x3, x4, σ =>
    if x3 ≤ x4 then
      some (x2, σ)
    else
      mb1 (mX1_joins20 x3 x4 σ) fun r39 =>
      if r39 = 0 then
        mX2_rankOf_L29 n x2 x3 (x4 + 1) σ
      else
        mb2 (mX2_gatherPebbles x3 x4 σ) fun r49 σ49 =>
        if r49 = 0 then
          mX2_rankOf_L29 n x2 x3 (x4 + 1) σ49
        else
          if (x3 < 0 ∨ 8 ≤ x3.toNatClampNeg) then none else
          mb1 (mX1_with (rI (sI σ49 25 x3 ((rI σ49 25 x3) - (1 : Int32))) 26 x3) x4) fun r78 =>
          mX2_rankOf_L29 n (x2 + 1) x3 (x4 + 1) (sI (sI σ49 25 x3 ((rI σ49 25 x3) - (1 : Int32))) 26 x3 r78)
set_option maxHeartbeats 4000000 in
set_option maxRecDepth 100000 in
theorem wX2_rankOf_L29 {p : Program} {l : Launch} {e : Env} {s : State} {m : MethodId} {args : Array Value} {below : List Frame} {meth : Method} {c : Code} {Q : State → Prop} {K : fm_K} {A : Nat → Prop} (C : CallFix p m c cX2_rankOf 5 s args wsX2_rankOf RX2) (hst : fm_st K A s s.heap) (hA : ∀ q, fm_A K s.heap.size q → A q) :
    ∀ (n : Nat) (x2 : Int32) (x3 : Int32) (x4 : Int32) (σ : fm_S) (o2 : Int32) (σo : fm_S), mX2_rankOf_L29 n x2 x3 x4 σ = some (o2, σo) → (∀ (ls : Array Slot) (H : Heap) (locs : List Loc), lv_has ls 5 [(0, .ref (K.2.2.2 24)), (1, .ref (K.2.2.2 20)), (2, .int o2), (3, .int x3)] → fm_H K σo A s H locs → W p l e rmX2_rankOf s m args below meth c H locs 0 0 Q (F0 m 91 ls [])) → ∀ (ls : Array Slot) (H : Heap) (locs : List Loc), lv_has ls 5 [(0, .ref (K.2.2.2 24)), (1, .ref (K.2.2.2 20)), (2, .int x2), (3, .int x3), (4, .int x4)] → fm_H K σ A s H locs → W p l e rmX2_rankOf s m args below meth c H locs 0 0 Q (F0 m 29 ls []) := by
  obtain ⟨hx, hb, hml, hown, hts⟩ := id C
  intro n
  induction n with
  | zero => intro x2 x3 x4 σ o2 σo h; simp [mX2_rankOf_L29] at h
  | succ n ih =>
    intro x2 x3 x4 σ o2 σo h kk ls H locs hl hH
    rw [mX2_rankOf_L29] at h
    refine lv_iload hx hb dX2_rankOf_29 (lv_at hl 4 rfl) ?_
    refine lv_iload_n hx hb dX2_rankOf_31 rfl (lv_at hl 3 rfl) ?_
    refine lv_icmp_ge (tgt := 91) hx hb dX2_rankOf_32 (by decide) (fun hc => ?_) (fun hc => ?_)
    · replace h := mi_pos hc h
      cases h
      exact kk _ _ _ (lv_sub hl [0, 1, 2, 3] rfl) hH
    · replace h := mi_neg hc h
      refine lv_aload_n hx hb dX2_rankOf_35 rfl (lv_at hl 1 rfl) ?_
      refine lv_iload_n hx hb dX2_rankOf_36 rfl (lv_at hl 3 rfl) ?_
      refine lv_iload hx hb dX2_rankOf_37 (lv_at hl 4 rfl) ?_
      obtain ⟨r39, h39, h⟩ := mi_b1 h
      refine fm_ci (va_runVN (As := [.int x3, .int x4]) (rest := []) C (kX1_joins20 l K h39 _) ⟨va_cnB 2 hts gX2_rankOf_X1_joins_n27 rfl rfl rfl (hst.2.1 (RX2, 27, yX1_joins) (List.mem_of_getElem? (i := 13) rfl)) (hts (.initialized RX1) (List.mem_of_getElem? (i := 8) rfl)) (by decide +kernel) ⟨(Nat.le_of_ble_eq_true rfl), (Nat.le_of_ble_eq_true rfl)⟩, (hts (.instanceMethod yX1_joins) (List.mem_of_getElem? (i := 7) rfl)), (hts (.selects RX1 yX1_joins yX1_joins) (List.mem_of_getElem? (i := 9) rfl))⟩ ⟨fm_blind, fm_recv hst hH (q := 20) (fm_inb (by decide)) rfl (fm_ob_20 _ _) rfl, fm_pre hst hA hH⟩ rfl rfl hl.1 rfl (lv_room (Nat.le_of_ble_eq_true rfl)) dX2_rankOf_39 ⟨(Nat.le_of_ble_eq_true rfl), (Nat.le_of_ble_eq_true rfl)⟩) hA hH (fun H locs hH => ?_)
      refine lv_if_eq (tgt := 85) hx hb dX2_rankOf_42 (by decide) (fun hc => ?_) (fun hc => ?_)
      · replace h := mi_pos hc h
        refine lv_iinc (v := (x4 + 1)) (lv' := [(4, .int (x4 + 1)), (0, .ref (K.2.2.2 24)), (1, .ref (K.2.2.2 20)), (2, .int x2), (3, .int x3)]) hx hb dX2_rankOf_85 hl (k := 4) rfl rfl (by decide) rfl (fun ls hl => ?_)
        refine lv_goto (tgt := 29) hx hb dX2_rankOf_88 (by decide) ?_
        exact ih _ _ _ _ _ _ h kk _ _ _ (lv_sub hl [1, 2, 3, 4, 0] rfl) hH
      · replace h := mi_neg hc h
        refine lv_aload_n hx hb dX2_rankOf_45 rfl (lv_at hl 0 rfl) ?_
        refine lv_iload_n hx hb dX2_rankOf_46 rfl (lv_at hl 3 rfl) ?_
        refine lv_iload hx hb dX2_rankOf_47 (lv_at hl 4 rfl) ?_
        obtain ⟨r49, σ49, h49, h⟩ := mi_b2 h
        refine fm_ci (va_runV (As := [.int x3, .int x4]) (rest := []) C (kX2_gatherPebbles l K h49 _) (cwV 2 hts gX2_rankOf_X2_gatherPebbles rfl rfl rfl (by decide +kernel) ⟨(Nat.le_of_ble_eq_true rfl), (Nat.le_of_ble_eq_true rfl)⟩) ⟨fm_blind, fm_recv hst hH (q := 24) (fm_inb (by decide)) rfl (fm_ob_24 _ _) rfl, fm_pre hst hA hH⟩ rfl rfl hl.1 rfl (lv_room (Nat.le_of_ble_eq_true rfl)) dX2_rankOf_49 ⟨(Nat.le_of_ble_eq_true rfl), (Nat.le_of_ble_eq_true rfl)⟩) hA hH (fun H locs hH => ?_)
        refine lv_if_eq (tgt := 85) hx hb dX2_rankOf_52 (by decide) (fun hc => ?_) (fun hc => ?_)
        · replace h := mi_pos hc h
          refine lv_iinc (v := (x4 + 1)) (lv' := [(4, .int (x4 + 1)), (0, .ref (K.2.2.2 24)), (1, .ref (K.2.2.2 20)), (2, .int x2), (3, .int x3)]) hx hb dX2_rankOf_85 hl (k := 4) rfl rfl (by decide) rfl (fun ls hl => ?_)
          refine lv_goto (tgt := 29) hx hb dX2_rankOf_88 (by decide) ?_
          exact ih _ _ _ _ _ _ h kk _ _ _ (lv_sub hl [1, 2, 3, 4, 0] rfl) hH
        · replace h := mi_neg hc h
          refine lv_aload_n hx hb dX2_rankOf_55 rfl (lv_at hl 0 rfl) ?_
          refine fm_getf (T := TX2) (N := 3) hx hb hts (fun _ h => List.mem_cons_of_mem _ (List.mem_append_left _ (List.mem_append_right _ h))) hown hst.1 hH 24 (fm_inb (by decide)) rfl (fm_ob_24 _ _) rfl 0 (by decide) (List.mem_of_getElem? (i := 1) rfl) rfl rfl dX2_rankOf_56 ?_
          refine lv_iload_n hx hb dX2_rankOf_59 rfl (lv_at hl 3 rfl) ?_
          refine lv_dup2_11 hx hb dX2_rankOf_60 rfl rfl ?_
          obtain ⟨hi1, h⟩ := mi_chk h
          refine fm_ild hx hb hst.1 hH 25 (fm_inb (by decide)) rfl rfl hi1 dX2_rankOf_61 ?_
          refine lv_iconst (v := 1) hx hb dX2_rankOf_62 (by decide) ?_
          refine lv_isub hx hb dX2_rankOf_63 ?_
          refine fm_ist hx hb hst.1 hH 25 (fm_inb (by decide)) rfl rfl hi1 dX2_rankOf_64 (fun H locs hH => ?_)
          refine lv_aload_n hx hb dX2_rankOf_65 rfl (lv_at hl 0 rfl) ?_
          refine fm_getf (T := TX2) (N := 3) hx hb hts (fun _ h => List.mem_cons_of_mem _ (List.mem_append_left _ (List.mem_append_right _ h))) hown hst.1 hH 24 (fm_inb (by decide)) rfl (fm_ob_24 _ _) rfl 1 (by decide) (List.mem_of_getElem? (i := 2) rfl) rfl rfl dX2_rankOf_66 ?_
          refine lv_iload_n hx hb dX2_rankOf_69 rfl (lv_at hl 3 rfl) ?_
          refine lv_aload_n hx hb dX2_rankOf_70 rfl (lv_at hl 0 rfl) ?_
          refine fm_getf (T := TX2) (N := 3) hx hb hts (fun _ h => List.mem_cons_of_mem _ (List.mem_append_left _ (List.mem_append_right _ h))) hown hst.1 hH 24 (fm_inb (by decide)) rfl (fm_ob_24 _ _) rfl 1 (by decide) (List.mem_of_getElem? (i := 2) rfl) rfl rfl dX2_rankOf_71 ?_
          refine lv_iload_n hx hb dX2_rankOf_74 rfl (lv_at hl 3 rfl) ?_
          refine fm_ild hx hb hst.1 hH 26 (fm_inb (by decide)) rfl rfl hi1 dX2_rankOf_75 ?_
          refine lv_iload hx hb dX2_rankOf_76 (lv_at hl 4 rfl) ?_
          obtain ⟨r78, h78, h⟩ := mi_b1 h
          refine fm_ci (va_runSN (As := [.int (rI (sI σ49 25 x3 ((rI σ49 25 x3) - (1 : Int32))) 26 x3), .int x4]) (rest := [.int x3, .ref (K.2.2.2 26)]) C (kX1_with l K h78 _) ⟨va_cnB 2 hts gX2_rankOf_X1_with_n36 rfl rfl rfl (hst.2.1 (RX2, 36, yX1_with) (List.mem_of_getElem? (i := 14) rfl)) (hts (.initialized RX1) (List.mem_of_getElem? (i := 8) rfl)) (by decide +kernel) ⟨(Nat.le_of_ble_eq_true rfl), (Nat.le_of_ble_eq_true rfl)⟩, (hts (.static yX1_with) (List.mem_of_getElem? (i := 29) rfl)), trivial⟩ ⟨fm_blind, fm_pre hst hA hH⟩ rfl rfl hl.1 rfl (lv_room (Nat.le_of_ble_eq_true rfl)) dX2_rankOf_78 ⟨(Nat.le_of_ble_eq_true rfl), (Nat.le_of_ble_eq_true rfl)⟩) hA hH (fun H locs hH => ?_)
          refine fm_ist hx hb hst.1 hH 26 (fm_inb (by decide)) rfl rfl hi1 dX2_rankOf_81 (fun H locs hH => ?_)
          refine lv_iinc (v := (x2 + 1)) (lv' := [(2, .int (x2 + 1)), (0, .ref (K.2.2.2 24)), (1, .ref (K.2.2.2 20)), (3, .int x3), (4, .int x4)]) hx hb dX2_rankOf_82 hl (k := 2) rfl rfl (by decide) rfl (fun ls hl => ?_)
          refine lv_iinc (v := (x4 + 1)) (lv' := [(4, .int (x4 + 1)), (2, .int (x2 + 1)), (0, .ref (K.2.2.2 24)), (1, .ref (K.2.2.2 20)), (3, .int x3)]) hx hb dX2_rankOf_85 hl (k := 4) rfl rfl (by decide) rfl (fun ls hl => ?_)
          refine lv_goto (tgt := 29) hx hb dX2_rankOf_88 (by decide) ?_
          exact ih _ _ _ _ _ _ h kk _ _ _ (lv_sub hl [2, 3, 1, 4, 0] rfl) hH
def mX2_rankOf_L20 : Nat → Int32 → Int32 → fm_S → Option (Int32 × fm_S)
  | 0, _, _, _ => none
  | n + 1, x2, x3, σ =>
    if (8 : Int32) ≤ x3 then
      some (x2, σ)
    else
      mb2 (mX2_rankOf_L29 fF x2 x3 (0 : Int32) σ) fun y29_2 σ29 =>
      mX2_rankOf_L20 n y29_2 (x3 + 1) σ29
set_option maxHeartbeats 4000000 in
set_option maxRecDepth 100000 in
theorem wX2_rankOf_L20 {p : Program} {l : Launch} {e : Env} {s : State} {m : MethodId} {args : Array Value} {below : List Frame} {meth : Method} {c : Code} {Q : State → Prop} {K : fm_K} {A : Nat → Prop} (C : CallFix p m c cX2_rankOf 5 s args wsX2_rankOf RX2) (hst : fm_st K A s s.heap) (hA : ∀ q, fm_A K s.heap.size q → A q) :
    ∀ (n : Nat) (x2 : Int32) (x3 : Int32) (σ : fm_S) (o2 : Int32) (σo : fm_S), mX2_rankOf_L20 n x2 x3 σ = some (o2, σo) → (∀ (ls : Array Slot) (H : Heap) (locs : List Loc), lv_has ls 5 [(2, .int o2)] → fm_H K σo A s H locs → W p l e rmX2_rankOf s m args below meth c H locs 0 0 Q (F0 m 97 ls [])) → ∀ (ls : Array Slot) (H : Heap) (locs : List Loc), lv_has ls 5 [(0, .ref (K.2.2.2 24)), (1, .ref (K.2.2.2 20)), (2, .int x2), (3, .int x3)] → fm_H K σ A s H locs → W p l e rmX2_rankOf s m args below meth c H locs 0 0 Q (F0 m 20 ls []) := by
  obtain ⟨hx, hb, hml, hown, hts⟩ := id C
  intro n
  induction n with
  | zero => intro x2 x3 σ o2 σo h; simp [mX2_rankOf_L20] at h
  | succ n ih =>
    intro x2 x3 σ o2 σo h kk ls H locs hl hH
    rw [mX2_rankOf_L20] at h
    refine lv_iload_n hx hb dX2_rankOf_20 rfl (lv_at hl 3 rfl) ?_
    refine lv_bipush (v := 8) hx hb dX2_rankOf_21 (by decide) ?_
    refine lv_icmp_ge (tgt := 97) hx hb dX2_rankOf_23 (by decide) (fun hc => ?_) (fun hc => ?_)
    · replace h := mi_pos hc h
      cases h
      exact kk _ _ _ (lv_sub hl [2] rfl) hH
    · replace h := mi_neg hc h
      refine lv_iconst (v := 0) hx hb dX2_rankOf_26 (by decide) ?_
      refine lv_istore (lv' := [(4, .int (0 : Int32)), (0, .ref (K.2.2.2 24)), (1, .ref (K.2.2.2 20)), (2, .int x2), (3, .int x3)]) hx hb dX2_rankOf_27 hl (by decide) rfl (fun ls hl => ?_)
      obtain ⟨y29_2, σ29, h29, h⟩ := mi_b2 h
      refine wX2_rankOf_L29 C hst hA _ _ _ _ _ _ _ h29 (fun ls H locs hl hH => ?_) _ _ _ (lv_sub hl [1, 2, 3, 4, 0] rfl) hH
      refine lv_iinc (v := (x3 + 1)) (lv' := [(3, .int (x3 + 1)), (0, .ref (K.2.2.2 24)), (1, .ref (K.2.2.2 20)), (2, .int y29_2)]) hx hb dX2_rankOf_91 hl (k := 3) rfl rfl (by decide) rfl (fun ls hl => ?_)
      refine lv_goto (tgt := 20) hx hb dX2_rankOf_94 (by decide) ?_
      exact ih _ _ _ _ _ h kk _ _ _ (lv_sub hl [1, 2, 3, 0] rfl) hH
def mX2_rankOf (σ : fm_S) : Option (Int32 × fm_S) :=
  mb1 (mJ7_fill_53178 25 (2 : Int32) σ) fun σ5 =>
  mb1 (mJ7_fill_53178 26 (0 : Int32) σ5) fun σ13 =>
  mb2 (mX2_rankOf_L20 fF (0 : Int32) (0 : Int32) σ13) fun y20_2 σ20 =>
  some (y20_2, σ20)
set_option maxHeartbeats 4000000 in
set_option maxRecDepth 100000 in
theorem kX2_rankOf (l : Launch) (K : fm_K) {σ : fm_S} {r : Int32} {σ' : fm_S} (h : mX2_rankOf σ = some (r, σ')) : fm_CI l yX2_rankOf wsX2_rankOf rmX2_rankOf K [.ref (K.2.2.2 24), .ref (K.2.2.2 20)] σ r σ' := by
  intro sz
  refine fm_start (Qc := fun sz => fm_QI K r σ' sz) (cc := cX2_rankOf) (maxL := 5) (ret := (some .int)) (by decide) rfl (Nat.le_of_ble_eq_true rfl) ?_
  intro p e s m args below meth c C hr hlk hst hH ls hl
  have C : CallFix p m c cX2_rankOf 5 s args wsX2_rankOf RX2 := C
  obtain ⟨hx, hb, hml, hown, hts⟩ := id C
  have hA : ∀ q, fm_A K s.heap.size q → fm_A K s.heap.size q := fun _ h => h
  have hl : lv_has ls 5 [(0, .ref (K.2.2.2 24)), (1, .ref (K.2.2.2 20))] := hl
  generalize hQ : MQ below _ args s _ _ _ = Q
  rw [mX2_rankOf] at h
  refine lv_aload_n hx hb dX2_rankOf_0 rfl (lv_at hl 0 rfl) ?_
  refine fm_getf (T := TX2) (N := 3) hx hb hts (fun _ h => List.mem_cons_of_mem _ (List.mem_append_left _ (List.mem_append_right _ h))) hown hst.1 hH 24 (fm_inb (by decide)) rfl (fm_ob_24 _ _) rfl 0 (by decide) (List.mem_of_getElem? (i := 1) rfl) rfl rfl dX2_rankOf_1 ?_
  refine lv_iconst (v := 2) hx hb dX2_rankOf_4 (by decide) ?_
  obtain ⟨σ5, h5, h⟩ := mi_b1 h
  refine fm_cv (va_runS (As := [.ref (K.2.2.2 25), .int (2 : Int32)]) (rest := []) C (kJ7_fill_53178 l K (fm_inb (by decide)) rfl h5 _) (va_cwS 2 hts gX2_rankOf_J7_fill_53178 rfl rfl rfl (by decide +kernel) ⟨(Nat.le_of_ble_eq_true rfl), (Nat.le_of_ble_eq_true rfl)⟩) ⟨fm_blind, fm_pre hst hA hH⟩ rfl rfl hl.1 rfl (lv_room (Nat.le_of_ble_eq_true rfl)) dX2_rankOf_5 ⟨(Nat.le_of_ble_eq_true rfl), (Nat.le_of_ble_eq_true rfl)⟩) hA hH (fun H locs hH => ?_)
  refine lv_aload_n hx hb dX2_rankOf_8 rfl (lv_at hl 0 rfl) ?_
  refine fm_getf (T := TX2) (N := 3) hx hb hts (fun _ h => List.mem_cons_of_mem _ (List.mem_append_left _ (List.mem_append_right _ h))) hown hst.1 hH 24 (fm_inb (by decide)) rfl (fm_ob_24 _ _) rfl 1 (by decide) (List.mem_of_getElem? (i := 2) rfl) rfl rfl dX2_rankOf_9 ?_
  refine lv_iconst (v := 0) hx hb dX2_rankOf_12 (by decide) ?_
  obtain ⟨σ13, h13, h⟩ := mi_b1 h
  refine fm_cv (va_runS (As := [.ref (K.2.2.2 26), .int (0 : Int32)]) (rest := []) C (kJ7_fill_53178 l K (fm_inb (by decide)) rfl h13 _) (va_cwS 2 hts gX2_rankOf_J7_fill_53178 rfl rfl rfl (by decide +kernel) ⟨(Nat.le_of_ble_eq_true rfl), (Nat.le_of_ble_eq_true rfl)⟩) ⟨fm_blind, fm_pre hst hA hH⟩ rfl rfl hl.1 rfl (lv_room (Nat.le_of_ble_eq_true rfl)) dX2_rankOf_13 ⟨(Nat.le_of_ble_eq_true rfl), (Nat.le_of_ble_eq_true rfl)⟩) hA hH (fun H locs hH => ?_)
  refine lv_iconst (v := 0) hx hb dX2_rankOf_16 (by decide) ?_
  refine lv_istore_n (lv' := [(2, .int (0 : Int32)), (0, .ref (K.2.2.2 24)), (1, .ref (K.2.2.2 20))]) hx hb dX2_rankOf_17 rfl hl (by decide) rfl (fun ls hl => ?_)
  refine lv_iconst (v := 0) hx hb dX2_rankOf_18 (by decide) ?_
  refine lv_istore_n (lv' := [(3, .int (0 : Int32)), (2, .int (0 : Int32)), (0, .ref (K.2.2.2 24)), (1, .ref (K.2.2.2 20))]) hx hb dX2_rankOf_19 rfl hl (by decide) rfl (fun ls hl => ?_)
  obtain ⟨y20_2, σ20, h20, h⟩ := mi_b2 h
  refine wX2_rankOf_L20 C hst hA _ _ _ _ _ _ h20 (fun ls H locs hl hH => ?_) _ _ _ (lv_sub hl [2, 3, 1, 0] rfl) hH
  refine lv_iload_n hx hb dX2_rankOf_97 rfl (lv_at hl 0 rfl) ?_
  cases h
  subst hQ
  exact fm_iret hx hb hr hlk hst hH dX2_rankOf_98
