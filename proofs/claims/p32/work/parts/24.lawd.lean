/-! RL.agreed([I[I)I -/
abbrev rmL_agreed : Room := { frames := 2, cells := 1, slots := 8, locals := 49 }
def mL_agreed_L17 : Nat → Int32 → fm_S → Option (fm_S)
  | 0, _, _ => none
  | n + 1, x5, σ =>
    if ((40 : Int32) < 0 ∨ 48 ≤ (40 : Int32).toNatClampNeg) then none else
    if (rI σ 40 (40 : Int32)) ≤ x5 then
      some σ
    else
      if ((((8 : Int32) * x5) + (4 : Int32)) < 0 ∨ 48 ≤ (((8 : Int32) * x5) + (4 : Int32)).toNatClampNeg) then none else
      if (x5 < 0 ∨ 8 ≤ x5.toNatClampNeg) then none else
      mb1 (some (sI σ 43 x5 (rI σ 40 (((8 : Int32) * x5) + (4 : Int32))))) fun ρ7 =>
      mL_agreed_L17 n (x5 + 1) ρ7
set_option maxHeartbeats 4000000 in
set_option maxRecDepth 100000 in
theorem wL_agreed_L17 {p : Program} {l : Launch} {e : Env} {s : State} {m : MethodId} {args : Array Value} {below : List Frame} {meth : Method} {c : Code} {Q : State → Prop} {K : fm_K} {A : Nat → Prop} (C : CallFix p m c cL_agreed 10 s args wsL_agreed RL) (hst : fm_st K A s s.heap) (hA : ∀ q, fm_A K s.heap.size q → A q) (hq43 : fm_in K 43) :
    ∀ (n : Nat) (x5 : Int32) (σ : fm_S) (σo : fm_S), mL_agreed_L17 n x5 σ = some σo → ∀ (x3 : Int32)  (x4 : Int32), (∀ (ls : Array Slot) (H : Heap) (locs : List Loc), lv_has ls 10 [(0, .ref (K.2.2.2 40)), (1, .ref (K.2.2.2 41)), (2, .ref (K.2.2.2 43)), (3, .int x3), (4, .int x4)] → fm_H K σo A s H locs → W p l e rmL_agreed s m args below meth c H locs 1 8 Q (F0 m 45 ls [])) → ∀ (ls : Array Slot) (H : Heap) (locs : List Loc), lv_has ls 10 [(0, .ref (K.2.2.2 40)), (1, .ref (K.2.2.2 41)), (2, .ref (K.2.2.2 43)), (3, .int x3), (4, .int x4), (5, .int x5)] → fm_H K σ A s H locs → W p l e rmL_agreed s m args below meth c H locs 1 8 Q (F0 m 17 ls []) := by
  obtain ⟨hx, hb, hml, hown, hts⟩ := id C
  intro n
  induction n with
  | zero => intro x5 σ σo h; simp [mL_agreed_L17] at h
  | succ n ih =>
    intro x5 σ σo h x3 x4 kk ls H locs hl hH
    rw [mL_agreed_L17] at h
    refine lv_iload hx hb dL_agreed_17 (lv_at hl 5 rfl) ?_
    refine lv_aload_n hx hb dL_agreed_19 rfl (lv_at hl 0 rfl) ?_
    refine lv_bipush (v := 40) hx hb dL_agreed_20 (by decide) ?_
    obtain ⟨hi4, h⟩ := mi_chk h
    refine fm_ild hx hb hst.1 hH 40 (fm_inb (by decide)) rfl rfl hi4 dL_agreed_22 ?_
    refine lv_icmp_ge (tgt := 45) hx hb dL_agreed_23 (by decide) (fun hc => ?_) (fun hc => ?_)
    · replace h := mi_pos hc h
      cases h
      exact kk _ _ _ (lv_sub hl [0, 1, 2, 3, 4] rfl) hH
    · replace h := mi_neg hc h
      refine lv_aload_n hx hb dL_agreed_26 rfl (lv_at hl 2 rfl) ?_
      refine lv_iload hx hb dL_agreed_27 (lv_at hl 5 rfl) ?_
      refine lv_aload_n hx hb dL_agreed_29 rfl (lv_at hl 0 rfl) ?_
      refine lv_bipush (v := 8) hx hb dL_agreed_30 (by decide) ?_
      refine lv_iload hx hb dL_agreed_32 (lv_at hl 5 rfl) ?_
      refine lv_imul hx hb dL_agreed_34 ?_
      refine lv_iconst (v := 4) hx hb dL_agreed_35 (by decide) ?_
      refine lv_iadd hx hb dL_agreed_36 ?_
      obtain ⟨hi5, h⟩ := mi_chk h
      refine fm_ild hx hb hst.1 hH 40 (fm_inb (by decide)) rfl rfl hi5 dL_agreed_37 ?_
      obtain ⟨hi6, h⟩ := mi_chk h
      refine fm_ist hx hb hst.1 hH 43 hq43 rfl rfl hi6 dL_agreed_38 (fun H locs hH => ?_)
      obtain ⟨ρ7, hu, h⟩ := mi_b1 h
      rw [Option.some.inj hu] at hH
      clear hu
      refine lv_iinc (v := (x5 + 1)) (lv' := [(5, .int (x5 + 1)), (0, .ref (K.2.2.2 40)), (1, .ref (K.2.2.2 41)), (2, .ref (K.2.2.2 43)), (3, .int x3), (4, .int x4)]) hx hb dL_agreed_39 hl (k := 5) rfl rfl (by decide) rfl (fun ls hl => ?_)
      refine lv_goto (tgt := 17) hx hb dL_agreed_42 (by decide) ?_
      exact ih _ _ _ h _ _ kk _ _ _ (lv_sub hl [1, 2, 3, 4, 5, 0] rfl) hH
def mL_agreed_L75 : Nat → Int32 → Int32 → Int32 → Int32 → fm_S → Option (Int32)
  | 0, _, _, _, _, _ => none
  | n + 1, x5, x6, x7, x8, σ =>
    if ((40 : Int32) < 0 ∨ 48 ≤ (40 : Int32).toNatClampNeg) then none else
    if (rI σ 40 (40 : Int32)) ≤ x8 then
      some x7
    else
      mb1 (mL_ones x6) fun r86 =>
      mb1 (mL_heard x8 σ) fun r93 =>
      mb1 (mL_ones r93) fun r96 =>
      mb1 (show Option (Int32) from
        if r86 ≤ r96 then
          mb1 (mL_heard x8 σ) fun r114 =>
          mb1 (mL_ones r114) fun r117 =>
          some r117
        else
          mb1 (mL_ones x6) fun r104 =>
          some r104) fun v12_0 =>
      mb1 (show Option (Int32) from
        if ((x6 >>> (x8 &&& 31)) &&& (1 : Int32)) = (1 : Int32) then
          if (x8 < 0 ∨ 8 ≤ x8.toNatClampNeg) then none else
          if (x5 < 0 ∨ 8 ≤ x5.toNatClampNeg) then none else
          if (v12_0 + (1 : Int32)) = 0 then none else
          some ((((rI σ 43 x8) - (rI σ 43 x5)) / (v12_0 + (1 : Int32))))
        else
          some ((0 : Int32))) fun v16_0 =>
      mb1 (some (x7 + v16_0)) fun u7_20 =>
      mL_agreed_L75 n x5 x6 u7_20 (x8 + 1) σ
set_option maxHeartbeats 4000000 in
set_option maxRecDepth 100000 in
theorem wL_agreed_L75 {p : Program} {l : Launch} {e : Env} {s : State} {m : MethodId} {args : Array Value} {below : List Frame} {meth : Method} {c : Code} {Q : State → Prop} {K : fm_K} {A : Nat → Prop} (C : CallFix p m c cL_agreed 10 s args wsL_agreed RL) (hst : fm_st K A s s.heap) (hA : ∀ q, fm_A K s.heap.size q → A q) (hq43 : fm_in K 43) :
    ∀ (n : Nat) (x5 : Int32) (x6 : Int32) (x7 : Int32) (x8 : Int32) (σ : fm_S) (o7 : Int32), mL_agreed_L75 n x5 x6 x7 x8 σ = some o7 → ∀ (x3 : Int32)  (x4 : Int32), (∀ (ls : Array Slot) (H : Heap) (locs : List Loc), lv_has ls 10 [(0, .ref (K.2.2.2 40)), (1, .ref (K.2.2.2 41)), (2, .ref (K.2.2.2 43)), (3, .int x3), (4, .int x4), (5, .int x5), (7, .int o7)] → fm_H K σ A s H locs → W p l e rmL_agreed s m args below meth c H locs 1 8 Q (F0 m 162 ls [])) → ∀ (ls : Array Slot) (H : Heap) (locs : List Loc), lv_has ls 10 [(0, .ref (K.2.2.2 40)), (1, .ref (K.2.2.2 41)), (2, .ref (K.2.2.2 43)), (3, .int x3), (4, .int x4), (5, .int x5), (6, .int x6), (7, .int x7), (8, .int x8)] → fm_H K σ A s H locs → W p l e rmL_agreed s m args below meth c H locs 1 8 Q (F0 m 75 ls []) := by
  obtain ⟨hx, hb, hml, hown, hts⟩ := id C
  intro n
  induction n with
  | zero => intro x5 x6 x7 x8 σ o7 h; simp [mL_agreed_L75] at h
  | succ n ih =>
    intro x5 x6 x7 x8 σ o7 h x3 x4 kk ls H locs hl hH
    rw [mL_agreed_L75] at h
    refine lv_iload hx hb dL_agreed_75 (lv_at hl 8 rfl) ?_
    refine lv_aload_n hx hb dL_agreed_77 rfl (lv_at hl 0 rfl) ?_
    refine lv_bipush (v := 40) hx hb dL_agreed_78 (by decide) ?_
    obtain ⟨hi11, h⟩ := mi_chk h
    refine fm_ild hx hb hst.1 hH 40 (fm_inb (by decide)) rfl rfl hi11 dL_agreed_80 ?_
    refine lv_icmp_ge (tgt := 162) hx hb dL_agreed_81 (by decide) (fun hc => ?_) (fun hc => ?_)
    · replace h := mi_pos hc h
      cases h
      exact kk _ _ _ (lv_sub hl [0, 1, 2, 3, 4, 5, 7] rfl) hH
    · replace h := mi_neg hc h
      refine lv_iload hx hb dL_agreed_84 (lv_at hl 6 rfl) ?_
      obtain ⟨r86, h86, h⟩ := mi_b1 h
      refine fm_ci (va_runS (As := [.int x6]) (rest := []) C (kL_ones l K h86 _) (va_cwS 1 hts gL_agreed_L_ones rfl rfl rfl (by decide +kernel) ⟨(Nat.le_of_ble_eq_true rfl), (Nat.le_of_ble_eq_true rfl)⟩) ⟨fm_blind, fm_pre hst hA hH⟩ rfl rfl hl.1 rfl (lv_room (Nat.le_of_ble_eq_true rfl)) dL_agreed_86 ⟨(Nat.le_of_ble_eq_true rfl), (Nat.le_of_ble_eq_true rfl)⟩) hA hH (fun H locs hH => ?_)
      refine lv_aload_n hx hb dL_agreed_89 rfl (lv_at hl 0 rfl) ?_
      refine lv_aload_n hx hb dL_agreed_90 rfl (lv_at hl 1 rfl) ?_
      refine lv_iload hx hb dL_agreed_91 (lv_at hl 8 rfl) ?_
      obtain ⟨r93, h93, h⟩ := mi_b1 h
      refine fm_ci (va_runS (As := [.ref (K.2.2.2 40), .ref (K.2.2.2 41), .int x8]) (rest := [.int r86]) C (kL_heard l K h93 _) (va_cwS 3 hts gL_agreed_L_heard rfl rfl rfl (by decide +kernel) ⟨(Nat.le_of_ble_eq_true rfl), (Nat.le_of_ble_eq_true rfl)⟩) ⟨fm_blind, fm_pre hst hA hH⟩ rfl rfl hl.1 rfl (lv_room (Nat.le_of_ble_eq_true rfl)) dL_agreed_93 ⟨(Nat.le_of_ble_eq_true rfl), (Nat.le_of_ble_eq_true rfl)⟩) hA hH (fun H locs hH => ?_)
      obtain ⟨r96, h96, h⟩ := mi_b1 h
      refine fm_ci (va_runS (As := [.int r93]) (rest := [.int r86]) C (kL_ones l K h96 _) (va_cwS 1 hts gL_agreed_L_ones rfl rfl rfl (by decide +kernel) ⟨(Nat.le_of_ble_eq_true rfl), (Nat.le_of_ble_eq_true rfl)⟩) ⟨fm_blind, fm_pre hst hA hH⟩ rfl rfl hl.1 rfl (lv_room (Nat.le_of_ble_eq_true rfl)) dL_agreed_96 ⟨(Nat.le_of_ble_eq_true rfl), (Nat.le_of_ble_eq_true rfl)⟩) hA hH (fun H locs hH => ?_)
      obtain ⟨v12_0, hd, h2⟩ := mi_b1 h
      have kj : ∀ (ls : Array Slot) (H : Heap) (locs : List Loc), lv_has ls 10 [(0, .ref (K.2.2.2 40)), (1, .ref (K.2.2.2 41)), (2, .ref (K.2.2.2 43)), (3, .int x3), (4, .int x4), (5, .int x5), (6, .int x6), (7, .int x7), (8, .int x8)] → fm_H K σ A s H locs → W p l e rmL_agreed s m args below meth c H locs 1 8 Q (F0 m 120 ls [.int v12_0]) := by
        clear h hd
        intro ls H locs hl hH
        have h := h2
        clear h2
        refine lv_istore (lv' := [(9, .int v12_0), (0, .ref (K.2.2.2 40)), (1, .ref (K.2.2.2 41)), (2, .ref (K.2.2.2 43)), (3, .int x3), (4, .int x4), (5, .int x5), (6, .int x6), (7, .int x7), (8, .int x8)]) hx hb dL_agreed_120 hl (by decide) rfl (fun ls hl => ?_)
        refine lv_iload hx hb dL_agreed_122 (lv_at hl 8 rfl) ?_
        refine lv_iload hx hb dL_agreed_124 (lv_at hl 7 rfl) ?_
        refine lv_iload hx hb dL_agreed_126 (lv_at hl 9 rfl) ?_
        refine lv_ishr hx hb dL_agreed_128 ?_
        refine lv_iconst (v := 1) hx hb dL_agreed_129 (by decide) ?_
        refine lv_iand hx hb dL_agreed_130 ?_
        refine lv_iconst (v := 1) hx hb dL_agreed_131 (by decide) ?_
        obtain ⟨v16_0, hd, h2⟩ := mi_b1 h
        have kj : ∀ (ls : Array Slot) (H : Heap) (locs : List Loc), lv_has ls 10 [(0, .ref (K.2.2.2 40)), (1, .ref (K.2.2.2 41)), (2, .ref (K.2.2.2 43)), (3, .int x3), (4, .int x4), (5, .int x5), (6, .int x6), (8, .int x8)] → fm_H K σ A s H locs → W p l e rmL_agreed s m args below meth c H locs 1 8 Q (F0 m 153 ls [.int v16_0, .int x7]) := by
          clear h hd
          intro ls H locs hl hH
          have h := h2
          clear h2
          refine lv_iadd hx hb dL_agreed_153 ?_
          obtain ⟨u7_20, hu, h⟩ := mi_b1 h
          rw [Option.some.inj hu]
          clear hu
          refine lv_istore (lv' := [(7, .int u7_20), (0, .ref (K.2.2.2 40)), (1, .ref (K.2.2.2 41)), (2, .ref (K.2.2.2 43)), (3, .int x3), (4, .int x4), (5, .int x5), (6, .int x6), (8, .int x8)]) hx hb dL_agreed_154 hl (by decide) rfl (fun ls hl => ?_)
          refine lv_iinc (v := (x8 + 1)) (lv' := [(8, .int (x8 + 1)), (7, .int u7_20), (0, .ref (K.2.2.2 40)), (1, .ref (K.2.2.2 41)), (2, .ref (K.2.2.2 43)), (3, .int x3), (4, .int x4), (5, .int x5), (6, .int x6)]) hx hb dL_agreed_156 hl (k := 8) rfl rfl (by decide) rfl (fun ls hl => ?_)
          refine lv_goto (tgt := 75) hx hb dL_agreed_159 (by decide) ?_
          exact ih _ _ _ _ _ _ h _ _ kk _ _ _ (lv_sub hl [2, 3, 4, 5, 6, 7, 8, 1, 0] rfl) hH
        replace h := hd
        clear h2 hd
        refine lv_icmp_ne (tgt := 152) hx hb dL_agreed_132 (by decide) (fun hc => ?_) (fun hc => ?_)
        · replace h := mi_neg hc h
          refine lv_iconst (v := 0) hx hb dL_agreed_152 (by decide) ?_
          cases h
          exact kj _ _ _ (lv_sub hl [1, 2, 3, 4, 5, 6, 7, 9] rfl) hH
        · replace h := mi_pos hc h
          refine lv_aload_n hx hb dL_agreed_135 rfl (lv_at hl 3 rfl) ?_
          refine lv_iload hx hb dL_agreed_136 (lv_at hl 9 rfl) ?_
          obtain ⟨hi17, h⟩ := mi_chk h
          refine fm_ild hx hb hst.1 hH 43 hq43 rfl rfl hi17 dL_agreed_138 ?_
          refine lv_aload_n hx hb dL_agreed_139 rfl (lv_at hl 3 rfl) ?_
          refine lv_iload hx hb dL_agreed_140 (lv_at hl 6 rfl) ?_
          obtain ⟨hi18, h⟩ := mi_chk h
          refine fm_ild hx hb hst.1 hH 43 hq43 rfl rfl hi18 dL_agreed_142 ?_
          refine lv_isub hx hb dL_agreed_143 ?_
          refine lv_iload hx hb dL_agreed_144 (lv_at hl 0 rfl) ?_
          refine lv_iconst (v := 1) hx hb dL_agreed_146 (by decide) ?_
          refine lv_iadd hx hb dL_agreed_147 ?_
          obtain ⟨hz19, h⟩ := mi_chk h
          refine lv_idiv hx hb dL_agreed_148 hz19 ?_
          refine lv_goto (tgt := 153) hx hb dL_agreed_149 (by decide) ?_
          cases h
          exact kj _ _ _ (lv_sub hl [1, 2, 3, 4, 5, 6, 7, 9] rfl) hH
      replace h := hd
      clear h2 hd
      refine lv_icmp_le (tgt := 110) hx hb dL_agreed_99 (by decide) (fun hc => ?_) (fun hc => ?_)
      · replace h := mi_pos hc h
        refine lv_aload_n hx hb dL_agreed_110 rfl (lv_at hl 0 rfl) ?_
        refine lv_aload_n hx hb dL_agreed_111 rfl (lv_at hl 1 rfl) ?_
        refine lv_iload hx hb dL_agreed_112 (lv_at hl 8 rfl) ?_
        obtain ⟨r114, h114, h⟩ := mi_b1 h
        refine fm_ci (va_runS (As := [.ref (K.2.2.2 40), .ref (K.2.2.2 41), .int x8]) (rest := []) C (kL_heard l K h114 _) (va_cwS 3 hts gL_agreed_L_heard rfl rfl rfl (by decide +kernel) ⟨(Nat.le_of_ble_eq_true rfl), (Nat.le_of_ble_eq_true rfl)⟩) ⟨fm_blind, fm_pre hst hA hH⟩ rfl rfl hl.1 rfl (lv_room (Nat.le_of_ble_eq_true rfl)) dL_agreed_114 ⟨(Nat.le_of_ble_eq_true rfl), (Nat.le_of_ble_eq_true rfl)⟩) hA hH (fun H locs hH => ?_)
        obtain ⟨r117, h117, h⟩ := mi_b1 h
        refine fm_ci (va_runS (As := [.int r114]) (rest := []) C (kL_ones l K h117 _) (va_cwS 1 hts gL_agreed_L_ones rfl rfl rfl (by decide +kernel) ⟨(Nat.le_of_ble_eq_true rfl), (Nat.le_of_ble_eq_true rfl)⟩) ⟨fm_blind, fm_pre hst hA hH⟩ rfl rfl hl.1 rfl (lv_room (Nat.le_of_ble_eq_true rfl)) dL_agreed_117 ⟨(Nat.le_of_ble_eq_true rfl), (Nat.le_of_ble_eq_true rfl)⟩) hA hH (fun H locs hH => ?_)
        cases h
        exact kj _ _ _ (lv_sub hl [0, 1, 2, 3, 4, 5, 6, 7, 8] rfl) hH
      · replace h := mi_neg hc h
        refine lv_iload hx hb dL_agreed_102 (lv_at hl 6 rfl) ?_
        obtain ⟨r104, h104, h⟩ := mi_b1 h
        refine fm_ci (va_runS (As := [.int x6]) (rest := []) C (kL_ones l K h104 _) (va_cwS 1 hts gL_agreed_L_ones rfl rfl rfl (by decide +kernel) ⟨(Nat.le_of_ble_eq_true rfl), (Nat.le_of_ble_eq_true rfl)⟩) ⟨fm_blind, fm_pre hst hA hH⟩ rfl rfl hl.1 rfl (lv_room (Nat.le_of_ble_eq_true rfl)) dL_agreed_104 ⟨(Nat.le_of_ble_eq_true rfl), (Nat.le_of_ble_eq_true rfl)⟩) hA hH (fun H locs hH => ?_)
        refine lv_goto (tgt := 120) hx hb dL_agreed_107 (by decide) ?_
        cases h
        exact kj _ _ _ (lv_sub hl [0, 1, 2, 3, 4, 5, 6, 7, 8] rfl) hH
def mL_agreed_L48 : Nat → Int32 → Int32 → Int32 → fm_S → Option (Int32 × Int32 × fm_S)
  | 0, _, _, _, _ => none
  | n + 1, x3, x4, x5, σ =>
    if ((40 : Int32) < 0 ∨ 48 ≤ (40 : Int32).toNatClampNeg) then none else
    if (rI σ 40 (40 : Int32)) ≤ x5 then
      some (x3, x4, σ)
    else
      mb1 (mL_heard x5 σ) fun r61 =>
      if (x5 < 0 ∨ 8 ≤ x5.toNatClampNeg) then none else
      mb1 (some (rI σ 43 x5)) fun u7_10 =>
      mb1 (mL_agreed_L75 fG x5 r61 u7_10 (0 : Int32) σ) fun y75_7 =>
      if ((((8 : Int32) * x5) + (4 : Int32)) < 0 ∨ 48 ≤ (((8 : Int32) * x5) + (4 : Int32)).toNatClampNeg) then none else
      mb1 (some (sI σ 40 (((8 : Int32) * x5) + (4 : Int32)) y75_7)) fun ρ22 =>
      mb1 (show Option (Int32) from
        if x5 = 0 then
          some y75_7
        else
          if x3 ≤ y75_7 then
            some x3
          else
            some y75_7) fun v23_0 =>
      if x5 = 0 then
        mL_agreed_L48 n v23_0 y75_7 (x5 + 1) ρ22
      else
        if y75_7 ≤ x4 then
          mL_agreed_L48 n v23_0 x4 (x5 + 1) ρ22
        else
          mL_agreed_L48 n v23_0 y75_7 (x5 + 1) ρ22
set_option maxHeartbeats 4000000 in
set_option maxRecDepth 100000 in
theorem wL_agreed_L48 {p : Program} {l : Launch} {e : Env} {s : State} {m : MethodId} {args : Array Value} {below : List Frame} {meth : Method} {c : Code} {Q : State → Prop} {K : fm_K} {A : Nat → Prop} (C : CallFix p m c cL_agreed 10 s args wsL_agreed RL) (hst : fm_st K A s s.heap) (hA : ∀ q, fm_A K s.heap.size q → A q) (hq43 : fm_in K 43) :
    ∀ (n : Nat) (x3 : Int32) (x4 : Int32) (x5 : Int32) (σ : fm_S) (o3 : Int32) (o4 : Int32) (σo : fm_S), mL_agreed_L48 n x3 x4 x5 σ = some (o3, o4, σo) → (∀ (ls : Array Slot) (H : Heap) (locs : List Loc), lv_has ls 10 [(3, .int o3), (4, .int o4)] → fm_H K σo A s H locs → W p l e rmL_agreed s m args below meth c H locs 1 8 Q (F0 m 218 ls [])) → ∀ (ls : Array Slot) (H : Heap) (locs : List Loc), lv_has ls 10 [(0, .ref (K.2.2.2 40)), (1, .ref (K.2.2.2 41)), (2, .ref (K.2.2.2 43)), (3, .int x3), (4, .int x4), (5, .int x5)] → fm_H K σ A s H locs → W p l e rmL_agreed s m args below meth c H locs 1 8 Q (F0 m 48 ls []) := by
  obtain ⟨hx, hb, hml, hown, hts⟩ := id C
  intro n
  induction n with
  | zero => intro x3 x4 x5 σ o3 o4 σo h; simp [mL_agreed_L48] at h
  | succ n ih =>
    intro x3 x4 x5 σ o3 o4 σo h kk ls H locs hl hH
    rw [mL_agreed_L48] at h
    refine lv_iload hx hb dL_agreed_48 (lv_at hl 5 rfl) ?_
    refine lv_aload_n hx hb dL_agreed_50 rfl (lv_at hl 0 rfl) ?_
    refine lv_bipush (v := 40) hx hb dL_agreed_51 (by decide) ?_
    obtain ⟨hi8, h⟩ := mi_chk h
    refine fm_ild hx hb hst.1 hH 40 (fm_inb (by decide)) rfl rfl hi8 dL_agreed_53 ?_
    refine lv_icmp_ge (tgt := 218) hx hb dL_agreed_54 (by decide) (fun hc => ?_) (fun hc => ?_)
    · replace h := mi_pos hc h
      cases h
      exact kk _ _ _ (lv_sub hl [3, 4] rfl) hH
    · replace h := mi_neg hc h
      refine lv_aload_n hx hb dL_agreed_57 rfl (lv_at hl 0 rfl) ?_
      refine lv_aload_n hx hb dL_agreed_58 rfl (lv_at hl 1 rfl) ?_
      refine lv_iload hx hb dL_agreed_59 (lv_at hl 5 rfl) ?_
      obtain ⟨r61, h61, h⟩ := mi_b1 h
      refine fm_ci (va_runS (As := [.ref (K.2.2.2 40), .ref (K.2.2.2 41), .int x5]) (rest := []) C (kL_heard l K h61 _) (va_cwS 3 hts gL_agreed_L_heard rfl rfl rfl (by decide +kernel) ⟨(Nat.le_of_ble_eq_true rfl), (Nat.le_of_ble_eq_true rfl)⟩) ⟨fm_blind, fm_pre hst hA hH⟩ rfl rfl hl.1 rfl (lv_room (Nat.le_of_ble_eq_true rfl)) dL_agreed_61 ⟨(Nat.le_of_ble_eq_true rfl), (Nat.le_of_ble_eq_true rfl)⟩) hA hH (fun H locs hH => ?_)
      refine lv_istore (lv' := [(6, .int r61), (0, .ref (K.2.2.2 40)), (1, .ref (K.2.2.2 41)), (2, .ref (K.2.2.2 43)), (3, .int x3), (4, .int x4), (5, .int x5)]) hx hb dL_agreed_64 hl (by decide) rfl (fun ls hl => ?_)
      refine lv_aload_n hx hb dL_agreed_66 rfl (lv_at hl 3 rfl) ?_
      refine lv_iload hx hb dL_agreed_67 (lv_at hl 6 rfl) ?_
      obtain ⟨hi9, h⟩ := mi_chk h
      refine fm_ild hx hb hst.1 hH 43 hq43 rfl rfl hi9 dL_agreed_69 ?_
      obtain ⟨u7_10, hu, h⟩ := mi_b1 h
      rw [Option.some.inj hu]
      clear hu
      refine lv_istore (lv' := [(7, .int u7_10), (6, .int r61), (0, .ref (K.2.2.2 40)), (1, .ref (K.2.2.2 41)), (2, .ref (K.2.2.2 43)), (3, .int x3), (4, .int x4), (5, .int x5)]) hx hb dL_agreed_70 hl (by decide) rfl (fun ls hl => ?_)
      refine lv_iconst (v := 0) hx hb dL_agreed_72 (by decide) ?_
      refine lv_istore (lv' := [(8, .int (0 : Int32)), (7, .int u7_10), (6, .int r61), (0, .ref (K.2.2.2 40)), (1, .ref (K.2.2.2 41)), (2, .ref (K.2.2.2 43)), (3, .int x3), (4, .int x4), (5, .int x5)]) hx hb dL_agreed_73 hl (by decide) rfl (fun ls hl => ?_)
      obtain ⟨y75_7, h75, h⟩ := mi_b1 h
      refine wL_agreed_L75 C hst hA hq43 _ _ _ _ _ _ _ h75 _ _ (fun ls H locs hl hH => ?_) _ _ _ (lv_sub hl [3, 4, 5, 6, 7, 8, 2, 1, 0] rfl) hH
      refine lv_aload_n hx hb dL_agreed_162 rfl (lv_at hl 0 rfl) ?_
      refine lv_bipush (v := 8) hx hb dL_agreed_163 (by decide) ?_
      refine lv_iload hx hb dL_agreed_165 (lv_at hl 5 rfl) ?_
      refine lv_imul hx hb dL_agreed_167 ?_
      refine lv_iconst (v := 4) hx hb dL_agreed_168 (by decide) ?_
      refine lv_iadd hx hb dL_agreed_169 ?_
      refine lv_iload hx hb dL_agreed_170 (lv_at hl 6 rfl) ?_
      obtain ⟨hi21, h⟩ := mi_chk h
      refine fm_ist hx hb hst.1 hH 40 (fm_inb (by decide)) rfl rfl hi21 dL_agreed_172 (fun H locs hH => ?_)
      obtain ⟨ρ22, hu, h⟩ := mi_b1 h
      rw [Option.some.inj hu] at hH
      clear hu
      refine lv_iload hx hb dL_agreed_173 (lv_at hl 5 rfl) ?_
      obtain ⟨v23_0, hd, h2⟩ := mi_b1 h
      have kj : ∀ (ls : Array Slot) (H : Heap) (locs : List Loc), lv_has ls 10 [(0, .ref (K.2.2.2 40)), (1, .ref (K.2.2.2 41)), (2, .ref (K.2.2.2 43)), (4, .int x4), (5, .int x5), (7, .int y75_7)] → fm_H K ρ22 A s H locs → W p l e rmL_agreed s m args below meth c H locs 1 8 Q (F0 m 190 ls [.int v23_0]) := by
        clear h hd
        intro ls H locs hl hH
        have h := h2
        clear h2
        refine lv_istore_n (lv' := [(3, .int v23_0), (0, .ref (K.2.2.2 40)), (1, .ref (K.2.2.2 41)), (2, .ref (K.2.2.2 43)), (4, .int x4), (5, .int x5), (7, .int y75_7)]) hx hb dL_agreed_190 rfl hl (by decide) rfl (fun ls hl => ?_)
        refine lv_iload hx hb dL_agreed_191 (lv_at hl 5 rfl) ?_
        refine lv_if_eq (tgt := 203) hx hb dL_agreed_193 (by decide) (fun hc => ?_) (fun hc => ?_)
        · replace h := mi_pos hc h
          refine lv_iload hx hb dL_agreed_203 (lv_at hl 6 rfl) ?_
          refine lv_goto (tgt := 210) hx hb dL_agreed_205 (by decide) ?_
          refine lv_istore (lv' := [(4, .int y75_7), (3, .int v23_0), (0, .ref (K.2.2.2 40)), (1, .ref (K.2.2.2 41)), (2, .ref (K.2.2.2 43)), (5, .int x5), (7, .int y75_7)]) hx hb dL_agreed_210 hl (by decide) rfl (fun ls hl => ?_)
          refine lv_iinc (v := (x5 + 1)) (lv' := [(5, .int (x5 + 1)), (4, .int y75_7), (3, .int v23_0), (0, .ref (K.2.2.2 40)), (1, .ref (K.2.2.2 41)), (2, .ref (K.2.2.2 43)), (7, .int y75_7)]) hx hb dL_agreed_212 hl (k := 5) rfl rfl (by decide) rfl (fun ls hl => ?_)
          refine lv_goto (tgt := 48) hx hb dL_agreed_215 (by decide) ?_
          exact ih _ _ _ _ _ _ _ h kk _ _ _ (lv_sub hl [3, 4, 5, 2, 1, 0] rfl) hH
        · replace h := mi_neg hc h
          refine lv_iload hx hb dL_agreed_196 (lv_at hl 6 rfl) ?_
          refine lv_iload hx hb dL_agreed_198 (lv_at hl 4 rfl) ?_
          refine lv_icmp_le (tgt := 208) hx hb dL_agreed_200 (by decide) (fun hc => ?_) (fun hc => ?_)
          · replace h := mi_pos hc h
            refine lv_iload hx hb dL_agreed_208 (lv_at hl 4 rfl) ?_
            refine lv_istore (lv' := [(4, .int x4), (3, .int v23_0), (0, .ref (K.2.2.2 40)), (1, .ref (K.2.2.2 41)), (2, .ref (K.2.2.2 43)), (5, .int x5), (7, .int y75_7)]) hx hb dL_agreed_210 hl (by decide) rfl (fun ls hl => ?_)
            refine lv_iinc (v := (x5 + 1)) (lv' := [(5, .int (x5 + 1)), (4, .int x4), (3, .int v23_0), (0, .ref (K.2.2.2 40)), (1, .ref (K.2.2.2 41)), (2, .ref (K.2.2.2 43)), (7, .int y75_7)]) hx hb dL_agreed_212 hl (k := 5) rfl rfl (by decide) rfl (fun ls hl => ?_)
            refine lv_goto (tgt := 48) hx hb dL_agreed_215 (by decide) ?_
            exact ih _ _ _ _ _ _ _ h kk _ _ _ (lv_sub hl [3, 4, 5, 2, 1, 0] rfl) hH
          · replace h := mi_neg hc h
            refine lv_iload hx hb dL_agreed_203 (lv_at hl 6 rfl) ?_
            refine lv_goto (tgt := 210) hx hb dL_agreed_205 (by decide) ?_
            refine lv_istore (lv' := [(4, .int y75_7), (3, .int v23_0), (0, .ref (K.2.2.2 40)), (1, .ref (K.2.2.2 41)), (2, .ref (K.2.2.2 43)), (5, .int x5), (7, .int y75_7)]) hx hb dL_agreed_210 hl (by decide) rfl (fun ls hl => ?_)
            refine lv_iinc (v := (x5 + 1)) (lv' := [(5, .int (x5 + 1)), (4, .int y75_7), (3, .int v23_0), (0, .ref (K.2.2.2 40)), (1, .ref (K.2.2.2 41)), (2, .ref (K.2.2.2 43)), (7, .int y75_7)]) hx hb dL_agreed_212 hl (k := 5) rfl rfl (by decide) rfl (fun ls hl => ?_)
            refine lv_goto (tgt := 48) hx hb dL_agreed_215 (by decide) ?_
            exact ih _ _ _ _ _ _ _ h kk _ _ _ (lv_sub hl [3, 4, 5, 2, 1, 0] rfl) hH
      replace h := hd
      clear h2 hd
      refine lv_if_eq (tgt := 184) hx hb dL_agreed_175 (by decide) (fun hc => ?_) (fun hc => ?_)
      · replace h := mi_pos hc h
        refine lv_iload hx hb dL_agreed_184 (lv_at hl 6 rfl) ?_
        refine lv_goto (tgt := 190) hx hb dL_agreed_186 (by decide) ?_
        cases h
        exact kj _ _ _ (lv_sub hl [0, 1, 2, 4, 5, 6] rfl) hH
      · replace h := mi_neg hc h
        refine lv_iload hx hb dL_agreed_178 (lv_at hl 6 rfl) ?_
        refine lv_iload_n hx hb dL_agreed_180 rfl (lv_at hl 3 rfl) ?_
        refine lv_icmp_ge (tgt := 189) hx hb dL_agreed_181 (by decide) (fun hc => ?_) (fun hc => ?_)
        · replace h := mi_pos hc h
          refine lv_iload_n hx hb dL_agreed_189 rfl (lv_at hl 3 rfl) ?_
          cases h
          exact kj _ _ _ (lv_sub hl [0, 1, 2, 4, 5, 6] rfl) hH
        · replace h := mi_neg hc h
          refine lv_iload hx hb dL_agreed_184 (lv_at hl 6 rfl) ?_
          refine lv_goto (tgt := 190) hx hb dL_agreed_186 (by decide) ?_
          cases h
          exact kj _ _ _ (lv_sub hl [0, 1, 2, 4, 5, 6] rfl) hH
def mL_agreed (σ : fm_S) : Option (Int32 × fm_S) :=
  if ((4 : Int32) < 0 ∨ 48 ≤ (4 : Int32).toNatClampNeg) then none else
  mb1 (some (rI (fm_z σ 43) 40 (4 : Int32))) fun u3_2 =>
  mb1 (some (rI (fm_z σ 43) 40 (4 : Int32))) fun u4_3 =>
  mb1 (mL_agreed_L17 fG (0 : Int32) (fm_z σ 43)) fun σ17 =>
  mb3 (mL_agreed_L48 fG u3_2 u4_3 (0 : Int32) σ17) fun y48_3 y48_4 σ48 =>
  some ((y48_4 - y48_3), σ48)
set_option maxHeartbeats 4000000 in
set_option maxRecDepth 100000 in
theorem kL_agreed (l : Launch) (K : fm_K) (hn : fm_n K = 0) {σ : fm_S} {r : Int32} {σ' : fm_S} (h : mL_agreed σ = some (r, σ')) : fm_WI l yL_agreed wsL_agreed rmL_agreed K [.ref (K.2.2.2 40), .ref (K.2.2.2 41)] σ r σ' 1 8 := by
  intro sz
  refine fm_start (Qc := fun sz => fm_QI K r σ' sz) (cc := cL_agreed) (maxL := 10) (ret := (some .int)) (by decide) rfl (Nat.le_of_ble_eq_true rfl) ?_
  intro p e s m args below meth c C hr hlk hst hH ls hl
  have C : CallFix p m c cL_agreed 10 s args wsL_agreed RL := C
  obtain ⟨hx, hb, hml, hown, hts⟩ := id C
  have hA : ∀ q, fm_A K s.heap.size q → fm_A K s.heap.size q := fun _ h => h
  have hl : lv_has ls 10 [(0, .ref (K.2.2.2 40)), (1, .ref (K.2.2.2 41))] := hl
  generalize hQ : MQ below _ args s _ _ _ = Q
  have kend : ∀ (H : Heap) (locs : List Loc) (ls : Array Slot) (pc : Nat), decode cL_agreed pc = .ok (.ireturn, 1) → fm_H K σ' (fm_A K s.heap.size) s H locs → W p l e rmL_agreed s m args below meth c H locs 1 8 Q (F0 m pc ls [.int r]) := by
    intro H locs ls pc hd hH
    subst hQ
    exact fm_iretW hx hb hr hlk hst hH (Nat.le_refl _) (Nat.le_refl _) hd
  obtain ⟨A, hAd⟩ : ∃ A, A = fm_A K s.heap.size := ⟨_, rfl⟩
  rw [← hAd] at hst hH hA kend
  have hA : ∀ q, fm_A K s.heap.size q → A q := by rw [hAd]; exact fun _ h => h
  rw [mL_agreed] at h
  refine lv_bipush (v := 8) hx hb dL_agreed_0 (by decide) ?_
  refine fm_newI (q := 43) (n1 := 1) hn (by decide) rfl (by decide) (by decide +kernel) hx hb (hts (.arrayClass .int) (List.mem_of_getElem? (i := 1) rfl)) hst hA hH (Nat.le_of_ble_eq_true rfl) (Nat.le_of_ble_eq_true rfl) dL_agreed_2 (fun K H hn hne hH hst hA hdr => ?_)
  have hl : lv_has ls 10 [(0, .ref (K.2.2.2 40)), (1, .ref (K.2.2.2 41))] := by rw [hne 40 (by decide), hne 41 (by decide)]; exact hl
  have kend : ∀ (H : Heap) (locs : List Loc) (ls : Array Slot) (pc : Nat), decode cL_agreed pc = .ok (.ireturn, 1) → fm_H K σ' A s H locs → W p l e rmL_agreed s m args below meth c H locs 1 8 Q (F0 m pc ls [.int r]) := fun H locs ls pc hd hH => kend H locs ls pc hd (hdr _ _ _ hH)
  have hq43 : fm_in K 43 := fm_in43 (by rw [hn]; decide)
  refine lv_astore_n (lv' := [(2, .ref (K.2.2.2 43)), (0, .ref (K.2.2.2 40)), (1, .ref (K.2.2.2 41))]) hx hb dL_agreed_4 rfl hl (by decide) rfl (fun ls hl => ?_)
  refine lv_aload_n hx hb dL_agreed_5 rfl (lv_at hl 1 rfl) ?_
  refine lv_iconst (v := 4) hx hb dL_agreed_6 (by decide) ?_
  obtain ⟨hi1, h⟩ := mi_chk h
  refine fm_ild hx hb hst.1 hH 40 (fm_inb (by decide)) rfl rfl hi1 dL_agreed_7 ?_
  obtain ⟨u3_2, hu, h⟩ := mi_b1 h
  rw [Option.some.inj hu]
  clear hu
  refine lv_istore_n (lv' := [(3, .int u3_2), (2, .ref (K.2.2.2 43)), (0, .ref (K.2.2.2 40)), (1, .ref (K.2.2.2 41))]) hx hb dL_agreed_8 rfl hl (by decide) rfl (fun ls hl => ?_)
  refine lv_aload_n hx hb dL_agreed_9 rfl (lv_at hl 2 rfl) ?_
  refine lv_iconst (v := 4) hx hb dL_agreed_10 (by decide) ?_
  refine fm_ild hx hb hst.1 hH 40 (fm_inb (by decide)) rfl rfl hi1 dL_agreed_11 ?_
  obtain ⟨u4_3, hu, h⟩ := mi_b1 h
  rw [Option.some.inj hu]
  clear hu
  refine lv_istore (lv' := [(4, .int u4_3), (3, .int u3_2), (2, .ref (K.2.2.2 43)), (0, .ref (K.2.2.2 40)), (1, .ref (K.2.2.2 41))]) hx hb dL_agreed_12 hl (by decide) rfl (fun ls hl => ?_)
  refine lv_iconst (v := 0) hx hb dL_agreed_14 (by decide) ?_
  refine lv_istore (lv' := [(5, .int (0 : Int32)), (4, .int u4_3), (3, .int u3_2), (2, .ref (K.2.2.2 43)), (0, .ref (K.2.2.2 40)), (1, .ref (K.2.2.2 41))]) hx hb dL_agreed_15 hl (by decide) rfl (fun ls hl => ?_)
  obtain ⟨σ17, h17, h⟩ := mi_b1 h
  refine wL_agreed_L17 C hst hA hq43 _ _ _ _ h17 _ _ (fun ls H locs hl hH => ?_) _ _ _ (lv_sub hl [4, 5, 3, 2, 1, 0] rfl) hH
  refine lv_iconst (v := 0) hx hb dL_agreed_45 (by decide) ?_
  refine lv_istore (lv' := [(5, .int (0 : Int32)), (0, .ref (K.2.2.2 40)), (1, .ref (K.2.2.2 41)), (2, .ref (K.2.2.2 43)), (3, .int u3_2), (4, .int u4_3)]) hx hb dL_agreed_46 hl (by decide) rfl (fun ls hl => ?_)
  obtain ⟨y48_3, y48_4, σ48, h48, h⟩ := mi_b3 h
  refine wL_agreed_L48 C hst hA hq43 _ _ _ _ _ _ _ _ h48 (fun ls H locs hl hH => ?_) _ _ _ (lv_sub hl [1, 2, 3, 4, 5, 0] rfl) hH
  refine lv_iload hx hb dL_agreed_218 (lv_at hl 1 rfl) ?_
  refine lv_iload_n hx hb dL_agreed_220 rfl (lv_at hl 0 rfl) ?_
  refine lv_isub hx hb dL_agreed_221 ?_
  cases h
  exact kend _ _ _ _ dL_agreed_222 hH
/-! RL.spread([I[I)I -/
abbrev rmL_spread : Room := { frames := 2, cells := 2, slots := 16, locals := 49 }
def mL_spread_L81 : Nat → Int32 → Int32 → Int32 → Option (Int32)
  | 0, _, _, _ => none
  | n + 1, x6, x8, x9 =>
    mb1 (show Option (Int32) from
      if x8 = 0 then
        some x6
      else
        some x8) fun v6_0 =>
    if ((v6_0 >>> (x9 &&& 31)) &&& (1 : Int32)) = 0 then
      mL_spread_L81 n x6 x8 (x9 + 1)
    else
      some x9
set_option maxHeartbeats 4000000 in
set_option maxRecDepth 100000 in
theorem wL_spread_L81 {p : Program} {l : Launch} {e : Env} {s : State} {m : MethodId} {args : Array Value} {below : List Frame} {meth : Method} {c : Code} {Q : State → Prop} {K : fm_K} {A : Nat → Prop} (C : CallFix p m c cL_spread 10 s args wsL_spread RL) (hst : fm_st K A s s.heap) (hA : ∀ q, fm_A K s.heap.size q → A q) (hq43 : fm_in K 43) (hq44 : fm_in K 44) :
    ∀ (n : Nat) (x6 : Int32) (x8 : Int32) (x9 : Int32) (σ : fm_S) (o9 : Int32), mL_spread_L81 n x6 x8 x9 = some o9 → ∀ (x4 : Int32)  (x5 : Int32)  (x7 : Int32), (∀ (ls : Array Slot) (H : Heap) (locs : List Loc), lv_has ls 10 [(0, .ref (K.2.2.2 40)), (1, .ref (K.2.2.2 41)), (2, .ref (K.2.2.2 43)), (3, .ref (K.2.2.2 44)), (4, .int x4), (5, .int x5), (7, .int x7), (9, .int o9)] → fm_H K σ A s H locs → W p l e rmL_spread s m args below meth c H locs 2 16 Q (F0 m 107 ls [])) → ∀ (ls : Array Slot) (H : Heap) (locs : List Loc), lv_has ls 10 [(0, .ref (K.2.2.2 40)), (1, .ref (K.2.2.2 41)), (2, .ref (K.2.2.2 43)), (3, .ref (K.2.2.2 44)), (4, .int x4), (5, .int x5), (6, .int x6), (7, .int x7), (8, .int x8), (9, .int x9)] → fm_H K σ A s H locs → W p l e rmL_spread s m args below meth c H locs 2 16 Q (F0 m 81 ls []) := by
  obtain ⟨hx, hb, hml, hown, hts⟩ := id C
  intro n
  induction n with
  | zero => intro x6 x8 x9 σ o9 h; simp [mL_spread_L81] at h
  | succ n ih =>
    intro x6 x8 x9 σ o9 h x4 x5 x7 kk ls H locs hl hH
    rw [mL_spread_L81] at h
    refine lv_iload hx hb dL_spread_81 (lv_at hl 8 rfl) ?_
    obtain ⟨v6_0, hd, h2⟩ := mi_b1 h
    have kj : ∀ (ls : Array Slot) (H : Heap) (locs : List Loc), lv_has ls 10 [(0, .ref (K.2.2.2 40)), (1, .ref (K.2.2.2 41)), (2, .ref (K.2.2.2 43)), (3, .ref (K.2.2.2 44)), (4, .int x4), (5, .int x5), (6, .int x6), (7, .int x7), (8, .int x8), (9, .int x9)] → fm_H K σ A s H locs → W p l e rmL_spread s m args below meth c H locs 2 16 Q (F0 m 93 ls [.int v6_0]) := by
      clear h hd
      intro ls H locs hl hH
      have h := h2
      clear h2
      refine lv_iload hx hb dL_spread_93 (lv_at hl 9 rfl) ?_
      refine lv_ishr hx hb dL_spread_95 ?_
      refine lv_iconst (v := 1) hx hb dL_spread_96 (by decide) ?_
      refine lv_iand hx hb dL_spread_97 ?_
      refine lv_if_ne (tgt := 107) hx hb dL_spread_98 (by decide) (fun hc => ?_) (fun hc => ?_)
      · replace h := mi_neg hc h
        cases h
        exact kk _ _ _ (lv_sub hl [0, 1, 2, 3, 4, 5, 7, 9] rfl) hH
      · replace h := mi_pos hc h
        refine lv_iinc (v := (x9 + 1)) (lv' := [(9, .int (x9 + 1)), (0, .ref (K.2.2.2 40)), (1, .ref (K.2.2.2 41)), (2, .ref (K.2.2.2 43)), (3, .ref (K.2.2.2 44)), (4, .int x4), (5, .int x5), (6, .int x6), (7, .int x7), (8, .int x8)]) hx hb dL_spread_101 hl (k := 9) rfl rfl (by decide) rfl (fun ls hl => ?_)
        refine lv_goto (tgt := 81) hx hb dL_spread_104 (by decide) ?_
        exact ih _ _ _ _ _ h _ _ _ kk _ _ _ (lv_sub hl [1, 2, 3, 4, 5, 6, 7, 8, 9, 0] rfl) hH
    replace h := hd
    clear h2 hd
    refine lv_if_eq (tgt := 91) hx hb dL_spread_83 (by decide) (fun hc => ?_) (fun hc => ?_)
    · replace h := mi_pos hc h
      refine lv_iload hx hb dL_spread_91 (lv_at hl 6 rfl) ?_
      cases h
      exact kj _ _ _ (lv_sub hl [0, 1, 2, 3, 4, 5, 6, 7, 8, 9] rfl) hH
    · replace h := mi_neg hc h
      refine lv_iload hx hb dL_spread_86 (lv_at hl 8 rfl) ?_
      refine lv_goto (tgt := 93) hx hb dL_spread_88 (by decide) ?_
      cases h
      exact kj _ _ _ (lv_sub hl [0, 1, 2, 3, 4, 5, 6, 7, 8, 9] rfl) hH
def mL_spread_L16 : Nat → Int32 → Int32 → fm_S → Option (Int32 × fm_S)
  | 0, _, _, _ => none
  | n + 1, x4, x5, σ =>
    if ((40 : Int32) < 0 ∨ 48 ≤ (40 : Int32).toNatClampNeg) then none else
    if (rI σ 40 (40 : Int32)) ≤ x5 then
      some (x4, σ)
    else
      mb1 (mL_heard x5 σ) fun r29 =>
      if ((((8 : Int32) * x5) + (5 : Int32)) < 0 ∨ 48 ≤ (((8 : Int32) * x5) + (5 : Int32)).toNatClampNeg) then none else
      mb1 (some ((rI σ 40 (((8 : Int32) * x5) + (5 : Int32))) / (2 : Int32))) fun u7_3 =>
      if r29 = 0 then
        mL_spread_L16 n x4 (x5 + 1) σ
      else
        if ((((8 : Int32) * x5) + (7 : Int32)) < 0 ∨ 48 ≤ (((8 : Int32) * x5) + (7 : Int32)).toNatClampNeg) then none else
        mb1 (some ((r29 >>> ((rI σ 40 (((8 : Int32) * x5) + (7 : Int32))) &&& 31)) <<< ((rI σ 40 (((8 : Int32) * x5) + (7 : Int32))) &&& 31))) fun u8_5 =>
        mb1 (mL_spread_L81 fG r29 u8_5 (0 : Int32)) fun y81_9 =>
        if ((((8 : Int32) * x5) + (7 : Int32)) < 0 ∨ 48 ≤ (((8 : Int32) * x5) + (7 : Int32)).toNatClampNeg) then none else
        mb1 (some (sI σ 40 (((8 : Int32) * x5) + (7 : Int32)) (y81_9 + (1 : Int32)))) fun ρ8 =>
        if (y81_9 < 0 ∨ 8 ≤ y81_9.toNatClampNeg) then none else
        mb1 (some (sI ρ8 43 y81_9 ((rI ρ8 43 y81_9) + u7_3))) fun ρ10 =>
        if (x5 < 0 ∨ 8 ≤ x5.toNatClampNeg) then none else
        mb1 (some (sI ρ10 43 x5 ((rI ρ10 43 x5) - u7_3))) fun ρ12 =>
        if ((((8 : Int32) * x5) + (6 : Int32)) < 0 ∨ 48 ≤ (((8 : Int32) * x5) + (6 : Int32)).toNatClampNeg) then none else
        mb1 (some (sI ρ12 44 y81_9 ((rI ρ12 44 y81_9) + ((rI ρ12 40 (((8 : Int32) * x5) + (6 : Int32))) >>> ((1 : Int32) &&& 31))))) fun ρ14 =>
        mb1 (some (sI ρ14 44 x5 ((rI ρ14 44 x5) - ((rI ρ14 40 (((8 : Int32) * x5) + (6 : Int32))) >>> ((1 : Int32) &&& 31))))) fun ρ15 =>
        mL_spread_L16 n (x4 + 1) (x5 + 1) ρ15
set_option maxHeartbeats 4000000 in
set_option maxRecDepth 100000 in
theorem wL_spread_L16 {p : Program} {l : Launch} {e : Env} {s : State} {m : MethodId} {args : Array Value} {below : List Frame} {meth : Method} {c : Code} {Q : State → Prop} {K : fm_K} {A : Nat → Prop} (C : CallFix p m c cL_spread 10 s args wsL_spread RL) (hst : fm_st K A s s.heap) (hA : ∀ q, fm_A K s.heap.size q → A q) (hq43 : fm_in K 43) (hq44 : fm_in K 44) :
    ∀ (n : Nat) (x4 : Int32) (x5 : Int32) (σ : fm_S) (o4 : Int32) (σo : fm_S), mL_spread_L16 n x4 x5 σ = some (o4, σo) → (∀ (ls : Array Slot) (H : Heap) (locs : List Loc), lv_has ls 10 [(0, .ref (K.2.2.2 40)), (2, .ref (K.2.2.2 43)), (3, .ref (K.2.2.2 44)), (4, .int o4)] → fm_H K σo A s H locs → W p l e rmL_spread s m args below meth c H locs 2 16 Q (F0 m 186 ls [])) → ∀ (ls : Array Slot) (H : Heap) (locs : List Loc), lv_has ls 10 [(0, .ref (K.2.2.2 40)), (1, .ref (K.2.2.2 41)), (2, .ref (K.2.2.2 43)), (3, .ref (K.2.2.2 44)), (4, .int x4), (5, .int x5)] → fm_H K σ A s H locs → W p l e rmL_spread s m args below meth c H locs 2 16 Q (F0 m 16 ls []) := by
  obtain ⟨hx, hb, hml, hown, hts⟩ := id C
  intro n
  induction n with
  | zero => intro x4 x5 σ o4 σo h; simp [mL_spread_L16] at h
  | succ n ih =>
    intro x4 x5 σ o4 σo h kk ls H locs hl hH
    rw [mL_spread_L16] at h
    refine lv_iload hx hb dL_spread_16 (lv_at hl 5 rfl) ?_
    refine lv_aload_n hx hb dL_spread_18 rfl (lv_at hl 0 rfl) ?_
    refine lv_bipush (v := 40) hx hb dL_spread_19 (by decide) ?_
    obtain ⟨hi1, h⟩ := mi_chk h
    refine fm_ild hx hb hst.1 hH 40 (fm_inb (by decide)) rfl rfl hi1 dL_spread_21 ?_
    refine lv_icmp_ge (tgt := 186) hx hb dL_spread_22 (by decide) (fun hc => ?_) (fun hc => ?_)
    · replace h := mi_pos hc h
      cases h
      exact kk _ _ _ (lv_sub hl [0, 2, 3, 4] rfl) hH
    · replace h := mi_neg hc h
      refine lv_aload_n hx hb dL_spread_25 rfl (lv_at hl 0 rfl) ?_
      refine lv_aload_n hx hb dL_spread_26 rfl (lv_at hl 1 rfl) ?_
      refine lv_iload hx hb dL_spread_27 (lv_at hl 5 rfl) ?_
      obtain ⟨r29, h29, h⟩ := mi_b1 h
      refine fm_ci (va_runS (As := [.ref (K.2.2.2 40), .ref (K.2.2.2 41), .int x5]) (rest := []) C (kL_heard l K h29 _) (va_cwS 3 hts gL_spread_L_heard rfl rfl rfl (by decide +kernel) ⟨(Nat.le_of_ble_eq_true rfl), (Nat.le_of_ble_eq_true rfl)⟩) ⟨fm_blind, fm_pre hst hA hH⟩ rfl rfl hl.1 rfl (lv_room (Nat.le_of_ble_eq_true rfl)) dL_spread_29 ⟨(Nat.le_of_ble_eq_true rfl), (Nat.le_of_ble_eq_true rfl)⟩) hA hH (fun H locs hH => ?_)
      refine lv_istore (lv' := [(6, .int r29), (0, .ref (K.2.2.2 40)), (1, .ref (K.2.2.2 41)), (2, .ref (K.2.2.2 43)), (3, .ref (K.2.2.2 44)), (4, .int x4), (5, .int x5)]) hx hb dL_spread_32 hl (by decide) rfl (fun ls hl => ?_)
      refine lv_aload_n hx hb dL_spread_34 rfl (lv_at hl 1 rfl) ?_
      refine lv_bipush (v := 8) hx hb dL_spread_35 (by decide) ?_
      refine lv_iload hx hb dL_spread_37 (lv_at hl 6 rfl) ?_
      refine lv_imul hx hb dL_spread_39 ?_
      refine lv_iconst (v := 5) hx hb dL_spread_40 (by decide) ?_
      refine lv_iadd hx hb dL_spread_41 ?_
      obtain ⟨hi2, h⟩ := mi_chk h
      refine fm_ild hx hb hst.1 hH 40 (fm_inb (by decide)) rfl rfl hi2 dL_spread_42 ?_
      refine lv_iconst (v := 2) hx hb dL_spread_43 (by decide) ?_
      refine lv_idiv hx hb dL_spread_44 (by decide) ?_
      obtain ⟨u7_3, hu, h⟩ := mi_b1 h
      rw [Option.some.inj hu]
      clear hu
      refine lv_istore (lv' := [(7, .int u7_3), (6, .int r29), (0, .ref (K.2.2.2 40)), (1, .ref (K.2.2.2 41)), (2, .ref (K.2.2.2 43)), (3, .ref (K.2.2.2 44)), (4, .int x4), (5, .int x5)]) hx hb dL_spread_45 hl (by decide) rfl (fun ls hl => ?_)
      refine lv_iload hx hb dL_spread_47 (lv_at hl 1 rfl) ?_
      refine lv_if_eq (tgt := 180) hx hb dL_spread_49 (by decide) (fun hc => ?_) (fun hc => ?_)
      · replace h := mi_pos hc h
        refine lv_iinc (v := (x5 + 1)) (lv' := [(5, .int (x5 + 1)), (7, .int u7_3), (6, .int r29), (0, .ref (K.2.2.2 40)), (1, .ref (K.2.2.2 41)), (2, .ref (K.2.2.2 43)), (3, .ref (K.2.2.2 44)), (4, .int x4)]) hx hb dL_spread_180 hl (k := 7) rfl rfl (by decide) rfl (fun ls hl => ?_)
        refine lv_goto (tgt := 16) hx hb dL_spread_183 (by decide) ?_
        exact ih _ _ _ _ _ h kk _ _ _ (lv_sub hl [3, 4, 5, 6, 7, 0] rfl) hH
      · replace h := mi_neg hc h
        refine lv_iload hx hb dL_spread_52 (lv_at hl 1 rfl) ?_
        refine lv_aload_n hx hb dL_spread_54 rfl (lv_at hl 2 rfl) ?_
        refine lv_bipush (v := 8) hx hb dL_spread_55 (by decide) ?_
        refine lv_iload hx hb dL_spread_57 (lv_at hl 7 rfl) ?_
        refine lv_imul hx hb dL_spread_59 ?_
        refine lv_bipush (v := 7) hx hb dL_spread_60 (by decide) ?_
        refine lv_iadd hx hb dL_spread_62 ?_
        obtain ⟨hi4, h⟩ := mi_chk h
        refine fm_ild hx hb hst.1 hH 40 (fm_inb (by decide)) rfl rfl hi4 dL_spread_63 ?_
        refine lv_ishr hx hb dL_spread_64 ?_
        refine lv_aload_n hx hb dL_spread_65 rfl (lv_at hl 2 rfl) ?_
        refine lv_bipush (v := 8) hx hb dL_spread_66 (by decide) ?_
        refine lv_iload hx hb dL_spread_68 (lv_at hl 7 rfl) ?_
        refine lv_imul hx hb dL_spread_70 ?_
        refine lv_bipush (v := 7) hx hb dL_spread_71 (by decide) ?_
        refine lv_iadd hx hb dL_spread_73 ?_
        refine fm_ild hx hb hst.1 hH 40 (fm_inb (by decide)) rfl rfl hi4 dL_spread_74 ?_
        refine lv_ishl hx hb dL_spread_75 ?_
        obtain ⟨u8_5, hu, h⟩ := mi_b1 h
        rw [Option.some.inj hu]
        clear hu
        refine lv_istore (lv' := [(8, .int u8_5), (7, .int u7_3), (6, .int r29), (0, .ref (K.2.2.2 40)), (1, .ref (K.2.2.2 41)), (2, .ref (K.2.2.2 43)), (3, .ref (K.2.2.2 44)), (4, .int x4), (5, .int x5)]) hx hb dL_spread_76 hl (by decide) rfl (fun ls hl => ?_)
        refine lv_iconst (v := 0) hx hb dL_spread_78 (by decide) ?_
        refine lv_istore (lv' := [(9, .int (0 : Int32)), (8, .int u8_5), (7, .int u7_3), (6, .int r29), (0, .ref (K.2.2.2 40)), (1, .ref (K.2.2.2 41)), (2, .ref (K.2.2.2 43)), (3, .ref (K.2.2.2 44)), (4, .int x4), (5, .int x5)]) hx hb dL_spread_79 hl (by decide) rfl (fun ls hl => ?_)
        obtain ⟨y81_9, h81, h⟩ := mi_b1 h
        refine wL_spread_L81 C hst hA hq43 hq44 _ _ _ _ _ _ h81 _ _ _ (fun ls H locs hl hH => ?_) _ _ _ (lv_sub hl [4, 5, 6, 7, 8, 9, 3, 2, 1, 0] rfl) hH
        refine lv_aload_n hx hb dL_spread_107 rfl (lv_at hl 0 rfl) ?_
        refine lv_bipush (v := 8) hx hb dL_spread_108 (by decide) ?_
        refine lv_iload hx hb dL_spread_110 (lv_at hl 5 rfl) ?_
        refine lv_imul hx hb dL_spread_112 ?_
        refine lv_bipush (v := 7) hx hb dL_spread_113 (by decide) ?_
        refine lv_iadd hx hb dL_spread_115 ?_
        refine lv_iload hx hb dL_spread_116 (lv_at hl 7 rfl) ?_
        refine lv_iconst (v := 1) hx hb dL_spread_118 (by decide) ?_
        refine lv_iadd hx hb dL_spread_119 ?_
        obtain ⟨hi7, h⟩ := mi_chk h
        refine fm_ist hx hb hst.1 hH 40 (fm_inb (by decide)) rfl rfl hi7 dL_spread_120 (fun H locs hH => ?_)
        obtain ⟨ρ8, hu, h⟩ := mi_b1 h
        rw [Option.some.inj hu] at hH
        clear hu
        refine lv_aload_n hx hb dL_spread_121 rfl (lv_at hl 2 rfl) ?_
        refine lv_iload hx hb dL_spread_122 (lv_at hl 7 rfl) ?_
        refine lv_dup2_11 hx hb dL_spread_124 rfl rfl ?_
        obtain ⟨hi9, h⟩ := mi_chk h
        refine fm_ild hx hb hst.1 hH 43 hq43 rfl rfl hi9 dL_spread_125 ?_
        refine lv_iload hx hb dL_spread_126 (lv_at hl 6 rfl) ?_
        refine lv_iadd hx hb dL_spread_128 ?_
        refine fm_ist hx hb hst.1 hH 43 hq43 rfl rfl hi9 dL_spread_129 (fun H locs hH => ?_)
        obtain ⟨ρ10, hu, h⟩ := mi_b1 h
        rw [Option.some.inj hu] at hH
        clear hu
        refine lv_aload_n hx hb dL_spread_130 rfl (lv_at hl 2 rfl) ?_
        refine lv_iload hx hb dL_spread_131 (lv_at hl 5 rfl) ?_
        refine lv_dup2_11 hx hb dL_spread_133 rfl rfl ?_
        obtain ⟨hi11, h⟩ := mi_chk h
        refine fm_ild hx hb hst.1 hH 43 hq43 rfl rfl hi11 dL_spread_134 ?_
        refine lv_iload hx hb dL_spread_135 (lv_at hl 6 rfl) ?_
        refine lv_isub hx hb dL_spread_137 ?_
        refine fm_ist hx hb hst.1 hH 43 hq43 rfl rfl hi11 dL_spread_138 (fun H locs hH => ?_)
        obtain ⟨ρ12, hu, h⟩ := mi_b1 h
        rw [Option.some.inj hu] at hH
        clear hu
        refine lv_aload_n hx hb dL_spread_139 rfl (lv_at hl 3 rfl) ?_
        refine lv_iload hx hb dL_spread_140 (lv_at hl 7 rfl) ?_
        refine lv_dup2_11 hx hb dL_spread_142 rfl rfl ?_
        refine fm_ild hx hb hst.1 hH 44 hq44 rfl rfl hi9 dL_spread_143 ?_
        refine lv_aload_n hx hb dL_spread_144 rfl (lv_at hl 0 rfl) ?_
        refine lv_bipush (v := 8) hx hb dL_spread_145 (by decide) ?_
        refine lv_iload hx hb dL_spread_147 (lv_at hl 5 rfl) ?_
        refine lv_imul hx hb dL_spread_149 ?_
        refine lv_bipush (v := 6) hx hb dL_spread_150 (by decide) ?_
        refine lv_iadd hx hb dL_spread_152 ?_
        obtain ⟨hi13, h⟩ := mi_chk h
        refine fm_ild hx hb hst.1 hH 40 (fm_inb (by decide)) rfl rfl hi13 dL_spread_153 ?_
        refine lv_iconst (v := 1) hx hb dL_spread_154 (by decide) ?_
        refine lv_ishr hx hb dL_spread_155 ?_
        refine lv_iadd hx hb dL_spread_156 ?_
        refine fm_ist hx hb hst.1 hH 44 hq44 rfl rfl hi9 dL_spread_157 (fun H locs hH => ?_)
        obtain ⟨ρ14, hu, h⟩ := mi_b1 h
        rw [Option.some.inj hu] at hH
        clear hu
        refine lv_aload_n hx hb dL_spread_158 rfl (lv_at hl 3 rfl) ?_
        refine lv_iload hx hb dL_spread_159 (lv_at hl 5 rfl) ?_
        refine lv_dup2_11 hx hb dL_spread_161 rfl rfl ?_
        refine fm_ild hx hb hst.1 hH 44 hq44 rfl rfl hi11 dL_spread_162 ?_
        refine lv_aload_n hx hb dL_spread_163 rfl (lv_at hl 0 rfl) ?_
        refine lv_bipush (v := 8) hx hb dL_spread_164 (by decide) ?_
        refine lv_iload hx hb dL_spread_166 (lv_at hl 5 rfl) ?_
        refine lv_imul hx hb dL_spread_168 ?_
        refine lv_bipush (v := 6) hx hb dL_spread_169 (by decide) ?_
        refine lv_iadd hx hb dL_spread_171 ?_
        refine fm_ild hx hb hst.1 hH 40 (fm_inb (by decide)) rfl rfl hi13 dL_spread_172 ?_
        refine lv_iconst (v := 1) hx hb dL_spread_173 (by decide) ?_
        refine lv_ishr hx hb dL_spread_174 ?_
        refine lv_isub hx hb dL_spread_175 ?_
        refine fm_ist hx hb hst.1 hH 44 hq44 rfl rfl hi11 dL_spread_176 (fun H locs hH => ?_)
        obtain ⟨ρ15, hu, h⟩ := mi_b1 h
        rw [Option.some.inj hu] at hH
        clear hu
        refine lv_iinc (v := (x4 + 1)) (lv' := [(4, .int (x4 + 1)), (0, .ref (K.2.2.2 40)), (1, .ref (K.2.2.2 41)), (2, .ref (K.2.2.2 43)), (3, .ref (K.2.2.2 44)), (5, .int x5), (7, .int u7_3), (9, .int y81_9)]) hx hb dL_spread_177 hl (k := 4) rfl rfl (by decide) rfl (fun ls hl => ?_)
        refine lv_iinc (v := (x5 + 1)) (lv' := [(5, .int (x5 + 1)), (4, .int (x4 + 1)), (0, .ref (K.2.2.2 40)), (1, .ref (K.2.2.2 41)), (2, .ref (K.2.2.2 43)), (3, .ref (K.2.2.2 44)), (7, .int u7_3), (9, .int y81_9)]) hx hb dL_spread_180 hl (k := 5) rfl rfl (by decide) rfl (fun ls hl => ?_)
        refine lv_goto (tgt := 16) hx hb dL_spread_183 (by decide) ?_
        exact ih _ _ _ _ _ h kk _ _ _ (lv_sub hl [2, 3, 4, 5, 1, 0] rfl) hH
def mL_spread_L189 : Nat → Int32 → fm_S → Option (fm_S)
  | 0, _, _ => none
  | n + 1, x5, σ =>
    if ((40 : Int32) < 0 ∨ 48 ≤ (40 : Int32).toNatClampNeg) then none else
    if (rI σ 40 (40 : Int32)) ≤ x5 then
      some σ
    else
      if ((((8 : Int32) * x5) + (5 : Int32)) < 0 ∨ 48 ≤ (((8 : Int32) * x5) + (5 : Int32)).toNatClampNeg) then none else
      if (x5 < 0 ∨ 8 ≤ x5.toNatClampNeg) then none else
      mb1 (some (sI σ 40 (((8 : Int32) * x5) + (5 : Int32)) ((rI σ 40 (((8 : Int32) * x5) + (5 : Int32))) + (rI σ 43 x5)))) fun ρ19 =>
      if ((((8 : Int32) * x5) + (6 : Int32)) < 0 ∨ 48 ≤ (((8 : Int32) * x5) + (6 : Int32)).toNatClampNeg) then none else
      mb1 (some (sI ρ19 40 (((8 : Int32) * x5) + (6 : Int32)) ((rI ρ19 40 (((8 : Int32) * x5) + (6 : Int32))) + (rI ρ19 44 x5)))) fun ρ21 =>
      mL_spread_L189 n (x5 + 1) ρ21
set_option maxHeartbeats 4000000 in
set_option maxRecDepth 100000 in
theorem wL_spread_L189 {p : Program} {l : Launch} {e : Env} {s : State} {m : MethodId} {args : Array Value} {below : List Frame} {meth : Method} {c : Code} {Q : State → Prop} {K : fm_K} {A : Nat → Prop} (C : CallFix p m c cL_spread 10 s args wsL_spread RL) (hst : fm_st K A s s.heap) (hA : ∀ q, fm_A K s.heap.size q → A q) (hq43 : fm_in K 43) (hq44 : fm_in K 44) :
    ∀ (n : Nat) (x5 : Int32) (σ : fm_S) (σo : fm_S), mL_spread_L189 n x5 σ = some σo → ∀ (x4 : Int32), (∀ (ls : Array Slot) (H : Heap) (locs : List Loc), lv_has ls 10 [(4, .int x4)] → fm_H K σo A s H locs → W p l e rmL_spread s m args below meth c H locs 2 16 Q (F0 m 237 ls [])) → ∀ (ls : Array Slot) (H : Heap) (locs : List Loc), lv_has ls 10 [(0, .ref (K.2.2.2 40)), (2, .ref (K.2.2.2 43)), (3, .ref (K.2.2.2 44)), (4, .int x4), (5, .int x5)] → fm_H K σ A s H locs → W p l e rmL_spread s m args below meth c H locs 2 16 Q (F0 m 189 ls []) := by
  obtain ⟨hx, hb, hml, hown, hts⟩ := id C
  intro n
  induction n with
  | zero => intro x5 σ σo h; simp [mL_spread_L189] at h
  | succ n ih =>
    intro x5 σ σo h x4 kk ls H locs hl hH
    rw [mL_spread_L189] at h
    refine lv_iload hx hb dL_spread_189 (lv_at hl 4 rfl) ?_
    refine lv_aload_n hx hb dL_spread_191 rfl (lv_at hl 0 rfl) ?_
    refine lv_bipush (v := 40) hx hb dL_spread_192 (by decide) ?_
    obtain ⟨hi16, h⟩ := mi_chk h
    refine fm_ild hx hb hst.1 hH 40 (fm_inb (by decide)) rfl rfl hi16 dL_spread_194 ?_
    refine lv_icmp_ge (tgt := 237) hx hb dL_spread_195 (by decide) (fun hc => ?_) (fun hc => ?_)
    · replace h := mi_pos hc h
      cases h
      exact kk _ _ _ (lv_sub hl [3] rfl) hH
    · replace h := mi_neg hc h
      refine lv_aload_n hx hb dL_spread_198 rfl (lv_at hl 0 rfl) ?_
      refine lv_bipush (v := 8) hx hb dL_spread_199 (by decide) ?_
      refine lv_iload hx hb dL_spread_201 (lv_at hl 4 rfl) ?_
      refine lv_imul hx hb dL_spread_203 ?_
      refine lv_iconst (v := 5) hx hb dL_spread_204 (by decide) ?_
      refine lv_iadd hx hb dL_spread_205 ?_
      refine lv_dup2_11 hx hb dL_spread_206 rfl rfl ?_
      obtain ⟨hi17, h⟩ := mi_chk h
      refine fm_ild hx hb hst.1 hH 40 (fm_inb (by decide)) rfl rfl hi17 dL_spread_207 ?_
      refine lv_aload_n hx hb dL_spread_208 rfl (lv_at hl 1 rfl) ?_
      refine lv_iload hx hb dL_spread_209 (lv_at hl 4 rfl) ?_
      obtain ⟨hi18, h⟩ := mi_chk h
      refine fm_ild hx hb hst.1 hH 43 hq43 rfl rfl hi18 dL_spread_211 ?_
      refine lv_iadd hx hb dL_spread_212 ?_
      refine fm_ist hx hb hst.1 hH 40 (fm_inb (by decide)) rfl rfl hi17 dL_spread_213 (fun H locs hH => ?_)
      obtain ⟨ρ19, hu, h⟩ := mi_b1 h
      rw [Option.some.inj hu] at hH
      clear hu
      refine lv_aload_n hx hb dL_spread_214 rfl (lv_at hl 0 rfl) ?_
      refine lv_bipush (v := 8) hx hb dL_spread_215 (by decide) ?_
      refine lv_iload hx hb dL_spread_217 (lv_at hl 4 rfl) ?_
      refine lv_imul hx hb dL_spread_219 ?_
      refine lv_bipush (v := 6) hx hb dL_spread_220 (by decide) ?_
      refine lv_iadd hx hb dL_spread_222 ?_
      refine lv_dup2_11 hx hb dL_spread_223 rfl rfl ?_
      obtain ⟨hi20, h⟩ := mi_chk h
      refine fm_ild hx hb hst.1 hH 40 (fm_inb (by decide)) rfl rfl hi20 dL_spread_224 ?_
      refine lv_aload_n hx hb dL_spread_225 rfl (lv_at hl 2 rfl) ?_
      refine lv_iload hx hb dL_spread_226 (lv_at hl 4 rfl) ?_
      refine fm_ild hx hb hst.1 hH 44 hq44 rfl rfl hi18 dL_spread_228 ?_
      refine lv_iadd hx hb dL_spread_229 ?_
      refine fm_ist hx hb hst.1 hH 40 (fm_inb (by decide)) rfl rfl hi20 dL_spread_230 (fun H locs hH => ?_)
      obtain ⟨ρ21, hu, h⟩ := mi_b1 h
      rw [Option.some.inj hu] at hH
      clear hu
      refine lv_iinc (v := (x5 + 1)) (lv' := [(5, .int (x5 + 1)), (0, .ref (K.2.2.2 40)), (2, .ref (K.2.2.2 43)), (3, .ref (K.2.2.2 44)), (4, .int x4)]) hx hb dL_spread_231 hl (k := 4) rfl rfl (by decide) rfl (fun ls hl => ?_)
      refine lv_goto (tgt := 189) hx hb dL_spread_234 (by decide) ?_
      exact ih _ _ _ h _ kk _ _ _ (lv_sub hl [1, 2, 3, 4, 0] rfl) hH
def mL_spread (σ : fm_S) : Option (Int32 × fm_S) :=
  mb2 (mL_spread_L16 fG (0 : Int32) (0 : Int32) (fm_z (fm_z σ 43) 44)) fun y16_4 σ16 =>
  mb1 (mL_spread_L189 fG (0 : Int32) σ16) fun σ189 =>
  some (y16_4, σ189)
set_option maxHeartbeats 4000000 in
set_option maxRecDepth 100000 in
theorem kL_spread (l : Launch) (K : fm_K) (hn : fm_n K = 0) {σ : fm_S} {r : Int32} {σ' : fm_S} (h : mL_spread σ = some (r, σ')) : fm_WI l yL_spread wsL_spread rmL_spread K [.ref (K.2.2.2 40), .ref (K.2.2.2 41)] σ r σ' 2 16 := by
  intro sz
  refine fm_start (Qc := fun sz => fm_QI K r σ' sz) (cc := cL_spread) (maxL := 10) (ret := (some .int)) (by decide) rfl (Nat.le_of_ble_eq_true rfl) ?_
  intro p e s m args below meth c C hr hlk hst hH ls hl
  have C : CallFix p m c cL_spread 10 s args wsL_spread RL := C
  obtain ⟨hx, hb, hml, hown, hts⟩ := id C
  have hA : ∀ q, fm_A K s.heap.size q → fm_A K s.heap.size q := fun _ h => h
  have hl : lv_has ls 10 [(0, .ref (K.2.2.2 40)), (1, .ref (K.2.2.2 41))] := hl
  generalize hQ : MQ below _ args s _ _ _ = Q
  have kend : ∀ (H : Heap) (locs : List Loc) (ls : Array Slot) (pc : Nat), decode cL_spread pc = .ok (.ireturn, 1) → fm_H K σ' (fm_A K s.heap.size) s H locs → W p l e rmL_spread s m args below meth c H locs 2 16 Q (F0 m pc ls [.int r]) := by
    intro H locs ls pc hd hH
    subst hQ
    exact fm_iretW hx hb hr hlk hst hH (Nat.le_refl _) (Nat.le_refl _) hd
  obtain ⟨A, hAd⟩ : ∃ A, A = fm_A K s.heap.size := ⟨_, rfl⟩
  rw [← hAd] at hst hH hA kend
  have hA : ∀ q, fm_A K s.heap.size q → A q := by rw [hAd]; exact fun _ h => h
  rw [mL_spread] at h
  refine lv_bipush (v := 8) hx hb dL_spread_0 (by decide) ?_
  refine fm_newI (q := 43) (n1 := 1) hn (by decide) rfl (by decide) (by decide +kernel) hx hb (hts (.arrayClass .int) (List.mem_of_getElem? (i := 1) rfl)) hst hA hH (Nat.le_of_ble_eq_true rfl) (Nat.le_of_ble_eq_true rfl) dL_spread_2 (fun K H hn hne hH hst hA hdr => ?_)
  have hl : lv_has ls 10 [(0, .ref (K.2.2.2 40)), (1, .ref (K.2.2.2 41))] := by rw [hne 40 (by decide), hne 41 (by decide)]; exact hl
  have kend : ∀ (H : Heap) (locs : List Loc) (ls : Array Slot) (pc : Nat), decode cL_spread pc = .ok (.ireturn, 1) → fm_H K σ' A s H locs → W p l e rmL_spread s m args below meth c H locs 2 16 Q (F0 m pc ls [.int r]) := fun H locs ls pc hd hH => kend H locs ls pc hd (hdr _ _ _ hH)
  have hq43 : fm_in K 43 := fm_in43 (by rw [hn]; decide)
  refine lv_astore_n (lv' := [(2, .ref (K.2.2.2 43)), (0, .ref (K.2.2.2 40)), (1, .ref (K.2.2.2 41))]) hx hb dL_spread_4 rfl hl (by decide) rfl (fun ls hl => ?_)
  refine lv_bipush (v := 8) hx hb dL_spread_5 (by decide) ?_
  refine fm_newI (q := 44) (n1 := 2) hn (by decide) rfl (by decide) (by decide +kernel) hx hb (hts (.arrayClass .int) (List.mem_of_getElem? (i := 1) rfl)) hst hA hH (Nat.le_of_ble_eq_true rfl) (Nat.le_of_ble_eq_true rfl) dL_spread_7 (fun K H hn hne hH hst hA hdr => ?_)
  have hl : lv_has ls 10 [(2, .ref (K.2.2.2 43)), (0, .ref (K.2.2.2 40)), (1, .ref (K.2.2.2 41))] := by rw [hne 43 (by decide), hne 40 (by decide), hne 41 (by decide)]; exact hl
  have kend : ∀ (H : Heap) (locs : List Loc) (ls : Array Slot) (pc : Nat), decode cL_spread pc = .ok (.ireturn, 1) → fm_H K σ' A s H locs → W p l e rmL_spread s m args below meth c H locs 2 16 Q (F0 m pc ls [.int r]) := fun H locs ls pc hd hH => kend H locs ls pc hd (hdr _ _ _ hH)
  have hq43 : fm_in K 43 := fm_in43 (by rw [hn]; decide)
  have hq44 : fm_in K 44 := fm_in44 hn
  refine lv_astore_n (lv' := [(3, .ref (K.2.2.2 44)), (2, .ref (K.2.2.2 43)), (0, .ref (K.2.2.2 40)), (1, .ref (K.2.2.2 41))]) hx hb dL_spread_9 rfl hl (by decide) rfl (fun ls hl => ?_)
  refine lv_iconst (v := 0) hx hb dL_spread_10 (by decide) ?_
  refine lv_istore (lv' := [(4, .int (0 : Int32)), (3, .ref (K.2.2.2 44)), (2, .ref (K.2.2.2 43)), (0, .ref (K.2.2.2 40)), (1, .ref (K.2.2.2 41))]) hx hb dL_spread_11 hl (by decide) rfl (fun ls hl => ?_)
  refine lv_iconst (v := 0) hx hb dL_spread_13 (by decide) ?_
  refine lv_istore (lv' := [(5, .int (0 : Int32)), (4, .int (0 : Int32)), (3, .ref (K.2.2.2 44)), (2, .ref (K.2.2.2 43)), (0, .ref (K.2.2.2 40)), (1, .ref (K.2.2.2 41))]) hx hb dL_spread_14 hl (by decide) rfl (fun ls hl => ?_)
  obtain ⟨y16_4, σ16, h16, h⟩ := mi_b2 h
  refine wL_spread_L16 C hst hA hq43 hq44 _ _ _ _ _ _ h16 (fun ls H locs hl hH => ?_) _ _ _ (lv_sub hl [4, 5, 3, 2, 1, 0] rfl) hH
  refine lv_iconst (v := 0) hx hb dL_spread_186 (by decide) ?_
  refine lv_istore (lv' := [(5, .int (0 : Int32)), (0, .ref (K.2.2.2 40)), (2, .ref (K.2.2.2 43)), (3, .ref (K.2.2.2 44)), (4, .int y16_4)]) hx hb dL_spread_187 hl (by decide) rfl (fun ls hl => ?_)
  obtain ⟨σ189, h189, h⟩ := mi_b1 h
  refine wL_spread_L189 C hst hA hq43 hq44 _ _ _ _ h189 _ (fun ls H locs hl hH => ?_) _ _ _ (lv_sub hl [1, 2, 3, 4, 0] rfl) hH
  refine lv_iload hx hb dL_spread_237 (lv_at hl 0 rfl) ?_
  cases h
  exact kend _ _ _ _ dL_spread_239 hH
/-! RL.moved(JI)I -/
abbrev rmL_moved : Room := { frames := 0, cells := 0, slots := 0, locals := 0 }
def mL_moved (x0 : Int64) (x2 : Int32) : Option Int32 :=
  mb1 (show Option (Int64) from
    if (lg_cmp x0 (0 : Int64)) < 0 then
      some ((-((-x0) / (1000000 : Int64))))
    else
      some ((x0 / (1000000 : Int64)))) fun v1_0 =>
  mb1 (show Option (Int64) from
    if (lg_cmp v1_0 (50 : Int64)) ≤ 0 then
      if 0 ≤ (lg_cmp v1_0 (-50 : Int64)) then
        some v1_0
      else
        some ((-50 : Int64))
    else
      some ((50 : Int64))) fun v2_0 =>
  mb1 (some ((x2.toInt64) - v2_0)) fun u5_3 =>
  if (lg_cmp u5_3 (1000 : Int64)) ≤ 0 then
    if 0 ≤ (lg_cmp u5_3 (-1000 : Int64)) then
      some (u5_3.toInt32)
    else
      some ((-1000 : Int64).toInt32)
  else
    some ((1000 : Int64).toInt32)
set_option maxHeartbeats 4000000 in
set_option maxRecDepth 100000 in
theorem kL_moved (l : Launch) (K : fm_K) {x0 : Int64} {x2 : Int32} {σ : fm_S} {r : Int32} (h : mL_moved x0 x2 = some r) : fm_CI l yL_moved wsL_moved rmL_moved K [.long x0, .int x2] σ r σ := by
  intro sz
  refine fm_start (Qc := fun sz => fm_QI K r σ sz) (cc := cL_moved) (maxL := 7) (ret := (some .int)) (by decide) rfl (Nat.le_of_ble_eq_true rfl) ?_
  intro p e s m args below meth c C hr hlk hst hH ls hl
  have C : CallFix p m c cL_moved 7 s args wsL_moved RL := C
  obtain ⟨hx, hb, hml, hown, hts⟩ := id C
  have hA : ∀ q, fm_A K s.heap.size q → fm_A K s.heap.size q := fun _ h => h
  have hl : lv_has ls 7 [(0, .long x0), (2, .int x2)] := hl
  generalize hQ : MQ below _ args s _ _ _ = Q
  rw [mL_moved] at h
  refine lv_lload_n hx hb dL_moved_0 rfl (lv_at hl 0 rfl) ?_
  refine lv_lconst (v := 0) hx hb dL_moved_1 (by decide) ?_
  refine W.lcmp hx hb dL_moved_2 ?_
  obtain ⟨v1_0, hd, h2⟩ := mi_b1 h
  have kj : ∀ (ls : Array Slot) (H : Heap) (locs : List Loc), lv_has ls 7 [(2, .int x2)] → fm_H K σ (fm_A K s.heap.size) s H locs → W p l e rmL_moved s m args below meth c H locs 0 0 Q (F0 m 21 ls [.long v1_0]) := by
    clear h hd
    intro ls H locs hl hH
    have h := h2
    clear h2
    refine lv_lstore_n (lv' := [(3, .long v1_0), (2, .int x2)]) hx hb dL_moved_21 rfl hl (by decide) rfl (fun ls hl => ?_)
    refine lv_lload_n hx hb dL_moved_22 rfl (lv_at hl 0 rfl) ?_
    refine lv_ldc2 (v := 50) hx hb hown (hts (.constantLong RL 108 (50)) (List.mem_of_getElem? (i := 2) rfl)) dL_moved_23 ?_
    refine W.lcmp hx hb dL_moved_26 ?_
    obtain ⟨v2_0, hd, h2⟩ := mi_b1 h
    have kj : ∀ (ls : Array Slot) (H : Heap) (locs : List Loc), lv_has ls 7 [(2, .int x2)] → fm_H K σ (fm_A K s.heap.size) s H locs → W p l e rmL_moved s m args below meth c H locs 0 0 Q (F0 m 51 ls [.long v2_0]) := by
      clear h hd
      intro ls H locs hl hH
      have h := h2
      clear h2
      refine lv_lstore_n (lv' := [(3, .long v2_0), (2, .int x2)]) hx hb dL_moved_51 rfl hl (by decide) rfl (fun ls hl => ?_)
      refine lv_iload_n hx hb dL_moved_52 rfl (lv_at hl 1 rfl) ?_
      refine lv_i2l (v := x2.toInt64) hx hb dL_moved_53 rfl ?_
      refine lv_lload_n hx hb dL_moved_54 rfl (lv_at hl 0 rfl) ?_
      refine lv_lsub hx hb dL_moved_55 ?_
      obtain ⟨u5_3, hu, h⟩ := mi_b1 h
      rw [Option.some.inj hu]
      clear hu
      refine lv_lstore (lv' := [(5, .long u5_3), (3, .long v2_0), (2, .int x2)]) hx hb dL_moved_56 hl (by decide) rfl (fun ls hl => ?_)
      refine lv_lload hx hb dL_moved_58 (lv_at hl 0 rfl) ?_
      refine lv_ldc2 (v := 1000) hx hb hown (hts (.constantLong RL 112 (1000)) (List.mem_of_getElem? (i := 4) rfl)) dL_moved_60 ?_
      refine W.lcmp hx hb dL_moved_63 ?_
      refine lv_if_le (tgt := 73) hx hb dL_moved_64 (by decide) (fun hc => ?_) (fun hc => ?_)
      · replace h := mi_pos hc h
        refine lv_lload hx hb dL_moved_73 (lv_at hl 0 rfl) ?_
        refine lv_ldc2 (v := -1000) hx hb hown (hts (.constantLong RL 114 (-1000)) (List.mem_of_getElem? (i := 5) rfl)) dL_moved_75 ?_
        refine W.lcmp hx hb dL_moved_78 ?_
        refine lv_if_ge (tgt := 88) hx hb dL_moved_79 (by decide) (fun hc => ?_) (fun hc => ?_)
        · replace h := mi_pos hc h
          refine lv_lload hx hb dL_moved_88 (lv_at hl 0 rfl) ?_
          refine lv_l2i (v := u5_3.toInt32) hx hb dL_moved_90 rfl ?_
          cases h
          subst hQ
          exact fm_iret hx hb hr hlk hst hH dL_moved_91
        · replace h := mi_neg hc h
          refine lv_ldc2 (v := -1000) hx hb hown (hts (.constantLong RL 114 (-1000)) (List.mem_of_getElem? (i := 5) rfl)) dL_moved_82 ?_
          refine lv_goto (tgt := 90) hx hb dL_moved_85 (by decide) ?_
          refine lv_l2i (v := (-1000 : Int64).toInt32) hx hb dL_moved_90 rfl ?_
          cases h
          subst hQ
          exact fm_iret hx hb hr hlk hst hH dL_moved_91
      · replace h := mi_neg hc h
        refine lv_ldc2 (v := 1000) hx hb hown (hts (.constantLong RL 112 (1000)) (List.mem_of_getElem? (i := 4) rfl)) dL_moved_67 ?_
        refine lv_goto (tgt := 90) hx hb dL_moved_70 (by decide) ?_
        refine lv_l2i (v := (1000 : Int64).toInt32) hx hb dL_moved_90 rfl ?_
        cases h
        subst hQ
        exact fm_iret hx hb hr hlk hst hH dL_moved_91
    replace h := hd
    clear h2 hd
    refine lv_if_le (tgt := 36) hx hb dL_moved_27 (by decide) (fun hc => ?_) (fun hc => ?_)
    · replace h := mi_pos hc h
      refine lv_lload_n hx hb dL_moved_36 rfl (lv_at hl 0 rfl) ?_
      refine lv_ldc2 (v := -50) hx hb hown (hts (.constantLong RL 110 (-50)) (List.mem_of_getElem? (i := 3) rfl)) dL_moved_37 ?_
      refine W.lcmp hx hb dL_moved_40 ?_
      refine lv_if_ge (tgt := 50) hx hb dL_moved_41 (by decide) (fun hc => ?_) (fun hc => ?_)
      · replace h := mi_pos hc h
        refine lv_lload_n hx hb dL_moved_50 rfl (lv_at hl 0 rfl) ?_
        cases h
        exact kj _ _ _ (lv_sub hl [1] rfl) hH
      · replace h := mi_neg hc h
        refine lv_ldc2 (v := -50) hx hb hown (hts (.constantLong RL 110 (-50)) (List.mem_of_getElem? (i := 3) rfl)) dL_moved_44 ?_
        refine lv_goto (tgt := 51) hx hb dL_moved_47 (by decide) ?_
        cases h
        exact kj _ _ _ (lv_sub hl [1] rfl) hH
    · replace h := mi_neg hc h
      refine lv_ldc2 (v := 50) hx hb hown (hts (.constantLong RL 108 (50)) (List.mem_of_getElem? (i := 2) rfl)) dL_moved_30 ?_
      refine lv_goto (tgt := 51) hx hb dL_moved_33 (by decide) ?_
      cases h
      exact kj _ _ _ (lv_sub hl [1] rfl) hH
  replace h := hd
  clear h2 hd
  refine lv_if_lt (tgt := 14) hx hb dL_moved_3 (by decide) (fun hc => ?_) (fun hc => ?_)
  · replace h := mi_pos hc h
    refine lv_lload_n hx hb dL_moved_14 rfl (lv_at hl 0 rfl) ?_
    refine lv_lneg hx hb dL_moved_15 ?_
    refine lv_ldc2 (v := 1000000) hx hb hown (hts (.constantLong RL 106 (1000000)) (List.mem_of_getElem? (i := 1) rfl)) dL_moved_16 ?_
    refine lv_ldiv hx hb dL_moved_19 (by decide) ?_
    refine lv_lneg hx hb dL_moved_20 ?_
    cases h
    exact kj _ _ _ (lv_sub hl [1] rfl) hH
  · replace h := mi_neg hc h
    refine lv_lload_n hx hb dL_moved_6 rfl (lv_at hl 0 rfl) ?_
    refine lv_ldc2 (v := 1000000) hx hb hown (hts (.constantLong RL 106 (1000000)) (List.mem_of_getElem? (i := 1) rfl)) dL_moved_7 ?_
    refine lv_ldiv hx hb dL_moved_10 (by decide) ?_
    refine lv_goto (tgt := 21) hx hb dL_moved_11 (by decide) ?_
    cases h
    exact kj _ _ _ (lv_sub hl [1] rfl) hH
/-! RL.settle([I[I[I)V -/
abbrev rmL_settle : Room := { frames := 2, cells := 1, slots := 16, locals := 49 }
def mL_settle_L8 : Nat → Int32 → fm_S → Option (fm_S)
  | 0, _, _ => none
  | n + 1, x4, σ =>
    if ((40 : Int32) < 0 ∨ 48 ≤ (40 : Int32).toNatClampNeg) then none else
    if ((rI σ 40 (40 : Int32)) * (rI σ 40 (40 : Int32))) ≤ x4 then
      some σ
    else
      if (rI σ 40 (40 : Int32)) = 0 then none else
      mb1 (some (x4 / (rI σ 40 (40 : Int32)))) fun u5_3 =>
      mb1 (some (x4 - x4 / (rI σ 40 (40 : Int32)) * (rI σ 40 (40 : Int32)))) fun u6_4 =>
      mb1 (mL_heard u5_3 σ) fun r44 =>
      if ((r44 >>> (u6_4 &&& 31)) &&& (1 : Int32)) = (1 : Int32) then
        mb1 (mL_pair u5_3 u6_4) fun r61 =>
        if (r61 < 0 ∨ 25 ≤ r61.toNatClampNeg) then none else
        if (rI σ 42 r61) ≤ 0 then
          mL_settle_L8 n (x4 + 1) σ
        else
          mb1 (mL_square u5_3 u6_4 σ) fun r73 =>
          mb1 (mL_pair u5_3 u6_4) fun r81 =>
          if (r81 < 0 ∨ 25 ≤ r81.toNatClampNeg) then none else
          mb1 (some ((r73 - (rI σ 42 r81)).toInt64)) fun u7_7 =>
          if (u5_3 < 0 ∨ 16 ≤ u5_3.toNatClampNeg) then none else
          if (((8 : Int32) * u5_3) < 0 ∨ 48 ≤ ((8 : Int32) * u5_3).toNatClampNeg) then none else
          if (((8 : Int32) * u6_4) < 0 ∨ 48 ≤ ((8 : Int32) * u6_4).toNatClampNeg) then none else
          mb1 (some (sL σ 45 u5_3 ((rL σ 45 u5_3) + (u7_7 * (((rI σ 40 ((8 : Int32) * u5_3)) - (rI σ 40 ((8 : Int32) * u6_4))).toInt64))))) fun ρ11 =>
          if (((8 : Int32) + u5_3) < 0 ∨ 16 ≤ ((8 : Int32) + u5_3).toNatClampNeg) then none else
          if ((((8 : Int32) * u5_3) + (1 : Int32)) < 0 ∨ 48 ≤ (((8 : Int32) * u5_3) + (1 : Int32)).toNatClampNeg) then none else
          if ((((8 : Int32) * u6_4) + (1 : Int32)) < 0 ∨ 48 ≤ (((8 : Int32) * u6_4) + (1 : Int32)).toNatClampNeg) then none else
          mb1 (some (sL ρ11 45 ((8 : Int32) + u5_3) ((rL ρ11 45 ((8 : Int32) + u5_3)) + (u7_7 * (((rI ρ11 40 (((8 : Int32) * u5_3) + (1 : Int32))) - (rI ρ11 40 (((8 : Int32) * u6_4) + (1 : Int32)))).toInt64))))) fun ρ15 =>
          mL_settle_L8 n (x4 + 1) ρ15
      else
        mL_settle_L8 n (x4 + 1) σ
set_option maxHeartbeats 4000000 in
set_option maxRecDepth 100000 in
theorem wL_settle_L8 {p : Program} {l : Launch} {e : Env} {s : State} {m : MethodId} {args : Array Value} {below : List Frame} {meth : Method} {c : Code} {Q : State → Prop} {K : fm_K} {A : Nat → Prop} (C : CallFix p m c cL_settle 9 s args wsL_settle RL) (hst : fm_st K A s s.heap) (hA : ∀ q, fm_A K s.heap.size q → A q) (hq45 : fm_in K 45) :
    ∀ (n : Nat) (x4 : Int32) (σ : fm_S) (σo : fm_S), mL_settle_L8 n x4 σ = some σo → (∀ (ls : Array Slot) (H : Heap) (locs : List Loc), lv_has ls 9 [(0, .ref (K.2.2.2 40)), (3, .ref (K.2.2.2 45))] → fm_H K σo A s H locs → W p l e rmL_settle s m args below meth c H locs 1 16 Q (F0 m 154 ls [])) → ∀ (ls : Array Slot) (H : Heap) (locs : List Loc), lv_has ls 9 [(0, .ref (K.2.2.2 40)), (1, .ref (K.2.2.2 41)), (2, .ref (K.2.2.2 42)), (3, .ref (K.2.2.2 45)), (4, .int x4)] → fm_H K σ A s H locs → W p l e rmL_settle s m args below meth c H locs 1 16 Q (F0 m 8 ls []) := by
  obtain ⟨hx, hb, hml, hown, hts⟩ := id C
  intro n
  induction n with
  | zero => intro x4 σ σo h; simp [mL_settle_L8] at h
  | succ n ih =>
    intro x4 σ σo h kk ls H locs hl hH
    rw [mL_settle_L8] at h
    refine lv_iload hx hb dL_settle_8 (lv_at hl 4 rfl) ?_
    refine lv_aload_n hx hb dL_settle_10 rfl (lv_at hl 0 rfl) ?_
    refine lv_bipush (v := 40) hx hb dL_settle_11 (by decide) ?_
    obtain ⟨hi1, h⟩ := mi_chk h
    refine fm_ild hx hb hst.1 hH 40 (fm_inb (by decide)) rfl rfl hi1 dL_settle_13 ?_
    refine lv_aload_n hx hb dL_settle_14 rfl (lv_at hl 0 rfl) ?_
    refine lv_bipush (v := 40) hx hb dL_settle_15 (by decide) ?_
    refine fm_ild hx hb hst.1 hH 40 (fm_inb (by decide)) rfl rfl hi1 dL_settle_17 ?_
    refine lv_imul hx hb dL_settle_18 ?_
    refine lv_icmp_ge (tgt := 154) hx hb dL_settle_19 (by decide) (fun hc => ?_) (fun hc => ?_)
    · replace h := mi_pos hc h
      cases h
      exact kk _ _ _ (lv_sub hl [0, 3] rfl) hH
    · replace h := mi_neg hc h
      refine lv_iload hx hb dL_settle_22 (lv_at hl 4 rfl) ?_
      refine lv_aload_n hx hb dL_settle_24 rfl (lv_at hl 0 rfl) ?_
      refine lv_bipush (v := 40) hx hb dL_settle_25 (by decide) ?_
      refine fm_ild hx hb hst.1 hH 40 (fm_inb (by decide)) rfl rfl hi1 dL_settle_27 ?_
      obtain ⟨hz2, h⟩ := mi_chk h
      refine lv_idiv hx hb dL_settle_28 hz2 ?_
      obtain ⟨u5_3, hu, h⟩ := mi_b1 h
      rw [Option.some.inj hu]
      clear hu
      refine lv_istore (lv' := [(5, .int u5_3), (0, .ref (K.2.2.2 40)), (1, .ref (K.2.2.2 41)), (2, .ref (K.2.2.2 42)), (3, .ref (K.2.2.2 45)), (4, .int x4)]) hx hb dL_settle_29 hl (by decide) rfl (fun ls hl => ?_)
      refine lv_iload hx hb dL_settle_31 (lv_at hl 5 rfl) ?_
      refine lv_aload_n hx hb dL_settle_33 rfl (lv_at hl 1 rfl) ?_
      refine lv_bipush (v := 40) hx hb dL_settle_34 (by decide) ?_
      refine fm_ild hx hb hst.1 hH 40 (fm_inb (by decide)) rfl rfl hi1 dL_settle_36 ?_
      refine lv_irem hx hb dL_settle_37 hz2 ?_
      obtain ⟨u6_4, hu, h⟩ := mi_b1 h
      rw [Option.some.inj hu]
      clear hu
      refine lv_istore (lv' := [(6, .int u6_4), (5, .int u5_3), (0, .ref (K.2.2.2 40)), (1, .ref (K.2.2.2 41)), (2, .ref (K.2.2.2 42)), (3, .ref (K.2.2.2 45)), (4, .int x4)]) hx hb dL_settle_38 hl (by decide) rfl (fun ls hl => ?_)
      refine lv_aload_n hx hb dL_settle_40 rfl (lv_at hl 2 rfl) ?_
      refine lv_aload_n hx hb dL_settle_41 rfl (lv_at hl 3 rfl) ?_
      refine lv_iload hx hb dL_settle_42 (lv_at hl 1 rfl) ?_
      obtain ⟨r44, h44, h⟩ := mi_b1 h
      refine fm_ci (va_runS (As := [.ref (K.2.2.2 40), .ref (K.2.2.2 41), .int u5_3]) (rest := []) C (kL_heard l K h44 _) (va_cwS 3 hts gL_settle_L_heard rfl rfl rfl (by decide +kernel) ⟨(Nat.le_of_ble_eq_true rfl), (Nat.le_of_ble_eq_true rfl)⟩) ⟨fm_blind, fm_pre hst hA hH⟩ rfl rfl hl.1 rfl (lv_room (Nat.le_of_ble_eq_true rfl)) dL_settle_44 ⟨(Nat.le_of_ble_eq_true rfl), (Nat.le_of_ble_eq_true rfl)⟩) hA hH (fun H locs hH => ?_)
      refine lv_iload hx hb dL_settle_47 (lv_at hl 0 rfl) ?_
      refine lv_ishr hx hb dL_settle_49 ?_
      refine lv_iconst (v := 1) hx hb dL_settle_50 (by decide) ?_
      refine lv_iand hx hb dL_settle_51 ?_
      refine lv_iconst (v := 1) hx hb dL_settle_52 (by decide) ?_
      refine lv_icmp_ne (tgt := 148) hx hb dL_settle_53 (by decide) (fun hc => ?_) (fun hc => ?_)
      · replace h := mi_neg hc h
        refine lv_iinc (v := (x4 + 1)) (lv' := [(4, .int (x4 + 1)), (6, .int u6_4), (5, .int u5_3), (0, .ref (K.2.2.2 40)), (1, .ref (K.2.2.2 41)), (2, .ref (K.2.2.2 42)), (3, .ref (K.2.2.2 45))]) hx hb dL_settle_148 hl (k := 6) rfl rfl (by decide) rfl (fun ls hl => ?_)
        refine lv_goto (tgt := 8) hx hb dL_settle_151 (by decide) ?_
        exact ih _ _ _ h kk _ _ _ (lv_sub hl [3, 4, 5, 6, 0] rfl) hH
      · replace h := mi_pos hc h
        refine lv_aload_n hx hb dL_settle_56 rfl (lv_at hl 4 rfl) ?_
        refine lv_iload hx hb dL_settle_57 (lv_at hl 1 rfl) ?_
        refine lv_iload hx hb dL_settle_59 (lv_at hl 0 rfl) ?_
        obtain ⟨r61, h61, h⟩ := mi_b1 h
        refine fm_ci (va_runS (As := [.int u5_3, .int u6_4]) (rest := [.ref (K.2.2.2 42)]) C (kL_pair l K h61 _) (va_cwS 2 hts gL_settle_L_pair rfl rfl rfl (by decide +kernel) ⟨(Nat.le_of_ble_eq_true rfl), (Nat.le_of_ble_eq_true rfl)⟩) ⟨fm_blind, fm_pre hst hA hH⟩ rfl rfl hl.1 rfl (lv_room (Nat.le_of_ble_eq_true rfl)) dL_settle_61 ⟨(Nat.le_of_ble_eq_true rfl), (Nat.le_of_ble_eq_true rfl)⟩) hA hH (fun H locs hH => ?_)
        obtain ⟨hi5, h⟩ := mi_chk h
        refine fm_ild hx hb hst.1 hH 42 (fm_inb (by decide)) rfl rfl hi5 dL_settle_64 ?_
        refine lv_if_le (tgt := 148) hx hb dL_settle_65 (by decide) (fun hc => ?_) (fun hc => ?_)
        · replace h := mi_pos hc h
          refine lv_iinc (v := (x4 + 1)) (lv' := [(4, .int (x4 + 1)), (6, .int u6_4), (5, .int u5_3), (0, .ref (K.2.2.2 40)), (1, .ref (K.2.2.2 41)), (2, .ref (K.2.2.2 42)), (3, .ref (K.2.2.2 45))]) hx hb dL_settle_148 hl (k := 6) rfl rfl (by decide) rfl (fun ls hl => ?_)
          refine lv_goto (tgt := 8) hx hb dL_settle_151 (by decide) ?_
          exact ih _ _ _ h kk _ _ _ (lv_sub hl [3, 4, 5, 6, 0] rfl) hH
        · replace h := mi_neg hc h
          refine lv_aload_n hx hb dL_settle_68 rfl (lv_at hl 2 rfl) ?_
          refine lv_iload hx hb dL_settle_69 (lv_at hl 1 rfl) ?_
          refine lv_iload hx hb dL_settle_71 (lv_at hl 0 rfl) ?_
          obtain ⟨r73, h73, h⟩ := mi_b1 h
          refine fm_ci (va_runS (As := [.ref (K.2.2.2 40), .int u5_3, .int u6_4]) (rest := []) C (kL_square l K h73 _) (va_cwS 3 hts gL_settle_L_square rfl rfl rfl (by decide +kernel) ⟨(Nat.le_of_ble_eq_true rfl), (Nat.le_of_ble_eq_true rfl)⟩) ⟨fm_blind, fm_pre hst hA hH⟩ rfl rfl hl.1 rfl (lv_room (Nat.le_of_ble_eq_true rfl)) dL_settle_73 ⟨(Nat.le_of_ble_eq_true rfl), (Nat.le_of_ble_eq_true rfl)⟩) hA hH (fun H locs hH => ?_)
          refine lv_aload_n hx hb dL_settle_76 rfl (lv_at hl 4 rfl) ?_
          refine lv_iload hx hb dL_settle_77 (lv_at hl 1 rfl) ?_
          refine lv_iload hx hb dL_settle_79 (lv_at hl 0 rfl) ?_
          obtain ⟨r81, h81, h⟩ := mi_b1 h
          refine fm_ci (va_runS (As := [.int u5_3, .int u6_4]) (rest := [.ref (K.2.2.2 42), .int r73]) C (kL_pair l K h81 _) (va_cwS 2 hts gL_settle_L_pair rfl rfl rfl (by decide +kernel) ⟨(Nat.le_of_ble_eq_true rfl), (Nat.le_of_ble_eq_true rfl)⟩) ⟨fm_blind, fm_pre hst hA hH⟩ rfl rfl hl.1 rfl (lv_room (Nat.le_of_ble_eq_true rfl)) dL_settle_81 ⟨(Nat.le_of_ble_eq_true rfl), (Nat.le_of_ble_eq_true rfl)⟩) hA hH (fun H locs hH => ?_)
          obtain ⟨hi6, h⟩ := mi_chk h
          refine fm_ild hx hb hst.1 hH 42 (fm_inb (by decide)) rfl rfl hi6 dL_settle_84 ?_
          refine lv_isub hx hb dL_settle_85 ?_
          refine lv_i2l (v := (r73 - (rI σ 42 r81)).toInt64) hx hb dL_settle_86 rfl ?_
          obtain ⟨u7_7, hu, h⟩ := mi_b1 h
          rw [Option.some.inj hu]
          clear hu
          refine lv_lstore (lv' := [(7, .long u7_7), (6, .int u6_4), (5, .int u5_3), (0, .ref (K.2.2.2 40)), (1, .ref (K.2.2.2 41)), (2, .ref (K.2.2.2 42)), (3, .ref (K.2.2.2 45)), (4, .int x4)]) hx hb dL_settle_87 hl (by decide) rfl (fun ls hl => ?_)
          refine lv_aload_n hx hb dL_settle_89 rfl (lv_at hl 6 rfl) ?_
          refine lv_iload hx hb dL_settle_90 (lv_at hl 2 rfl) ?_
          refine lv_dup2_11 hx hb dL_settle_92 rfl rfl ?_
          obtain ⟨hi8, h⟩ := mi_chk h
          refine fm_lld hx hb hst.1 hH 45 hq45 rfl rfl hi8 dL_settle_93 ?_
          refine lv_lload hx hb dL_settle_94 (lv_at hl 0 rfl) ?_
          refine lv_aload_n hx hb dL_settle_96 rfl (lv_at hl 3 rfl) ?_
          refine lv_bipush (v := 8) hx hb dL_settle_97 (by decide) ?_
          refine lv_iload hx hb dL_settle_99 (lv_at hl 2 rfl) ?_
          refine lv_imul hx hb dL_settle_101 ?_
          obtain ⟨hi9, h⟩ := mi_chk h
          refine fm_ild hx hb hst.1 hH 40 (fm_inb (by decide)) rfl rfl hi9 dL_settle_102 ?_
          refine lv_aload_n hx hb dL_settle_103 rfl (lv_at hl 3 rfl) ?_
          refine lv_bipush (v := 8) hx hb dL_settle_104 (by decide) ?_
          refine lv_iload hx hb dL_settle_106 (lv_at hl 1 rfl) ?_
          refine lv_imul hx hb dL_settle_108 ?_
          obtain ⟨hi10, h⟩ := mi_chk h
          refine fm_ild hx hb hst.1 hH 40 (fm_inb (by decide)) rfl rfl hi10 dL_settle_109 ?_
          refine lv_isub hx hb dL_settle_110 ?_
          refine lv_i2l (v := ((rI σ 40 ((8 : Int32) * u5_3)) - (rI σ 40 ((8 : Int32) * u6_4))).toInt64) hx hb dL_settle_111 rfl ?_
          refine lv_lmul hx hb dL_settle_112 ?_
          refine lv_ladd hx hb dL_settle_113 ?_
          refine fm_lst hx hb hst.1 hH 45 hq45 rfl rfl hi8 dL_settle_114 (fun H locs hH => ?_)
          obtain ⟨ρ11, hu, h⟩ := mi_b1 h
          rw [Option.some.inj hu] at hH
          clear hu
          refine lv_aload_n hx hb dL_settle_115 rfl (lv_at hl 6 rfl) ?_
          refine lv_bipush (v := 8) hx hb dL_settle_116 (by decide) ?_
          refine lv_iload hx hb dL_settle_118 (lv_at hl 2 rfl) ?_
          refine lv_iadd hx hb dL_settle_120 ?_
          refine lv_dup2_11 hx hb dL_settle_121 rfl rfl ?_
          obtain ⟨hi12, h⟩ := mi_chk h
          refine fm_lld hx hb hst.1 hH 45 hq45 rfl rfl hi12 dL_settle_122 ?_
          refine lv_lload hx hb dL_settle_123 (lv_at hl 0 rfl) ?_
          refine lv_aload_n hx hb dL_settle_125 rfl (lv_at hl 3 rfl) ?_
          refine lv_bipush (v := 8) hx hb dL_settle_126 (by decide) ?_
          refine lv_iload hx hb dL_settle_128 (lv_at hl 2 rfl) ?_
          refine lv_imul hx hb dL_settle_130 ?_
          refine lv_iconst (v := 1) hx hb dL_settle_131 (by decide) ?_
          refine lv_iadd hx hb dL_settle_132 ?_
          obtain ⟨hi13, h⟩ := mi_chk h
          refine fm_ild hx hb hst.1 hH 40 (fm_inb (by decide)) rfl rfl hi13 dL_settle_133 ?_
          refine lv_aload_n hx hb dL_settle_134 rfl (lv_at hl 3 rfl) ?_
          refine lv_bipush (v := 8) hx hb dL_settle_135 (by decide) ?_
          refine lv_iload hx hb dL_settle_137 (lv_at hl 1 rfl) ?_
          refine lv_imul hx hb dL_settle_139 ?_
          refine lv_iconst (v := 1) hx hb dL_settle_140 (by decide) ?_
          refine lv_iadd hx hb dL_settle_141 ?_
          obtain ⟨hi14, h⟩ := mi_chk h
          refine fm_ild hx hb hst.1 hH 40 (fm_inb (by decide)) rfl rfl hi14 dL_settle_142 ?_
          refine lv_isub hx hb dL_settle_143 ?_
          refine lv_i2l (v := ((rI ρ11 40 (((8 : Int32) * u5_3) + (1 : Int32))) - (rI ρ11 40 (((8 : Int32) * u6_4) + (1 : Int32)))).toInt64) hx hb dL_settle_144 rfl ?_
          refine lv_lmul hx hb dL_settle_145 ?_
          refine lv_ladd hx hb dL_settle_146 ?_
          refine fm_lst hx hb hst.1 hH 45 hq45 rfl rfl hi12 dL_settle_147 (fun H locs hH => ?_)
          obtain ⟨ρ15, hu, h⟩ := mi_b1 h
          rw [Option.some.inj hu] at hH
          clear hu
          refine lv_iinc (v := (x4 + 1)) (lv' := [(4, .int (x4 + 1)), (7, .long u7_7), (6, .int u6_4), (5, .int u5_3), (0, .ref (K.2.2.2 40)), (1, .ref (K.2.2.2 41)), (2, .ref (K.2.2.2 42)), (3, .ref (K.2.2.2 45))]) hx hb dL_settle_148 hl (k := 7) rfl rfl (by decide) rfl (fun ls hl => ?_)
          refine lv_goto (tgt := 8) hx hb dL_settle_151 (by decide) ?_
          exact ih _ _ _ h kk _ _ _ (lv_sub hl [4, 5, 6, 7, 0] rfl) hH
def mL_settle_L157 : Nat → Int32 → fm_S → Option (fm_S)
  | 0, _, _ => none
  | n + 1, x4, σ =>
    if ((40 : Int32) < 0 ∨ 48 ≤ (40 : Int32).toNatClampNeg) then none else
    if (rI σ 40 (40 : Int32)) ≤ x4 then
      some σ
    else
      if (x4 < 0 ∨ 16 ≤ x4.toNatClampNeg) then none else
      if (((8 : Int32) * x4) < 0 ∨ 48 ≤ ((8 : Int32) * x4).toNatClampNeg) then none else
      mb1 (mL_moved (rL σ 45 x4) (rI σ 40 ((8 : Int32) * x4))) fun r183 =>
      mb1 (some (sI σ 40 ((8 : Int32) * x4) r183)) fun ρ19 =>
      if (((8 : Int32) + x4) < 0 ∨ 16 ≤ ((8 : Int32) + x4).toNatClampNeg) then none else
      if ((((8 : Int32) * x4) + (1 : Int32)) < 0 ∨ 48 ≤ (((8 : Int32) * x4) + (1 : Int32)).toNatClampNeg) then none else
      mb1 (mL_moved (rL ρ19 45 ((8 : Int32) + x4)) (rI ρ19 40 (((8 : Int32) * x4) + (1 : Int32)))) fun r211 =>
      mb1 (some (sI ρ19 40 (((8 : Int32) * x4) + (1 : Int32)) r211)) fun ρ22 =>
      mL_settle_L157 n (x4 + 1) ρ22
set_option maxHeartbeats 4000000 in
set_option maxRecDepth 100000 in
theorem wL_settle_L157 {p : Program} {l : Launch} {e : Env} {s : State} {m : MethodId} {args : Array Value} {below : List Frame} {meth : Method} {c : Code} {Q : State → Prop} {K : fm_K} {A : Nat → Prop} (C : CallFix p m c cL_settle 9 s args wsL_settle RL) (hst : fm_st K A s s.heap) (hA : ∀ q, fm_A K s.heap.size q → A q) (hq45 : fm_in K 45) :
    ∀ (n : Nat) (x4 : Int32) (σ : fm_S) (σo : fm_S), mL_settle_L157 n x4 σ = some σo → (∀ (ls : Array Slot) (H : Heap) (locs : List Loc), lv_has ls 9 [] → fm_H K σo A s H locs → W p l e rmL_settle s m args below meth c H locs 1 16 Q (F0 m 221 ls [])) → ∀ (ls : Array Slot) (H : Heap) (locs : List Loc), lv_has ls 9 [(0, .ref (K.2.2.2 40)), (3, .ref (K.2.2.2 45)), (4, .int x4)] → fm_H K σ A s H locs → W p l e rmL_settle s m args below meth c H locs 1 16 Q (F0 m 157 ls []) := by
  obtain ⟨hx, hb, hml, hown, hts⟩ := id C
  intro n
  induction n with
  | zero => intro x4 σ σo h; simp [mL_settle_L157] at h
  | succ n ih =>
    intro x4 σ σo h kk ls H locs hl hH
    rw [mL_settle_L157] at h
    refine lv_iload hx hb dL_settle_157 (lv_at hl 2 rfl) ?_
    refine lv_aload_n hx hb dL_settle_159 rfl (lv_at hl 0 rfl) ?_
    refine lv_bipush (v := 40) hx hb dL_settle_160 (by decide) ?_
    obtain ⟨hi16, h⟩ := mi_chk h
    refine fm_ild hx hb hst.1 hH 40 (fm_inb (by decide)) rfl rfl hi16 dL_settle_162 ?_
    refine lv_icmp_ge (tgt := 221) hx hb dL_settle_163 (by decide) (fun hc => ?_) (fun hc => ?_)
    · replace h := mi_pos hc h
      cases h
      exact kk _ _ _ (lv_sub hl [] rfl) hH
    · replace h := mi_neg hc h
      refine lv_aload_n hx hb dL_settle_166 rfl (lv_at hl 0 rfl) ?_
      refine lv_bipush (v := 8) hx hb dL_settle_167 (by decide) ?_
      refine lv_iload hx hb dL_settle_169 (lv_at hl 2 rfl) ?_
      refine lv_imul hx hb dL_settle_171 ?_
      refine lv_aload_n hx hb dL_settle_172 rfl (lv_at hl 1 rfl) ?_
      refine lv_iload hx hb dL_settle_173 (lv_at hl 2 rfl) ?_
      obtain ⟨hi17, h⟩ := mi_chk h
      refine fm_lld hx hb hst.1 hH 45 hq45 rfl rfl hi17 dL_settle_175 ?_
      refine lv_aload_n hx hb dL_settle_176 rfl (lv_at hl 0 rfl) ?_
      refine lv_bipush (v := 8) hx hb dL_settle_177 (by decide) ?_
      refine lv_iload hx hb dL_settle_179 (lv_at hl 2 rfl) ?_
      refine lv_imul hx hb dL_settle_181 ?_
      obtain ⟨hi18, h⟩ := mi_chk h
      refine fm_ild hx hb hst.1 hH 40 (fm_inb (by decide)) rfl rfl hi18 dL_settle_182 ?_
      obtain ⟨r183, h183, h⟩ := mi_b1 h
      refine fm_ci (va_runS (As := [.long (rL σ 45 x4), .int (rI σ 40 ((8 : Int32) * x4))]) (rest := [.int ((8 : Int32) * x4), .ref (K.2.2.2 40)]) C (kL_moved l K h183 _) (va_cwS 2 hts gL_settle_L_moved rfl rfl rfl (by decide +kernel) ⟨(Nat.le_of_ble_eq_true rfl), (Nat.le_of_ble_eq_true rfl)⟩) ⟨fm_blind, fm_pre hst hA hH⟩ rfl rfl hl.1 rfl (lv_room (Nat.le_of_ble_eq_true rfl)) dL_settle_183 ⟨(Nat.le_of_ble_eq_true rfl), (Nat.le_of_ble_eq_true rfl)⟩) hA hH (fun H locs hH => ?_)
      refine fm_ist hx hb hst.1 hH 40 (fm_inb (by decide)) rfl rfl hi18 dL_settle_186 (fun H locs hH => ?_)
      obtain ⟨ρ19, hu, h⟩ := mi_b1 h
      rw [Option.some.inj hu] at hH
      clear hu
      refine lv_aload_n hx hb dL_settle_187 rfl (lv_at hl 0 rfl) ?_
      refine lv_bipush (v := 8) hx hb dL_settle_188 (by decide) ?_
      refine lv_iload hx hb dL_settle_190 (lv_at hl 2 rfl) ?_
      refine lv_imul hx hb dL_settle_192 ?_
      refine lv_iconst (v := 1) hx hb dL_settle_193 (by decide) ?_
      refine lv_iadd hx hb dL_settle_194 ?_
      refine lv_aload_n hx hb dL_settle_195 rfl (lv_at hl 1 rfl) ?_
      refine lv_bipush (v := 8) hx hb dL_settle_196 (by decide) ?_
      refine lv_iload hx hb dL_settle_198 (lv_at hl 2 rfl) ?_
      refine lv_iadd hx hb dL_settle_200 ?_
      obtain ⟨hi20, h⟩ := mi_chk h
      refine fm_lld hx hb hst.1 hH 45 hq45 rfl rfl hi20 dL_settle_201 ?_
      refine lv_aload_n hx hb dL_settle_202 rfl (lv_at hl 0 rfl) ?_
      refine lv_bipush (v := 8) hx hb dL_settle_203 (by decide) ?_
      refine lv_iload hx hb dL_settle_205 (lv_at hl 2 rfl) ?_
      refine lv_imul hx hb dL_settle_207 ?_
      refine lv_iconst (v := 1) hx hb dL_settle_208 (by decide) ?_
      refine lv_iadd hx hb dL_settle_209 ?_
      obtain ⟨hi21, h⟩ := mi_chk h
      refine fm_ild hx hb hst.1 hH 40 (fm_inb (by decide)) rfl rfl hi21 dL_settle_210 ?_
      obtain ⟨r211, h211, h⟩ := mi_b1 h
      refine fm_ci (va_runS (As := [.long (rL ρ19 45 ((8 : Int32) + x4)), .int (rI ρ19 40 (((8 : Int32) * x4) + (1 : Int32)))]) (rest := [.int (((8 : Int32) * x4) + (1 : Int32)), .ref (K.2.2.2 40)]) C (kL_moved l K h211 _) (va_cwS 2 hts gL_settle_L_moved rfl rfl rfl (by decide +kernel) ⟨(Nat.le_of_ble_eq_true rfl), (Nat.le_of_ble_eq_true rfl)⟩) ⟨fm_blind, fm_pre hst hA hH⟩ rfl rfl hl.1 rfl (lv_room (Nat.le_of_ble_eq_true rfl)) dL_settle_211 ⟨(Nat.le_of_ble_eq_true rfl), (Nat.le_of_ble_eq_true rfl)⟩) hA hH (fun H locs hH => ?_)
      refine fm_ist hx hb hst.1 hH 40 (fm_inb (by decide)) rfl rfl hi21 dL_settle_214 (fun H locs hH => ?_)
      obtain ⟨ρ22, hu, h⟩ := mi_b1 h
      rw [Option.some.inj hu] at hH
      clear hu
      refine lv_iinc (v := (x4 + 1)) (lv' := [(4, .int (x4 + 1)), (0, .ref (K.2.2.2 40)), (3, .ref (K.2.2.2 45))]) hx hb dL_settle_215 hl (k := 2) rfl rfl (by decide) rfl (fun ls hl => ?_)
      refine lv_goto (tgt := 157) hx hb dL_settle_218 (by decide) ?_
      exact ih _ _ _ h kk _ _ _ (lv_sub hl [1, 2, 0] rfl) hH
def mL_settle (σ : fm_S) : Option fm_S :=
  mb1 (mL_settle_L8 fG (0 : Int32) (fm_zl σ 45)) fun σ8 =>
  mb1 (mL_settle_L157 fG (0 : Int32) σ8) fun σ157 =>
  some σ157
set_option maxHeartbeats 4000000 in
set_option maxRecDepth 100000 in
theorem kL_settle (l : Launch) (K : fm_K) (hn : fm_n K = 0) {σ : fm_S} {σ' : fm_S} (h : mL_settle σ = some σ') : fm_WV l yL_settle wsL_settle rmL_settle K [.ref (K.2.2.2 40), .ref (K.2.2.2 41), .ref (K.2.2.2 42)] σ σ' 1 16 := by
  intro sz
  refine fm_start (Qc := fun sz => fm_QV K σ' sz) (cc := cL_settle) (maxL := 9) (ret := none) (by decide) rfl (Nat.le_of_ble_eq_true rfl) ?_
  intro p e s m args below meth c C hr hlk hst hH ls hl
  have C : CallFix p m c cL_settle 9 s args wsL_settle RL := C
  obtain ⟨hx, hb, hml, hown, hts⟩ := id C
  have hA : ∀ q, fm_A K s.heap.size q → fm_A K s.heap.size q := fun _ h => h
  have hl : lv_has ls 9 [(0, .ref (K.2.2.2 40)), (1, .ref (K.2.2.2 41)), (2, .ref (K.2.2.2 42))] := hl
  generalize hQ : MQ below _ args s _ _ _ = Q
  have kend : ∀ (H : Heap) (locs : List Loc) (ls : Array Slot) (pc : Nat), decode cL_settle pc = .ok (.return_, 1) → fm_H K σ' (fm_A K s.heap.size) s H locs → W p l e rmL_settle s m args below meth c H locs 1 16 Q (F0 m pc ls []) := by
    intro H locs ls pc hd hH
    subst hQ
    exact fm_vretW hx hb hr hlk hst hH (Nat.le_refl _) (Nat.le_refl _) hd
  obtain ⟨A, hAd⟩ : ∃ A, A = fm_A K s.heap.size := ⟨_, rfl⟩
  rw [← hAd] at hst hH hA kend
  have hA : ∀ q, fm_A K s.heap.size q → A q := by rw [hAd]; exact fun _ h => h
  rw [mL_settle] at h
  refine lv_bipush (v := 16) hx hb dL_settle_0 (by decide) ?_
  refine fm_newL (q := 45) (n1 := 3) hn (by decide) rfl (by decide) (by decide +kernel) hx hb (hts (.arrayClass .long) (List.mem_of_getElem? (i := 1) rfl)) hst hA hH (Nat.le_of_ble_eq_true rfl) (Nat.le_of_ble_eq_true rfl) dL_settle_2 (fun K H hn hne hH hst hA hdr => ?_)
  have hl : lv_has ls 9 [(0, .ref (K.2.2.2 40)), (1, .ref (K.2.2.2 41)), (2, .ref (K.2.2.2 42))] := by rw [hne 40 (by decide), hne 41 (by decide), hne 42 (by decide)]; exact hl
  have kend : ∀ (H : Heap) (locs : List Loc) (ls : Array Slot) (pc : Nat), decode cL_settle pc = .ok (.return_, 1) → fm_H K σ' A s H locs → W p l e rmL_settle s m args below meth c H locs 1 16 Q (F0 m pc ls []) := fun H locs ls pc hd hH => kend H locs ls pc hd (hdr _ _ _ hH)
  have hq45 : fm_in K 45 := fm_in45 hn
  refine lv_astore_n (lv' := [(3, .ref (K.2.2.2 45)), (0, .ref (K.2.2.2 40)), (1, .ref (K.2.2.2 41)), (2, .ref (K.2.2.2 42))]) hx hb dL_settle_4 rfl hl (by decide) rfl (fun ls hl => ?_)
  refine lv_iconst (v := 0) hx hb dL_settle_5 (by decide) ?_
  refine lv_istore (lv' := [(4, .int (0 : Int32)), (3, .ref (K.2.2.2 45)), (0, .ref (K.2.2.2 40)), (1, .ref (K.2.2.2 41)), (2, .ref (K.2.2.2 42))]) hx hb dL_settle_6 hl (by decide) rfl (fun ls hl => ?_)
  obtain ⟨σ8, h8, h⟩ := mi_b1 h
  refine wL_settle_L8 C hst hA hq45 _ _ _ _ h8 (fun ls H locs hl hH => ?_) _ _ _ (lv_sub hl [2, 3, 4, 1, 0] rfl) hH
  refine lv_iconst (v := 0) hx hb dL_settle_154 (by decide) ?_
  refine lv_istore (lv' := [(4, .int (0 : Int32)), (0, .ref (K.2.2.2 40)), (3, .ref (K.2.2.2 45))]) hx hb dL_settle_155 hl (by decide) rfl (fun ls hl => ?_)
  obtain ⟨σ157, h157, h⟩ := mi_b1 h
  refine wL_settle_L157 C hst hA hq45 _ _ _ _ h157 (fun ls H locs hl hH => ?_) _ _ _ (lv_sub hl [1, 2, 0] rfl) hH
  cases h
  exact kend _ _ _ _ dL_settle_221 hH
