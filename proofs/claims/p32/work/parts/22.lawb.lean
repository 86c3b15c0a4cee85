/-! RL.isLinked(LFormationist;[I[I)Z -/
abbrev rmL_isLinked : Room := { frames := 5, cells := 0, slots := 0, locals := 111 }
def mL_isLinked_L127 : Nat → Int32 → Int32 → Int32 → Int32 → Int32 → Int32 → fm_S → Option (Int32 × Int32 × fm_S)
  | 0, _, _, _, _, _, _, _ => none
  | n + 1, x5, x6, x7, x8, x9, x10, σ =>
    if ((40 : Int32) < 0 ∨ 48 ≤ (40 : Int32).toNatClampNeg) then none else
    if (rI σ 40 (40 : Int32)) ≤ x10 then
      some (x5, x8, σ)
    else
      mb1 (show Option (Int32) from
        if ((x9 >>> (x10 &&& 31)) &&& (1 : Int32)) = (1 : Int32) then
          if x8 < 0 then
            some x10
          else
            if ((((8 : Int32) * x10) + (3 : Int32)) < 0 ∨ 48 ≤ (((8 : Int32) * x10) + (3 : Int32)).toNatClampNeg) then none else
            if ((((8 : Int32) * x8) + (3 : Int32)) < 0 ∨ 48 ≤ (((8 : Int32) * x8) + (3 : Int32)).toNatClampNeg) then none else
            if (rI σ 40 (((8 : Int32) * x10) + (3 : Int32))) ≤ (rI σ 40 (((8 : Int32) * x8) + (3 : Int32))) then
              some x8
            else
              some x10
        else
          some x8) fun v14_0 =>
      if x5 = 0 then
        mL_isLinked_L127 n (0 : Int32) x6 x7 v14_0 x9 (x10 + 1) σ
      else
        mb2 (mX4_areLinked x6 x10 σ) fun r192 σ192 =>
        mb1 (show Option (Int32) from
          if ((x7 >>> (x10 &&& 31)) &&& (1 : Int32)) = (1 : Int32) then
            some ((1 : Int32))
          else
            some ((0 : Int32))) fun v17_0 =>
        if r192 = v17_0 then
          mL_isLinked_L127 n (1 : Int32) x6 x7 v14_0 x9 (x10 + 1) σ192
        else
          mL_isLinked_L127 n (0 : Int32) x6 x7 v14_0 x9 (x10 + 1) σ192
set_option maxHeartbeats 4000000 in
set_option maxRecDepth 100000 in
theorem wL_isLinked_L127 {p : Program} {l : Launch} {e : Env} {s : State} {m : MethodId} {args : Array Value} {below : List Frame} {meth : Method} {c : Code} {Q : State → Prop} {K : fm_K} {A : Nat → Prop} (C : CallFix p m c cL_isLinked 11 s args wsL_isLinked RL) (hst : fm_st K A s s.heap) (hA : ∀ q, fm_A K s.heap.size q → A q) :
    ∀ (n : Nat) (x5 : Int32) (x6 : Int32) (x7 : Int32) (x8 : Int32) (x9 : Int32) (x10 : Int32) (σ : fm_S) (o5 : Int32) (o8 : Int32) (σo : fm_S), mL_isLinked_L127 n x5 x6 x7 x8 x9 x10 σ = some (o5, o8, σo) → ∀ (x3 : Int32)  (x4 : Int32), (∀ (ls : Array Slot) (H : Heap) (locs : List Loc), lv_has ls 11 [(0, .ref (K.2.2.2 0)), (1, .ref (K.2.2.2 40)), (2, .ref (K.2.2.2 41)), (3, .int x3), (4, .int x4), (5, .int o5), (6, .int x6), (7, .int x7), (8, .int o8)] → fm_H K σo A s H locs → W p l e rmL_isLinked s m args below meth c H locs 0 0 Q (F0 m 227 ls [])) → ∀ (ls : Array Slot) (H : Heap) (locs : List Loc), lv_has ls 11 [(0, .ref (K.2.2.2 0)), (1, .ref (K.2.2.2 40)), (2, .ref (K.2.2.2 41)), (3, .int x3), (4, .int x4), (5, .int x5), (6, .int x6), (7, .int x7), (8, .int x8), (9, .int x9), (10, .int x10)] → fm_H K σ A s H locs → W p l e rmL_isLinked s m args below meth c H locs 0 0 Q (F0 m 127 ls []) := by
  obtain ⟨hx, hb, hml, hown, hts⟩ := id C
  intro n
  induction n with
  | zero => intro x5 x6 x7 x8 x9 x10 σ o5 o8 σo h; simp [mL_isLinked_L127] at h
  | succ n ih =>
    intro x5 x6 x7 x8 x9 x10 σ o5 o8 σo h x3 x4 kk ls H locs hl hH
    rw [mL_isLinked_L127] at h
    refine lv_iload hx hb dL_isLinked_127 (lv_at hl 10 rfl) ?_
    refine lv_aload_n hx hb dL_isLinked_129 rfl (lv_at hl 1 rfl) ?_
    refine lv_bipush (v := 40) hx hb dL_isLinked_130 (by decide) ?_
    obtain ⟨hi11, h⟩ := mi_chk h
    refine fm_ild hx hb hst.1 hH 40 (fm_inb (by decide)) rfl rfl hi11 dL_isLinked_132 ?_
    refine lv_icmp_ge (tgt := 227) hx hb dL_isLinked_133 (by decide) (fun hc => ?_) (fun hc => ?_)
    · replace h := mi_pos hc h
      cases h
      exact kk _ _ _ (lv_sub hl [0, 1, 2, 3, 4, 5, 6, 7, 8] rfl) hH
    · replace h := mi_neg hc h
      refine lv_iload hx hb dL_isLinked_136 (lv_at hl 9 rfl) ?_
      refine lv_iload hx hb dL_isLinked_138 (lv_at hl 10 rfl) ?_
      refine lv_ishr hx hb dL_isLinked_140 ?_
      refine lv_iconst (v := 1) hx hb dL_isLinked_141 (by decide) ?_
      refine lv_iand hx hb dL_isLinked_142 ?_
      refine lv_iconst (v := 1) hx hb dL_isLinked_143 (by decide) ?_
      obtain ⟨v14_0, hd, h2⟩ := mi_b1 h
      have kj : ∀ (ls : Array Slot) (H : Heap) (locs : List Loc), lv_has ls 11 [(0, .ref (K.2.2.2 0)), (1, .ref (K.2.2.2 40)), (2, .ref (K.2.2.2 41)), (3, .int x3), (4, .int x4), (5, .int x5), (6, .int x6), (7, .int x7), (9, .int x9), (10, .int x10)] → fm_H K σ A s H locs → W p l e rmL_isLinked s m args below meth c H locs 0 0 Q (F0 m 180 ls [.int v14_0]) := by
        clear h hd
        intro ls H locs hl hH
        have h := h2
        clear h2
        refine lv_istore (lv' := [(8, .int v14_0), (0, .ref (K.2.2.2 0)), (1, .ref (K.2.2.2 40)), (2, .ref (K.2.2.2 41)), (3, .int x3), (4, .int x4), (5, .int x5), (6, .int x6), (7, .int x7), (9, .int x9), (10, .int x10)]) hx hb dL_isLinked_180 hl (by decide) rfl (fun ls hl => ?_)
        refine lv_iload hx hb dL_isLinked_182 (lv_at hl 6 rfl) ?_
        refine lv_if_eq (tgt := 218) hx hb dL_isLinked_184 (by decide) (fun hc => ?_) (fun hc => ?_)
        · replace h := mi_pos hc h
          refine lv_iconst (v := 0) hx hb dL_isLinked_218 (by decide) ?_
          refine lv_istore (lv' := [(5, .int (0 : Int32)), (8, .int v14_0), (0, .ref (K.2.2.2 0)), (1, .ref (K.2.2.2 40)), (2, .ref (K.2.2.2 41)), (3, .int x3), (4, .int x4), (6, .int x6), (7, .int x7), (9, .int x9), (10, .int x10)]) hx hb dL_isLinked_219 hl (by decide) rfl (fun ls hl => ?_)
          refine lv_iinc (v := (x10 + 1)) (lv' := [(10, .int (x10 + 1)), (5, .int (0 : Int32)), (8, .int v14_0), (0, .ref (K.2.2.2 0)), (1, .ref (K.2.2.2 40)), (2, .ref (K.2.2.2 41)), (3, .int x3), (4, .int x4), (6, .int x6), (7, .int x7), (9, .int x9)]) hx hb dL_isLinked_221 hl (k := 10) rfl rfl (by decide) rfl (fun ls hl => ?_)
          refine lv_goto (tgt := 127) hx hb dL_isLinked_224 (by decide) ?_
          exact ih _ _ _ _ _ _ _ _ _ _ h _ _ kk _ _ _ (lv_sub hl [3, 4, 5, 6, 7, 1, 8, 9, 2, 10, 0] rfl) hH
        · replace h := mi_neg hc h
          refine lv_aload_n hx hb dL_isLinked_187 rfl (lv_at hl 1 rfl) ?_
          refine lv_iload hx hb dL_isLinked_188 (lv_at hl 7 rfl) ?_
          refine lv_iload hx hb dL_isLinked_190 (lv_at hl 10 rfl) ?_
          obtain ⟨r192, σ192, h192, h⟩ := mi_b2 h
          refine fm_ci (va_runV (As := [.int x6, .int x10]) (rest := []) C (kX4_areLinked l K h192 _) (cwV 2 hts gL_isLinked_X4_areLinked rfl rfl rfl (by decide +kernel) ⟨(Nat.le_of_ble_eq_true rfl), (Nat.le_of_ble_eq_true rfl)⟩) ⟨fm_blind, fm_recv hst hH (q := 0) (fm_inb (by decide)) rfl (fm_ob_0 _ _) rfl, fm_pre hst hA hH⟩ rfl rfl hl.1 rfl (lv_room (Nat.le_of_ble_eq_true rfl)) dL_isLinked_192 ⟨(Nat.le_of_ble_eq_true rfl), (Nat.le_of_ble_eq_true rfl)⟩) hA hH (fun H locs hH => ?_)
          refine lv_iload hx hb dL_isLinked_195 (lv_at hl 8 rfl) ?_
          refine lv_iload hx hb dL_isLinked_197 (lv_at hl 10 rfl) ?_
          refine lv_ishr hx hb dL_isLinked_199 ?_
          refine lv_iconst (v := 1) hx hb dL_isLinked_200 (by decide) ?_
          refine lv_iand hx hb dL_isLinked_201 ?_
          refine lv_iconst (v := 1) hx hb dL_isLinked_202 (by decide) ?_
          obtain ⟨v17_0, hd, h2⟩ := mi_b1 h
          have kj : ∀ (ls : Array Slot) (H : Heap) (locs : List Loc), lv_has ls 11 [(0, .ref (K.2.2.2 0)), (1, .ref (K.2.2.2 40)), (2, .ref (K.2.2.2 41)), (3, .int x3), (4, .int x4), (6, .int x6), (7, .int x7), (8, .int v14_0), (9, .int x9), (10, .int x10)] → fm_H K σ192 A s H locs → W p l e rmL_isLinked s m args below meth c H locs 0 0 Q (F0 m 211 ls [.int v17_0, .int r192]) := by
            clear h hd
            intro ls H locs hl hH
            have h := h2
            clear h2
            refine lv_icmp_ne (tgt := 218) hx hb dL_isLinked_211 (by decide) (fun hc => ?_) (fun hc => ?_)
            · replace h := mi_neg hc h
              refine lv_iconst (v := 0) hx hb dL_isLinked_218 (by decide) ?_
              refine lv_istore (lv' := [(5, .int (0 : Int32)), (0, .ref (K.2.2.2 0)), (1, .ref (K.2.2.2 40)), (2, .ref (K.2.2.2 41)), (3, .int x3), (4, .int x4), (6, .int x6), (7, .int x7), (8, .int v14_0), (9, .int x9), (10, .int x10)]) hx hb dL_isLinked_219 hl (by decide) rfl (fun ls hl => ?_)
              refine lv_iinc (v := (x10 + 1)) (lv' := [(10, .int (x10 + 1)), (5, .int (0 : Int32)), (0, .ref (K.2.2.2 0)), (1, .ref (K.2.2.2 40)), (2, .ref (K.2.2.2 41)), (3, .int x3), (4, .int x4), (6, .int x6), (7, .int x7), (8, .int v14_0), (9, .int x9)]) hx hb dL_isLinked_221 hl (k := 10) rfl rfl (by decide) rfl (fun ls hl => ?_)
              refine lv_goto (tgt := 127) hx hb dL_isLinked_224 (by decide) ?_
              exact ih _ _ _ _ _ _ _ _ _ _ h _ _ kk _ _ _ (lv_sub hl [2, 3, 4, 5, 6, 1, 7, 8, 9, 10, 0] rfl) hH
            · replace h := mi_pos hc h
              refine lv_iconst (v := 1) hx hb dL_isLinked_214 (by decide) ?_
              refine lv_goto (tgt := 219) hx hb dL_isLinked_215 (by decide) ?_
              refine lv_istore (lv' := [(5, .int (1 : Int32)), (0, .ref (K.2.2.2 0)), (1, .ref (K.2.2.2 40)), (2, .ref (K.2.2.2 41)), (3, .int x3), (4, .int x4), (6, .int x6), (7, .int x7), (8, .int v14_0), (9, .int x9), (10, .int x10)]) hx hb dL_isLinked_219 hl (by decide) rfl (fun ls hl => ?_)
              refine lv_iinc (v := (x10 + 1)) (lv' := [(10, .int (x10 + 1)), (5, .int (1 : Int32)), (0, .ref (K.2.2.2 0)), (1, .ref (K.2.2.2 40)), (2, .ref (K.2.2.2 41)), (3, .int x3), (4, .int x4), (6, .int x6), (7, .int x7), (8, .int v14_0), (9, .int x9)]) hx hb dL_isLinked_221 hl (k := 10) rfl rfl (by decide) rfl (fun ls hl => ?_)
              refine lv_goto (tgt := 127) hx hb dL_isLinked_224 (by decide) ?_
              exact ih _ _ _ _ _ _ _ _ _ _ h _ _ kk _ _ _ (lv_sub hl [2, 3, 4, 5, 6, 1, 7, 8, 9, 10, 0] rfl) hH
          replace h := hd
          clear h2 hd
          refine lv_icmp_ne (tgt := 210) hx hb dL_isLinked_203 (by decide) (fun hc => ?_) (fun hc => ?_)
          · replace h := mi_neg hc h
            refine lv_iconst (v := 0) hx hb dL_isLinked_210 (by decide) ?_
            cases h
            exact kj _ _ _ (lv_sub hl [1, 2, 3, 4, 5, 7, 8, 0, 9, 10] rfl) hH
          · replace h := mi_pos hc h
            refine lv_iconst (v := 1) hx hb dL_isLinked_206 (by decide) ?_
            refine lv_goto (tgt := 211) hx hb dL_isLinked_207 (by decide) ?_
            cases h
            exact kj _ _ _ (lv_sub hl [1, 2, 3, 4, 5, 7, 8, 0, 9, 10] rfl) hH
      replace h := hd
      clear h2 hd
      refine lv_icmp_ne (tgt := 178) hx hb dL_isLinked_144 (by decide) (fun hc => ?_) (fun hc => ?_)
      · replace h := mi_neg hc h
        refine lv_iload hx hb dL_isLinked_178 (lv_at hl 8 rfl) ?_
        cases h
        exact kj _ _ _ (lv_sub hl [0, 1, 2, 3, 4, 5, 6, 7, 9, 10] rfl) hH
      · replace h := mi_pos hc h
        refine lv_iload hx hb dL_isLinked_147 (lv_at hl 8 rfl) ?_
        refine lv_if_lt (tgt := 173) hx hb dL_isLinked_149 (by decide) (fun hc => ?_) (fun hc => ?_)
        · replace h := mi_pos hc h
          refine lv_iload hx hb dL_isLinked_173 (lv_at hl 10 rfl) ?_
          refine lv_goto (tgt := 180) hx hb dL_isLinked_175 (by decide) ?_
          cases h
          exact kj _ _ _ (lv_sub hl [0, 1, 2, 3, 4, 5, 6, 7, 9, 10] rfl) hH
        · replace h := mi_neg hc h
          refine lv_aload_n hx hb dL_isLinked_152 rfl (lv_at hl 1 rfl) ?_
          refine lv_bipush (v := 8) hx hb dL_isLinked_153 (by decide) ?_
          refine lv_iload hx hb dL_isLinked_155 (lv_at hl 10 rfl) ?_
          refine lv_imul hx hb dL_isLinked_157 ?_
          refine lv_iconst (v := 3) hx hb dL_isLinked_158 (by decide) ?_
          refine lv_iadd hx hb dL_isLinked_159 ?_
          obtain ⟨hi15, h⟩ := mi_chk h
          refine fm_ild hx hb hst.1 hH 40 (fm_inb (by decide)) rfl rfl hi15 dL_isLinked_160 ?_
          refine lv_aload_n hx hb dL_isLinked_161 rfl (lv_at hl 1 rfl) ?_
          refine lv_bipush (v := 8) hx hb dL_isLinked_162 (by decide) ?_
          refine lv_iload hx hb dL_isLinked_164 (lv_at hl 8 rfl) ?_
          refine lv_imul hx hb dL_isLinked_166 ?_
          refine lv_iconst (v := 3) hx hb dL_isLinked_167 (by decide) ?_
          refine lv_iadd hx hb dL_isLinked_168 ?_
          obtain ⟨hi16, h⟩ := mi_chk h
          refine fm_ild hx hb hst.1 hH 40 (fm_inb (by decide)) rfl rfl hi16 dL_isLinked_169 ?_
          refine lv_icmp_le (tgt := 178) hx hb dL_isLinked_170 (by decide) (fun hc => ?_) (fun hc => ?_)
          · replace h := mi_pos hc h
            refine lv_iload hx hb dL_isLinked_178 (lv_at hl 8 rfl) ?_
            cases h
            exact kj _ _ _ (lv_sub hl [0, 1, 2, 3, 4, 5, 6, 7, 9, 10] rfl) hH
          · replace h := mi_neg hc h
            refine lv_iload hx hb dL_isLinked_173 (lv_at hl 10 rfl) ?_
            refine lv_goto (tgt := 180) hx hb dL_isLinked_175 (by decide) ?_
            cases h
            exact kj _ _ _ (lv_sub hl [0, 1, 2, 3, 4, 5, 6, 7, 9, 10] rfl) hH
def mL_isLinked_L41 : Nat → Int32 → Int32 → Int32 → Int32 → fm_S → Option (Int32 × Int32 × fm_S)
  | 0, _, _, _, _, _ => none
  | n + 1, x3, x4, x5, x6, σ =>
    if ((40 : Int32) < 0 ∨ 48 ≤ (40 : Int32).toNatClampNeg) then none else
    if (rI σ 40 (40 : Int32)) ≤ x6 then
      some (x4, x5, σ)
    else
      if x5 = 0 then
        some (x4, x5, σ)
      else
        mb1 (mL_heard x6 σ) fun r59 =>
        if ((((8 : Int32) * x6) + (2 : Int32)) < 0 ∨ 48 ≤ (((8 : Int32) * x6) + (2 : Int32)).toNatClampNeg) then none else
        mb1 (show Option (Int32) from
          if (rI σ 40 (((8 : Int32) * x6) + (2 : Int32))) = (1 : Int32) then
            some ((0 : Int32))
          else
            mb1 (mL_group x3 x6) fun r87 =>
            some r87) fun v6_0 =>
        mb1 (show Option (Int32) from
          if (rI σ 40 (((8 : Int32) * x6) + (2 : Int32))) = 0 then
            if ((1 : Int32) <<< (x6 &&& 31)) = 0 then none else
            if (v6_0 - v6_0 / ((1 : Int32) <<< (x6 &&& 31)) * ((1 : Int32) <<< (x6 &&& 31))) = 0 then
              some ((1 : Int32))
            else
              some ((0 : Int32))
          else
            some ((0 : Int32))) fun v8_0 =>
        mb1 (some (x4 + v8_0)) fun u4_10 =>
        mb3 (mL_isLinked_L127 fG x5 x6 r59 (-1 : Int32) v6_0 (0 : Int32) σ) fun y127_5 y127_8 σ127 =>
        if y127_5 = 0 then
          mL_isLinked_L41 n x3 u4_10 (0 : Int32) (x6 + 1) σ127
        else
          mb2 (mX4_degree x6 σ127) fun r235 σ235 =>
          mb1 (mL_ones r59) fun r240 =>
          if r235 = r240 then
            mb2 (mX4_leader x6 σ235) fun r249 σ249 =>
            if r249 = y127_8 then
              mb2 (mX4_xOf x6 σ249) fun r260 σ260 =>
              if (((8 : Int32) * x6) < 0 ∨ 48 ≤ ((8 : Int32) * x6).toNatClampNeg) then none else
              if r260 = (rI σ260 40 ((8 : Int32) * x6)) then
                mb2 (mX4_yOf x6 σ260) fun r276 σ276 =>
                if ((((8 : Int32) * x6) + (1 : Int32)) < 0 ∨ 48 ≤ (((8 : Int32) * x6) + (1 : Int32)).toNatClampNeg) then none else
                if r276 = (rI σ276 40 (((8 : Int32) * x6) + (1 : Int32))) then
                  mb2 (mX4_estimate x6 σ276) fun r294 σ294 =>
                  if ((((8 : Int32) * x6) + (4 : Int32)) < 0 ∨ 48 ≤ (((8 : Int32) * x6) + (4 : Int32)).toNatClampNeg) then none else
                  if r294 = (rI σ294 40 (((8 : Int32) * x6) + (4 : Int32))) then
                    mb2 (mX4_sum x6 σ294) fun r312 σ312 =>
                    if ((((8 : Int32) * x6) + (5 : Int32)) < 0 ∨ 48 ≤ (((8 : Int32) * x6) + (5 : Int32)).toNatClampNeg) then none else
                    if r312 = (rI σ312 40 (((8 : Int32) * x6) + (5 : Int32))) then
                      mb2 (mX4_weight x6 σ312) fun r330 σ330 =>
                      if ((((8 : Int32) * x6) + (6 : Int32)) < 0 ∨ 48 ≤ (((8 : Int32) * x6) + (6 : Int32)).toNatClampNeg) then none else
                      if r330 = (rI σ330 40 (((8 : Int32) * x6) + (6 : Int32))) then
                        mL_isLinked_L41 n x3 u4_10 (1 : Int32) (x6 + 1) σ330
                      else
                        mL_isLinked_L41 n x3 u4_10 (0 : Int32) (x6 + 1) σ330
                    else
                      mL_isLinked_L41 n x3 u4_10 (0 : Int32) (x6 + 1) σ312
                  else
                    mL_isLinked_L41 n x3 u4_10 (0 : Int32) (x6 + 1) σ294
                else
                  mL_isLinked_L41 n x3 u4_10 (0 : Int32) (x6 + 1) σ276
              else
                mL_isLinked_L41 n x3 u4_10 (0 : Int32) (x6 + 1) σ260
            else
              mL_isLinked_L41 n x3 u4_10 (0 : Int32) (x6 + 1) σ249
          else
            mL_isLinked_L41 n x3 u4_10 (0 : Int32) (x6 + 1) σ235
set_option maxHeartbeats 4000000 in
set_option maxRecDepth 100000 in
theorem wL_isLinked_L41 {p : Program} {l : Launch} {e : Env} {s : State} {m : MethodId} {args : Array Value} {below : List Frame} {meth : Method} {c : Code} {Q : State → Prop} {K : fm_K} {A : Nat → Prop} (C : CallFix p m c cL_isLinked 11 s args wsL_isLinked RL) (hst : fm_st K A s s.heap) (hA : ∀ q, fm_A K s.heap.size q → A q) :
    ∀ (n : Nat) (x3 : Int32) (x4 : Int32) (x5 : Int32) (x6 : Int32) (σ : fm_S) (o4 : Int32) (o5 : Int32) (σo : fm_S), mL_isLinked_L41 n x3 x4 x5 x6 σ = some (o4, o5, σo) → (∀ (ls : Array Slot) (H : Heap) (locs : List Loc), lv_has ls 11 [(0, .ref (K.2.2.2 0)), (4, .int o4), (5, .int o5)] → fm_H K σo A s H locs → W p l e rmL_isLinked s m args below meth c H locs 0 0 Q (F0 m 359 ls [])) → ∀ (ls : Array Slot) (H : Heap) (locs : List Loc), lv_has ls 11 [(0, .ref (K.2.2.2 0)), (1, .ref (K.2.2.2 40)), (2, .ref (K.2.2.2 41)), (3, .int x3), (4, .int x4), (5, .int x5), (6, .int x6)] → fm_H K σ A s H locs → W p l e rmL_isLinked s m args below meth c H locs 0 0 Q (F0 m 41 ls []) := by
  obtain ⟨hx, hb, hml, hown, hts⟩ := id C
  intro n
  induction n with
  | zero => intro x3 x4 x5 x6 σ o4 o5 σo h; simp [mL_isLinked_L41] at h
  | succ n ih =>
    intro x3 x4 x5 x6 σ o4 o5 σo h kk ls H locs hl hH
    rw [mL_isLinked_L41] at h
    refine lv_iload hx hb dL_isLinked_41 (lv_at hl 6 rfl) ?_
    refine lv_aload_n hx hb dL_isLinked_43 rfl (lv_at hl 1 rfl) ?_
    refine lv_bipush (v := 40) hx hb dL_isLinked_44 (by decide) ?_
    obtain ⟨hi4, h⟩ := mi_chk h
    refine fm_ild hx hb hst.1 hH 40 (fm_inb (by decide)) rfl rfl hi4 dL_isLinked_46 ?_
    refine lv_icmp_ge (tgt := 359) hx hb dL_isLinked_47 (by decide) (fun hc => ?_) (fun hc => ?_)
    · replace h := mi_pos hc h
      cases h
      exact kk _ _ _ (lv_sub hl [0, 4, 5] rfl) hH
    · replace h := mi_neg hc h
      refine lv_iload hx hb dL_isLinked_50 (lv_at hl 5 rfl) ?_
      refine lv_if_eq (tgt := 359) hx hb dL_isLinked_52 (by decide) (fun hc => ?_) (fun hc => ?_)
      · replace h := mi_pos hc h
        cases h
        exact kk _ _ _ (lv_sub hl [0, 4, 5] rfl) hH
      · replace h := mi_neg hc h
        refine lv_aload_n hx hb dL_isLinked_55 rfl (lv_at hl 1 rfl) ?_
        refine lv_aload_n hx hb dL_isLinked_56 rfl (lv_at hl 2 rfl) ?_
        refine lv_iload hx hb dL_isLinked_57 (lv_at hl 6 rfl) ?_
        obtain ⟨r59, h59, h⟩ := mi_b1 h
        refine fm_ci (va_runS (As := [.ref (K.2.2.2 40), .ref (K.2.2.2 41), .int x6]) (rest := []) C (kL_heard l K h59 _) (va_cwS 3 hts gL_isLinked_L_heard rfl rfl rfl (by decide +kernel) ⟨(Nat.le_of_ble_eq_true rfl), (Nat.le_of_ble_eq_true rfl)⟩) ⟨fm_blind, fm_pre hst hA hH⟩ rfl rfl hl.1 rfl (lv_room (Nat.le_of_ble_eq_true rfl)) dL_isLinked_59 ⟨(Nat.le_of_ble_eq_true rfl), (Nat.le_of_ble_eq_true rfl)⟩) hA hH (fun H locs hH => ?_)
        refine lv_istore (lv' := [(7, .int r59), (0, .ref (K.2.2.2 0)), (1, .ref (K.2.2.2 40)), (2, .ref (K.2.2.2 41)), (3, .int x3), (4, .int x4), (5, .int x5), (6, .int x6)]) hx hb dL_isLinked_62 hl (by decide) rfl (fun ls hl => ?_)
        refine lv_iconst (v := -1) hx hb dL_isLinked_64 (by decide) ?_
        refine lv_istore (lv' := [(8, .int (-1 : Int32)), (7, .int r59), (0, .ref (K.2.2.2 0)), (1, .ref (K.2.2.2 40)), (2, .ref (K.2.2.2 41)), (3, .int x3), (4, .int x4), (5, .int x5), (6, .int x6)]) hx hb dL_isLinked_65 hl (by decide) rfl (fun ls hl => ?_)
        refine lv_aload_n hx hb dL_isLinked_67 rfl (lv_at hl 3 rfl) ?_
        refine lv_bipush (v := 8) hx hb dL_isLinked_68 (by decide) ?_
        refine lv_iload hx hb dL_isLinked_70 (lv_at hl 8 rfl) ?_
        refine lv_imul hx hb dL_isLinked_72 ?_
        refine lv_iconst (v := 2) hx hb dL_isLinked_73 (by decide) ?_
        refine lv_iadd hx hb dL_isLinked_74 ?_
        obtain ⟨hi5, h⟩ := mi_chk h
        refine fm_ild hx hb hst.1 hH 40 (fm_inb (by decide)) rfl rfl hi5 dL_isLinked_75 ?_
        refine lv_iconst (v := 1) hx hb dL_isLinked_76 (by decide) ?_
        obtain ⟨v6_0, hd, h2⟩ := mi_b1 h
        have kj : ∀ (ls : Array Slot) (H : Heap) (locs : List Loc), lv_has ls 11 [(0, .ref (K.2.2.2 0)), (1, .ref (K.2.2.2 40)), (2, .ref (K.2.2.2 41)), (3, .int x3), (4, .int x4), (5, .int x5), (6, .int x6), (7, .int r59), (8, .int (-1 : Int32))] → fm_H K σ A s H locs → W p l e rmL_isLinked s m args below meth c H locs 0 0 Q (F0 m 90 ls [.int v6_0]) := by
          clear h hd
          intro ls H locs hl hH
          have h := h2
          clear h2
          refine lv_istore (lv' := [(9, .int v6_0), (0, .ref (K.2.2.2 0)), (1, .ref (K.2.2.2 40)), (2, .ref (K.2.2.2 41)), (3, .int x3), (4, .int x4), (5, .int x5), (6, .int x6), (7, .int r59), (8, .int (-1 : Int32))]) hx hb dL_isLinked_90 hl (by decide) rfl (fun ls hl => ?_)
          refine lv_iload hx hb dL_isLinked_92 (lv_at hl 5 rfl) ?_
          refine lv_aload_n hx hb dL_isLinked_94 rfl (lv_at hl 2 rfl) ?_
          refine lv_bipush (v := 8) hx hb dL_isLinked_95 (by decide) ?_
          refine lv_iload hx hb dL_isLinked_97 (lv_at hl 7 rfl) ?_
          refine lv_imul hx hb dL_isLinked_99 ?_
          refine lv_iconst (v := 2) hx hb dL_isLinked_100 (by decide) ?_
          refine lv_iadd hx hb dL_isLinked_101 ?_
          refine fm_ild hx hb hst.1 hH 40 (fm_inb (by decide)) rfl rfl hi5 dL_isLinked_102 ?_
          obtain ⟨v8_0, hd, h2⟩ := mi_b1 h
          have kj : ∀ (ls : Array Slot) (H : Heap) (locs : List Loc), lv_has ls 11 [(0, .ref (K.2.2.2 0)), (1, .ref (K.2.2.2 40)), (2, .ref (K.2.2.2 41)), (3, .int x3), (5, .int x5), (6, .int x6), (7, .int r59), (8, .int (-1 : Int32)), (9, .int v6_0)] → fm_H K σ A s H locs → W p l e rmL_isLinked s m args below meth c H locs 0 0 Q (F0 m 121 ls [.int v8_0, .int x4]) := by
            clear h hd
            intro ls H locs hl hH
            have h := h2
            clear h2
            refine lv_iadd hx hb dL_isLinked_121 ?_
            obtain ⟨u4_10, hu, h⟩ := mi_b1 h
            rw [Option.some.inj hu]
            clear hu
            refine lv_istore (lv' := [(4, .int u4_10), (0, .ref (K.2.2.2 0)), (1, .ref (K.2.2.2 40)), (2, .ref (K.2.2.2 41)), (3, .int x3), (5, .int x5), (6, .int x6), (7, .int r59), (8, .int (-1 : Int32)), (9, .int v6_0)]) hx hb dL_isLinked_122 hl (by decide) rfl (fun ls hl => ?_)
            refine lv_iconst (v := 0) hx hb dL_isLinked_124 (by decide) ?_
            refine lv_istore (lv' := [(10, .int (0 : Int32)), (4, .int u4_10), (0, .ref (K.2.2.2 0)), (1, .ref (K.2.2.2 40)), (2, .ref (K.2.2.2 41)), (3, .int x3), (5, .int x5), (6, .int x6), (7, .int r59), (8, .int (-1 : Int32)), (9, .int v6_0)]) hx hb dL_isLinked_125 hl (by decide) rfl (fun ls hl => ?_)
            obtain ⟨y127_5, y127_8, σ127, h127, h⟩ := mi_b3 h
            refine wL_isLinked_L127 C hst hA _ _ _ _ _ _ _ _ _ _ _ h127 _ _ (fun ls H locs hl hH => ?_) _ _ _ (lv_sub hl [2, 3, 4, 5, 1, 6, 7, 8, 9, 10, 0] rfl) hH
            refine lv_iload hx hb dL_isLinked_227 (lv_at hl 5 rfl) ?_
            refine lv_if_eq (tgt := 350) hx hb dL_isLinked_229 (by decide) (fun hc => ?_) (fun hc => ?_)
            · replace h := mi_pos hc h
              refine lv_iconst (v := 0) hx hb dL_isLinked_350 (by decide) ?_
              refine lv_istore (lv' := [(5, .int (0 : Int32)), (0, .ref (K.2.2.2 0)), (1, .ref (K.2.2.2 40)), (2, .ref (K.2.2.2 41)), (3, .int x3), (4, .int u4_10), (6, .int x6), (7, .int r59), (8, .int y127_8)]) hx hb dL_isLinked_351 hl (by decide) rfl (fun ls hl => ?_)
              refine lv_iinc (v := (x6 + 1)) (lv' := [(6, .int (x6 + 1)), (5, .int (0 : Int32)), (0, .ref (K.2.2.2 0)), (1, .ref (K.2.2.2 40)), (2, .ref (K.2.2.2 41)), (3, .int x3), (4, .int u4_10), (7, .int r59), (8, .int y127_8)]) hx hb dL_isLinked_353 hl (k := 6) rfl rfl (by decide) rfl (fun ls hl => ?_)
              refine lv_goto (tgt := 41) hx hb dL_isLinked_356 (by decide) ?_
              exact ih _ _ _ _ _ _ _ _ h kk _ _ _ (lv_sub hl [2, 3, 4, 5, 6, 1, 0] rfl) hH
            · replace h := mi_neg hc h
              refine lv_aload_n hx hb dL_isLinked_232 rfl (lv_at hl 0 rfl) ?_
              refine lv_iload hx hb dL_isLinked_233 (lv_at hl 6 rfl) ?_
              obtain ⟨r235, σ235, h235, h⟩ := mi_b2 h
              refine fm_ci (va_runV (As := [.int x6]) (rest := []) C (kX4_degree l K h235 _) (cwV 1 hts gL_isLinked_X4_degree rfl rfl rfl (by decide +kernel) ⟨(Nat.le_of_ble_eq_true rfl), (Nat.le_of_ble_eq_true rfl)⟩) ⟨fm_blind, fm_recv hst hH (q := 0) (fm_inb (by decide)) rfl (fm_ob_0 _ _) rfl, fm_pre hst hA hH⟩ rfl rfl hl.1 rfl (lv_room (Nat.le_of_ble_eq_true rfl)) dL_isLinked_235 ⟨(Nat.le_of_ble_eq_true rfl), (Nat.le_of_ble_eq_true rfl)⟩) hA hH (fun H locs hH => ?_)
              refine lv_iload hx hb dL_isLinked_238 (lv_at hl 7 rfl) ?_
              obtain ⟨r240, h240, h⟩ := mi_b1 h
              refine fm_ci (va_runS (As := [.int r59]) (rest := [.int r235]) C (kL_ones l K h240 _) (va_cwS 1 hts gL_isLinked_L_ones rfl rfl rfl (by decide +kernel) ⟨(Nat.le_of_ble_eq_true rfl), (Nat.le_of_ble_eq_true rfl)⟩) ⟨fm_blind, fm_pre hst hA hH⟩ rfl rfl hl.1 rfl (lv_room (Nat.le_of_ble_eq_true rfl)) dL_isLinked_240 ⟨(Nat.le_of_ble_eq_true rfl), (Nat.le_of_ble_eq_true rfl)⟩) hA hH (fun H locs hH => ?_)
              refine lv_icmp_ne (tgt := 350) hx hb dL_isLinked_243 (by decide) (fun hc => ?_) (fun hc => ?_)
              · replace h := mi_neg hc h
                refine lv_iconst (v := 0) hx hb dL_isLinked_350 (by decide) ?_
                refine lv_istore (lv' := [(5, .int (0 : Int32)), (0, .ref (K.2.2.2 0)), (1, .ref (K.2.2.2 40)), (2, .ref (K.2.2.2 41)), (3, .int x3), (4, .int u4_10), (6, .int x6), (7, .int r59), (8, .int y127_8)]) hx hb dL_isLinked_351 hl (by decide) rfl (fun ls hl => ?_)
                refine lv_iinc (v := (x6 + 1)) (lv' := [(6, .int (x6 + 1)), (5, .int (0 : Int32)), (0, .ref (K.2.2.2 0)), (1, .ref (K.2.2.2 40)), (2, .ref (K.2.2.2 41)), (3, .int x3), (4, .int u4_10), (7, .int r59), (8, .int y127_8)]) hx hb dL_isLinked_353 hl (k := 6) rfl rfl (by decide) rfl (fun ls hl => ?_)
                refine lv_goto (tgt := 41) hx hb dL_isLinked_356 (by decide) ?_
                exact ih _ _ _ _ _ _ _ _ h kk _ _ _ (lv_sub hl [2, 3, 4, 5, 6, 1, 0] rfl) hH
              · replace h := mi_pos hc h
                refine lv_aload_n hx hb dL_isLinked_246 rfl (lv_at hl 0 rfl) ?_
                refine lv_iload hx hb dL_isLinked_247 (lv_at hl 6 rfl) ?_
                obtain ⟨r249, σ249, h249, h⟩ := mi_b2 h
                refine fm_ci (va_runV (As := [.int x6]) (rest := []) C (kX4_leader l K h249 _) (cwV 1 hts gL_isLinked_X4_leader rfl rfl rfl (by decide +kernel) ⟨(Nat.le_of_ble_eq_true rfl), (Nat.le_of_ble_eq_true rfl)⟩) ⟨fm_blind, fm_recv hst hH (q := 0) (fm_inb (by decide)) rfl (fm_ob_0 _ _) rfl, fm_pre hst hA hH⟩ rfl rfl hl.1 rfl (lv_room (Nat.le_of_ble_eq_true rfl)) dL_isLinked_249 ⟨(Nat.le_of_ble_eq_true rfl), (Nat.le_of_ble_eq_true rfl)⟩) hA hH (fun H locs hH => ?_)
                refine lv_iload hx hb dL_isLinked_252 (lv_at hl 8 rfl) ?_
                refine lv_icmp_ne (tgt := 350) hx hb dL_isLinked_254 (by decide) (fun hc => ?_) (fun hc => ?_)
                · replace h := mi_neg hc h
                  refine lv_iconst (v := 0) hx hb dL_isLinked_350 (by decide) ?_
                  refine lv_istore (lv' := [(5, .int (0 : Int32)), (0, .ref (K.2.2.2 0)), (1, .ref (K.2.2.2 40)), (2, .ref (K.2.2.2 41)), (3, .int x3), (4, .int u4_10), (6, .int x6), (7, .int r59), (8, .int y127_8)]) hx hb dL_isLinked_351 hl (by decide) rfl (fun ls hl => ?_)
                  refine lv_iinc (v := (x6 + 1)) (lv' := [(6, .int (x6 + 1)), (5, .int (0 : Int32)), (0, .ref (K.2.2.2 0)), (1, .ref (K.2.2.2 40)), (2, .ref (K.2.2.2 41)), (3, .int x3), (4, .int u4_10), (7, .int r59), (8, .int y127_8)]) hx hb dL_isLinked_353 hl (k := 6) rfl rfl (by decide) rfl (fun ls hl => ?_)
                  refine lv_goto (tgt := 41) hx hb dL_isLinked_356 (by decide) ?_
                  exact ih _ _ _ _ _ _ _ _ h kk _ _ _ (lv_sub hl [2, 3, 4, 5, 6, 1, 0] rfl) hH
                · replace h := mi_pos hc h
                  refine lv_aload_n hx hb dL_isLinked_257 rfl (lv_at hl 0 rfl) ?_
                  refine lv_iload hx hb dL_isLinked_258 (lv_at hl 6 rfl) ?_
                  obtain ⟨r260, σ260, h260, h⟩ := mi_b2 h
                  refine fm_ci (va_runV (As := [.int x6]) (rest := []) C (kX4_xOf l K h260 _) (cwV 1 hts gL_isLinked_X4_xOf rfl rfl rfl (by decide +kernel) ⟨(Nat.le_of_ble_eq_true rfl), (Nat.le_of_ble_eq_true rfl)⟩) ⟨fm_blind, fm_recv hst hH (q := 0) (fm_inb (by decide)) rfl (fm_ob_0 _ _) rfl, fm_pre hst hA hH⟩ rfl rfl hl.1 rfl (lv_room (Nat.le_of_ble_eq_true rfl)) dL_isLinked_260 ⟨(Nat.le_of_ble_eq_true rfl), (Nat.le_of_ble_eq_true rfl)⟩) hA hH (fun H locs hH => ?_)
                  refine lv_aload_n hx hb dL_isLinked_263 rfl (lv_at hl 1 rfl) ?_
                  refine lv_bipush (v := 8) hx hb dL_isLinked_264 (by decide) ?_
                  refine lv_iload hx hb dL_isLinked_266 (lv_at hl 6 rfl) ?_
                  refine lv_imul hx hb dL_isLinked_268 ?_
                  obtain ⟨hi18, h⟩ := mi_chk h
                  refine fm_ild hx hb hst.1 hH 40 (fm_inb (by decide)) rfl rfl hi18 dL_isLinked_269 ?_
                  refine lv_icmp_ne (tgt := 350) hx hb dL_isLinked_270 (by decide) (fun hc => ?_) (fun hc => ?_)
                  · replace h := mi_neg hc h
                    refine lv_iconst (v := 0) hx hb dL_isLinked_350 (by decide) ?_
                    refine lv_istore (lv' := [(5, .int (0 : Int32)), (0, .ref (K.2.2.2 0)), (1, .ref (K.2.2.2 40)), (2, .ref (K.2.2.2 41)), (3, .int x3), (4, .int u4_10), (6, .int x6), (7, .int r59), (8, .int y127_8)]) hx hb dL_isLinked_351 hl (by decide) rfl (fun ls hl => ?_)
                    refine lv_iinc (v := (x6 + 1)) (lv' := [(6, .int (x6 + 1)), (5, .int (0 : Int32)), (0, .ref (K.2.2.2 0)), (1, .ref (K.2.2.2 40)), (2, .ref (K.2.2.2 41)), (3, .int x3), (4, .int u4_10), (7, .int r59), (8, .int y127_8)]) hx hb dL_isLinked_353 hl (k := 6) rfl rfl (by decide) rfl (fun ls hl => ?_)
                    refine lv_goto (tgt := 41) hx hb dL_isLinked_356 (by decide) ?_
                    exact ih _ _ _ _ _ _ _ _ h kk _ _ _ (lv_sub hl [2, 3, 4, 5, 6, 1, 0] rfl) hH
                  · replace h := mi_pos hc h
                    refine lv_aload_n hx hb dL_isLinked_273 rfl (lv_at hl 0 rfl) ?_
                    refine lv_iload hx hb dL_isLinked_274 (lv_at hl 6 rfl) ?_
                    obtain ⟨r276, σ276, h276, h⟩ := mi_b2 h
                    refine fm_ci (va_runV (As := [.int x6]) (rest := []) C (kX4_yOf l K h276 _) (cwV 1 hts gL_isLinked_X4_yOf rfl rfl rfl (by decide +kernel) ⟨(Nat.le_of_ble_eq_true rfl), (Nat.le_of_ble_eq_true rfl)⟩) ⟨fm_blind, fm_recv hst hH (q := 0) (fm_inb (by decide)) rfl (fm_ob_0 _ _) rfl, fm_pre hst hA hH⟩ rfl rfl hl.1 rfl (lv_room (Nat.le_of_ble_eq_true rfl)) dL_isLinked_276 ⟨(Nat.le_of_ble_eq_true rfl), (Nat.le_of_ble_eq_true rfl)⟩) hA hH (fun H locs hH => ?_)
                    refine lv_aload_n hx hb dL_isLinked_279 rfl (lv_at hl 1 rfl) ?_
                    refine lv_bipush (v := 8) hx hb dL_isLinked_280 (by decide) ?_
                    refine lv_iload hx hb dL_isLinked_282 (lv_at hl 6 rfl) ?_
                    refine lv_imul hx hb dL_isLinked_284 ?_
                    refine lv_iconst (v := 1) hx hb dL_isLinked_285 (by decide) ?_
                    refine lv_iadd hx hb dL_isLinked_286 ?_
                    obtain ⟨hi19, h⟩ := mi_chk h
                    refine fm_ild hx hb hst.1 hH 40 (fm_inb (by decide)) rfl rfl hi19 dL_isLinked_287 ?_
                    refine lv_icmp_ne (tgt := 350) hx hb dL_isLinked_288 (by decide) (fun hc => ?_) (fun hc => ?_)
                    · replace h := mi_neg hc h
                      refine lv_iconst (v := 0) hx hb dL_isLinked_350 (by decide) ?_
                      refine lv_istore (lv' := [(5, .int (0 : Int32)), (0, .ref (K.2.2.2 0)), (1, .ref (K.2.2.2 40)), (2, .ref (K.2.2.2 41)), (3, .int x3), (4, .int u4_10), (6, .int x6), (7, .int r59), (8, .int y127_8)]) hx hb dL_isLinked_351 hl (by decide) rfl (fun ls hl => ?_)
                      refine lv_iinc (v := (x6 + 1)) (lv' := [(6, .int (x6 + 1)), (5, .int (0 : Int32)), (0, .ref (K.2.2.2 0)), (1, .ref (K.2.2.2 40)), (2, .ref (K.2.2.2 41)), (3, .int x3), (4, .int u4_10), (7, .int r59), (8, .int y127_8)]) hx hb dL_isLinked_353 hl (k := 6) rfl rfl (by decide) rfl (fun ls hl => ?_)
                      refine lv_goto (tgt := 41) hx hb dL_isLinked_356 (by decide) ?_
                      exact ih _ _ _ _ _ _ _ _ h kk _ _ _ (lv_sub hl [2, 3, 4, 5, 6, 1, 0] rfl) hH
                    · replace h := mi_pos hc h
                      refine lv_aload_n hx hb dL_isLinked_291 rfl (lv_at hl 0 rfl) ?_
                      refine lv_iload hx hb dL_isLinked_292 (lv_at hl 6 rfl) ?_
                      obtain ⟨r294, σ294, h294, h⟩ := mi_b2 h
                      refine fm_ci (va_runV (As := [.int x6]) (rest := []) C (kX4_estimate l K h294 _) (cwV 1 hts gL_isLinked_X4_estimate rfl rfl rfl (by decide +kernel) ⟨(Nat.le_of_ble_eq_true rfl), (Nat.le_of_ble_eq_true rfl)⟩) ⟨fm_blind, fm_recv hst hH (q := 0) (fm_inb (by decide)) rfl (fm_ob_0 _ _) rfl, fm_pre hst hA hH⟩ rfl rfl hl.1 rfl (lv_room (Nat.le_of_ble_eq_true rfl)) dL_isLinked_294 ⟨(Nat.le_of_ble_eq_true rfl), (Nat.le_of_ble_eq_true rfl)⟩) hA hH (fun H locs hH => ?_)
                      refine lv_aload_n hx hb dL_isLinked_297 rfl (lv_at hl 1 rfl) ?_
                      refine lv_bipush (v := 8) hx hb dL_isLinked_298 (by decide) ?_
                      refine lv_iload hx hb dL_isLinked_300 (lv_at hl 6 rfl) ?_
                      refine lv_imul hx hb dL_isLinked_302 ?_
                      refine lv_iconst (v := 4) hx hb dL_isLinked_303 (by decide) ?_
                      refine lv_iadd hx hb dL_isLinked_304 ?_
                      obtain ⟨hi20, h⟩ := mi_chk h
                      refine fm_ild hx hb hst.1 hH 40 (fm_inb (by decide)) rfl rfl hi20 dL_isLinked_305 ?_
                      refine lv_icmp_ne (tgt := 350) hx hb dL_isLinked_306 (by decide) (fun hc => ?_) (fun hc => ?_)
                      · replace h := mi_neg hc h
                        refine lv_iconst (v := 0) hx hb dL_isLinked_350 (by decide) ?_
                        refine lv_istore (lv' := [(5, .int (0 : Int32)), (0, .ref (K.2.2.2 0)), (1, .ref (K.2.2.2 40)), (2, .ref (K.2.2.2 41)), (3, .int x3), (4, .int u4_10), (6, .int x6), (7, .int r59), (8, .int y127_8)]) hx hb dL_isLinked_351 hl (by decide) rfl (fun ls hl => ?_)
                        refine lv_iinc (v := (x6 + 1)) (lv' := [(6, .int (x6 + 1)), (5, .int (0 : Int32)), (0, .ref (K.2.2.2 0)), (1, .ref (K.2.2.2 40)), (2, .ref (K.2.2.2 41)), (3, .int x3), (4, .int u4_10), (7, .int r59), (8, .int y127_8)]) hx hb dL_isLinked_353 hl (k := 6) rfl rfl (by decide) rfl (fun ls hl => ?_)
                        refine lv_goto (tgt := 41) hx hb dL_isLinked_356 (by decide) ?_
                        exact ih _ _ _ _ _ _ _ _ h kk _ _ _ (lv_sub hl [2, 3, 4, 5, 6, 1, 0] rfl) hH
                      · replace h := mi_pos hc h
                        refine lv_aload_n hx hb dL_isLinked_309 rfl (lv_at hl 0 rfl) ?_
                        refine lv_iload hx hb dL_isLinked_310 (lv_at hl 6 rfl) ?_
                        obtain ⟨r312, σ312, h312, h⟩ := mi_b2 h
                        refine fm_ci (va_runV (As := [.int x6]) (rest := []) C (kX4_sum l K h312 _) (cwV 1 hts gL_isLinked_X4_sum rfl rfl rfl (by decide +kernel) ⟨(Nat.le_of_ble_eq_true rfl), (Nat.le_of_ble_eq_true rfl)⟩) ⟨fm_blind, fm_recv hst hH (q := 0) (fm_inb (by decide)) rfl (fm_ob_0 _ _) rfl, fm_pre hst hA hH⟩ rfl rfl hl.1 rfl (lv_room (Nat.le_of_ble_eq_true rfl)) dL_isLinked_312 ⟨(Nat.le_of_ble_eq_true rfl), (Nat.le_of_ble_eq_true rfl)⟩) hA hH (fun H locs hH => ?_)
                        refine lv_aload_n hx hb dL_isLinked_315 rfl (lv_at hl 1 rfl) ?_
                        refine lv_bipush (v := 8) hx hb dL_isLinked_316 (by decide) ?_
                        refine lv_iload hx hb dL_isLinked_318 (lv_at hl 6 rfl) ?_
                        refine lv_imul hx hb dL_isLinked_320 ?_
                        refine lv_iconst (v := 5) hx hb dL_isLinked_321 (by decide) ?_
                        refine lv_iadd hx hb dL_isLinked_322 ?_
                        obtain ⟨hi21, h⟩ := mi_chk h
                        refine fm_ild hx hb hst.1 hH 40 (fm_inb (by decide)) rfl rfl hi21 dL_isLinked_323 ?_
                        refine lv_icmp_ne (tgt := 350) hx hb dL_isLinked_324 (by decide) (fun hc => ?_) (fun hc => ?_)
                        · replace h := mi_neg hc h
                          refine lv_iconst (v := 0) hx hb dL_isLinked_350 (by decide) ?_
                          refine lv_istore (lv' := [(5, .int (0 : Int32)), (0, .ref (K.2.2.2 0)), (1, .ref (K.2.2.2 40)), (2, .ref (K.2.2.2 41)), (3, .int x3), (4, .int u4_10), (6, .int x6), (7, .int r59), (8, .int y127_8)]) hx hb dL_isLinked_351 hl (by decide) rfl (fun ls hl => ?_)
                          refine lv_iinc (v := (x6 + 1)) (lv' := [(6, .int (x6 + 1)), (5, .int (0 : Int32)), (0, .ref (K.2.2.2 0)), (1, .ref (K.2.2.2 40)), (2, .ref (K.2.2.2 41)), (3, .int x3), (4, .int u4_10), (7, .int r59), (8, .int y127_8)]) hx hb dL_isLinked_353 hl (k := 6) rfl rfl (by decide) rfl (fun ls hl => ?_)
                          refine lv_goto (tgt := 41) hx hb dL_isLinked_356 (by decide) ?_
                          exact ih _ _ _ _ _ _ _ _ h kk _ _ _ (lv_sub hl [2, 3, 4, 5, 6, 1, 0] rfl) hH
                        · replace h := mi_pos hc h
                          refine lv_aload_n hx hb dL_isLinked_327 rfl (lv_at hl 0 rfl) ?_
                          refine lv_iload hx hb dL_isLinked_328 (lv_at hl 6 rfl) ?_
                          obtain ⟨r330, σ330, h330, h⟩ := mi_b2 h
                          refine fm_ci (va_runV (As := [.int x6]) (rest := []) C (kX4_weight l K h330 _) (cwV 1 hts gL_isLinked_X4_weight rfl rfl rfl (by decide +kernel) ⟨(Nat.le_of_ble_eq_true rfl), (Nat.le_of_ble_eq_true rfl)⟩) ⟨fm_blind, fm_recv hst hH (q := 0) (fm_inb (by decide)) rfl (fm_ob_0 _ _) rfl, fm_pre hst hA hH⟩ rfl rfl hl.1 rfl (lv_room (Nat.le_of_ble_eq_true rfl)) dL_isLinked_330 ⟨(Nat.le_of_ble_eq_true rfl), (Nat.le_of_ble_eq_true rfl)⟩) hA hH (fun H locs hH => ?_)
                          refine lv_aload_n hx hb dL_isLinked_333 rfl (lv_at hl 1 rfl) ?_
                          refine lv_bipush (v := 8) hx hb dL_isLinked_334 (by decide) ?_
                          refine lv_iload hx hb dL_isLinked_336 (lv_at hl 6 rfl) ?_
                          refine lv_imul hx hb dL_isLinked_338 ?_
                          refine lv_bipush (v := 6) hx hb dL_isLinked_339 (by decide) ?_
                          refine lv_iadd hx hb dL_isLinked_341 ?_
                          obtain ⟨hi22, h⟩ := mi_chk h
                          refine fm_ild hx hb hst.1 hH 40 (fm_inb (by decide)) rfl rfl hi22 dL_isLinked_342 ?_
                          refine lv_icmp_ne (tgt := 350) hx hb dL_isLinked_343 (by decide) (fun hc => ?_) (fun hc => ?_)
                          · replace h := mi_neg hc h
                            refine lv_iconst (v := 0) hx hb dL_isLinked_350 (by decide) ?_
                            refine lv_istore (lv' := [(5, .int (0 : Int32)), (0, .ref (K.2.2.2 0)), (1, .ref (K.2.2.2 40)), (2, .ref (K.2.2.2 41)), (3, .int x3), (4, .int u4_10), (6, .int x6), (7, .int r59), (8, .int y127_8)]) hx hb dL_isLinked_351 hl (by decide) rfl (fun ls hl => ?_)
                            refine lv_iinc (v := (x6 + 1)) (lv' := [(6, .int (x6 + 1)), (5, .int (0 : Int32)), (0, .ref (K.2.2.2 0)), (1, .ref (K.2.2.2 40)), (2, .ref (K.2.2.2 41)), (3, .int x3), (4, .int u4_10), (7, .int r59), (8, .int y127_8)]) hx hb dL_isLinked_353 hl (k := 6) rfl rfl (by decide) rfl (fun ls hl => ?_)
                            refine lv_goto (tgt := 41) hx hb dL_isLinked_356 (by decide) ?_
                            exact ih _ _ _ _ _ _ _ _ h kk _ _ _ (lv_sub hl [2, 3, 4, 5, 6, 1, 0] rfl) hH
                          · replace h := mi_pos hc h
                            refine lv_iconst (v := 1) hx hb dL_isLinked_346 (by decide) ?_
                            refine lv_goto (tgt := 351) hx hb dL_isLinked_347 (by decide) ?_
                            refine lv_istore (lv' := [(5, .int (1 : Int32)), (0, .ref (K.2.2.2 0)), (1, .ref (K.2.2.2 40)), (2, .ref (K.2.2.2 41)), (3, .int x3), (4, .int u4_10), (6, .int x6), (7, .int r59), (8, .int y127_8)]) hx hb dL_isLinked_351 hl (by decide) rfl (fun ls hl => ?_)
                            refine lv_iinc (v := (x6 + 1)) (lv' := [(6, .int (x6 + 1)), (5, .int (1 : Int32)), (0, .ref (K.2.2.2 0)), (1, .ref (K.2.2.2 40)), (2, .ref (K.2.2.2 41)), (3, .int x3), (4, .int u4_10), (7, .int r59), (8, .int y127_8)]) hx hb dL_isLinked_353 hl (k := 6) rfl rfl (by decide) rfl (fun ls hl => ?_)
                            refine lv_goto (tgt := 41) hx hb dL_isLinked_356 (by decide) ?_
                            exact ih _ _ _ _ _ _ _ _ h kk _ _ _ (lv_sub hl [2, 3, 4, 5, 6, 1, 0] rfl) hH
          replace h := hd
          clear h2 hd
          refine lv_if_ne (tgt := 120) hx hb dL_isLinked_103 (by decide) (fun hc => ?_) (fun hc => ?_)
          · replace h := mi_neg hc h
            refine lv_iconst (v := 0) hx hb dL_isLinked_120 (by decide) ?_
            cases h
            exact kj _ _ _ (lv_sub hl [1, 2, 3, 4, 6, 7, 8, 9, 0] rfl) hH
          · replace h := mi_pos hc h
            refine lv_iload hx hb dL_isLinked_106 (lv_at hl 0 rfl) ?_
            refine lv_iconst (v := 1) hx hb dL_isLinked_108 (by decide) ?_
            refine lv_iload hx hb dL_isLinked_109 (lv_at hl 7 rfl) ?_
            refine lv_ishl hx hb dL_isLinked_111 ?_
            obtain ⟨hz9, h⟩ := mi_chk h
            refine lv_irem hx hb dL_isLinked_112 hz9 ?_
            refine lv_if_ne (tgt := 120) hx hb dL_isLinked_113 (by decide) (fun hc => ?_) (fun hc => ?_)
            · replace h := mi_neg hc h
              refine lv_iconst (v := 0) hx hb dL_isLinked_120 (by decide) ?_
              cases h
              exact kj _ _ _ (lv_sub hl [1, 2, 3, 4, 6, 7, 8, 9, 0] rfl) hH
            · replace h := mi_pos hc h
              refine lv_iconst (v := 1) hx hb dL_isLinked_116 (by decide) ?_
              refine lv_goto (tgt := 121) hx hb dL_isLinked_117 (by decide) ?_
              cases h
              exact kj _ _ _ (lv_sub hl [1, 2, 3, 4, 6, 7, 8, 9, 0] rfl) hH
        replace h := hd
        clear h2 hd
        refine lv_icmp_ne (tgt := 84) hx hb dL_isLinked_77 (by decide) (fun hc => ?_) (fun hc => ?_)
        · replace h := mi_neg hc h
          refine lv_iload_n hx hb dL_isLinked_84 rfl (lv_at hl 5 rfl) ?_
          refine lv_iload hx hb dL_isLinked_85 (lv_at hl 8 rfl) ?_
          obtain ⟨r87, h87, h⟩ := mi_b1 h
          refine fm_ci (va_runS (As := [.int x3, .int x6]) (rest := []) C (kL_group l K h87 _) (va_cwS 2 hts gL_isLinked_L_group rfl rfl rfl (by decide +kernel) ⟨(Nat.le_of_ble_eq_true rfl), (Nat.le_of_ble_eq_true rfl)⟩) ⟨fm_blind, fm_pre hst hA hH⟩ rfl rfl hl.1 rfl (lv_room (Nat.le_of_ble_eq_true rfl)) dL_isLinked_87 ⟨(Nat.le_of_ble_eq_true rfl), (Nat.le_of_ble_eq_true rfl)⟩) hA hH (fun H locs hH => ?_)
          cases h
          exact kj _ _ _ (lv_sub hl [2, 3, 4, 5, 6, 7, 8, 1, 0] rfl) hH
        · replace h := mi_pos hc h
          refine lv_iconst (v := 0) hx hb dL_isLinked_80 (by decide) ?_
          refine lv_goto (tgt := 90) hx hb dL_isLinked_81 (by decide) ?_
          cases h
          exact kj _ _ _ (lv_sub hl [2, 3, 4, 5, 6, 7, 8, 1, 0] rfl) hH
def mL_isLinked (σ : fm_S) : Option (Int32 × fm_S) :=
  mb1 (mL_links σ) fun r2 =>
  mb2 (mX4_links σ) fun r10 σ10 =>
  mb1 (mL_ones r2) fun r14 =>
  mb1 (show Option (Int32) from
    if r10 = r14 then
      mb1 (mX4_members σ10) fun r21 =>
      if ((40 : Int32) < 0 ∨ 48 ≤ (40 : Int32).toNatClampNeg) then none else
      if r21 = (rI σ10 40 (40 : Int32)) then
        some ((1 : Int32))
      else
        some ((0 : Int32))
    else
      some ((0 : Int32))) fun v2_0 =>
  mb3 (mL_isLinked_L41 fG r2 (0 : Int32) v2_0 (0 : Int32) σ10) fun y41_4 y41_5 σ41 =>
  if y41_5 = 0 then
    some ((0 : Int32), σ41)
  else
    mb2 (mX4_groups σ41) fun r365 σ365 =>
    if r365 = y41_4 then
      some ((1 : Int32), σ365)
    else
      some ((0 : Int32), σ365)
set_option maxHeartbeats 4000000 in
set_option maxRecDepth 100000 in
theorem kL_isLinked (l : Launch) (K : fm_K) {σ : fm_S} {r : Int32} {σ' : fm_S} (h : mL_isLinked σ = some (r, σ')) : fm_CI l yL_isLinked wsL_isLinked rmL_isLinked K [.ref (K.2.2.2 0), .ref (K.2.2.2 40), .ref (K.2.2.2 41)] σ r σ' := by
  intro sz
  refine fm_start (Qc := fun sz => fm_QI K r σ' sz) (cc := cL_isLinked) (maxL := 11) (ret := (some .boolean)) (by decide) rfl (Nat.le_of_ble_eq_true rfl) ?_
  intro p e s m args below meth c C hr hlk hst hH ls hl
  have C : CallFix p m c cL_isLinked 11 s args wsL_isLinked RL := C
  obtain ⟨hx, hb, hml, hown, hts⟩ := id C
  have hA : ∀ q, fm_A K s.heap.size q → fm_A K s.heap.size q := fun _ h => h
  have hl : lv_has ls 11 [(0, .ref (K.2.2.2 0)), (1, .ref (K.2.2.2 40)), (2, .ref (K.2.2.2 41))] := hl
  generalize hQ : MQ below _ args s _ _ _ = Q
  rw [mL_isLinked] at h
  refine lv_aload_n hx hb dL_isLinked_0 rfl (lv_at hl 1 rfl) ?_
  refine lv_aload_n hx hb dL_isLinked_1 rfl (lv_at hl 2 rfl) ?_
  obtain ⟨r2, h2, h⟩ := mi_b1 h
  refine fm_ci (va_runS (As := [.ref (K.2.2.2 40), .ref (K.2.2.2 41)]) (rest := []) C (kL_links l K h2 _) (va_cwS 2 hts gL_isLinked_L_links rfl rfl rfl (by decide +kernel) ⟨(Nat.le_of_ble_eq_true rfl), (Nat.le_of_ble_eq_true rfl)⟩) ⟨fm_blind, fm_pre hst hA hH⟩ rfl rfl hl.1 rfl (lv_room (Nat.le_of_ble_eq_true rfl)) dL_isLinked_2 ⟨(Nat.le_of_ble_eq_true rfl), (Nat.le_of_ble_eq_true rfl)⟩) hA hH (fun H locs hH => ?_)
  refine lv_istore_n (lv' := [(3, .int r2), (0, .ref (K.2.2.2 0)), (1, .ref (K.2.2.2 40)), (2, .ref (K.2.2.2 41))]) hx hb dL_isLinked_5 rfl hl (by decide) rfl (fun ls hl => ?_)
  refine lv_iconst (v := 0) hx hb dL_isLinked_6 (by decide) ?_
  refine lv_istore (lv' := [(4, .int (0 : Int32)), (3, .int r2), (0, .ref (K.2.2.2 0)), (1, .ref (K.2.2.2 40)), (2, .ref (K.2.2.2 41))]) hx hb dL_isLinked_7 hl (by decide) rfl (fun ls hl => ?_)
  refine lv_aload_n hx hb dL_isLinked_9 rfl (lv_at hl 2 rfl) ?_
  obtain ⟨r10, σ10, h10, h⟩ := mi_b2 h
  refine fm_ci (va_runV (As := []) (rest := []) C (kX4_links l K h10 _) (cwV 0 hts gL_isLinked_X4_links rfl rfl rfl (by decide +kernel) ⟨(Nat.le_of_ble_eq_true rfl), (Nat.le_of_ble_eq_true rfl)⟩) ⟨fm_blind, fm_recv hst hH (q := 0) (fm_inb (by decide)) rfl (fm_ob_0 _ _) rfl, fm_pre hst hA hH⟩ rfl rfl hl.1 rfl (lv_room (Nat.le_of_ble_eq_true rfl)) dL_isLinked_10 ⟨(Nat.le_of_ble_eq_true rfl), (Nat.le_of_ble_eq_true rfl)⟩) hA hH (fun H locs hH => ?_)
  refine lv_iload_n hx hb dL_isLinked_13 rfl (lv_at hl 1 rfl) ?_
  obtain ⟨r14, h14, h⟩ := mi_b1 h
  refine fm_ci (va_runS (As := [.int r2]) (rest := [.int r10]) C (kL_ones l K h14 _) (va_cwS 1 hts gL_isLinked_L_ones rfl rfl rfl (by decide +kernel) ⟨(Nat.le_of_ble_eq_true rfl), (Nat.le_of_ble_eq_true rfl)⟩) ⟨fm_blind, fm_pre hst hA hH⟩ rfl rfl hl.1 rfl (lv_room (Nat.le_of_ble_eq_true rfl)) dL_isLinked_14 ⟨(Nat.le_of_ble_eq_true rfl), (Nat.le_of_ble_eq_true rfl)⟩) hA hH (fun H locs hH => ?_)
  obtain ⟨v2_0, hd, h2⟩ := mi_b1 h
  have kj : ∀ (ls : Array Slot) (H : Heap) (locs : List Loc), lv_has ls 11 [(0, .ref (K.2.2.2 0)), (1, .ref (K.2.2.2 40)), (2, .ref (K.2.2.2 41)), (3, .int r2), (4, .int (0 : Int32))] → fm_H K σ10 (fm_A K s.heap.size) s H locs → W p l e rmL_isLinked s m args below meth c H locs 0 0 Q (F0 m 36 ls [.int v2_0]) := by
    clear h hd
    intro ls H locs hl hH
    have h := h2
    clear h2
    refine lv_istore (lv' := [(5, .int v2_0), (0, .ref (K.2.2.2 0)), (1, .ref (K.2.2.2 40)), (2, .ref (K.2.2.2 41)), (3, .int r2), (4, .int (0 : Int32))]) hx hb dL_isLinked_36 hl (by decide) rfl (fun ls hl => ?_)
    refine lv_iconst (v := 0) hx hb dL_isLinked_38 (by decide) ?_
    refine lv_istore (lv' := [(6, .int (0 : Int32)), (5, .int v2_0), (0, .ref (K.2.2.2 0)), (1, .ref (K.2.2.2 40)), (2, .ref (K.2.2.2 41)), (3, .int r2), (4, .int (0 : Int32))]) hx hb dL_isLinked_39 hl (by decide) rfl (fun ls hl => ?_)
    obtain ⟨y41_4, y41_5, σ41, h41, h⟩ := mi_b3 h
    refine wL_isLinked_L41 C hst hA _ _ _ _ _ _ _ _ _ h41 (fun ls H locs hl hH => ?_) _ _ _ (lv_sub hl [2, 3, 4, 5, 6, 1, 0] rfl) hH
    refine lv_iload hx hb dL_isLinked_359 (lv_at hl 2 rfl) ?_
    refine lv_if_eq (tgt := 377) hx hb dL_isLinked_361 (by decide) (fun hc => ?_) (fun hc => ?_)
    · replace h := mi_pos hc h
      refine lv_iconst (v := 0) hx hb dL_isLinked_377 (by decide) ?_
      cases h
      subst hQ
      exact fm_zret hx hb hr rfl hlk hst hH dL_isLinked_378
    · replace h := mi_neg hc h
      refine lv_aload_n hx hb dL_isLinked_364 rfl (lv_at hl 0 rfl) ?_
      obtain ⟨r365, σ365, h365, h⟩ := mi_b2 h
      refine fm_ci (va_runV (As := []) (rest := []) C (kX4_groups l K h365 _) (cwV 0 hts gL_isLinked_X4_groups rfl rfl rfl (by decide +kernel) ⟨(Nat.le_of_ble_eq_true rfl), (Nat.le_of_ble_eq_true rfl)⟩) ⟨fm_blind, fm_recv hst hH (q := 0) (fm_inb (by decide)) rfl (fm_ob_0 _ _) rfl, fm_pre hst hA hH⟩ rfl rfl hl.1 rfl (lv_room (Nat.le_of_ble_eq_true rfl)) dL_isLinked_365 ⟨(Nat.le_of_ble_eq_true rfl), (Nat.le_of_ble_eq_true rfl)⟩) hA hH (fun H locs hH => ?_)
      refine lv_iload hx hb dL_isLinked_368 (lv_at hl 1 rfl) ?_
      refine lv_icmp_ne (tgt := 377) hx hb dL_isLinked_370 (by decide) (fun hc => ?_) (fun hc => ?_)
      · replace h := mi_neg hc h
        refine lv_iconst (v := 0) hx hb dL_isLinked_377 (by decide) ?_
        cases h
        subst hQ
        exact fm_zret hx hb hr rfl hlk hst hH dL_isLinked_378
      · replace h := mi_pos hc h
        refine lv_iconst (v := 1) hx hb dL_isLinked_373 (by decide) ?_
        refine lv_goto (tgt := 378) hx hb dL_isLinked_374 (by decide) ?_
        cases h
        subst hQ
        exact fm_zret hx hb hr rfl hlk hst hH dL_isLinked_378
  replace h := hd
  clear h2 hd
  refine lv_icmp_ne (tgt := 35) hx hb dL_isLinked_17 (by decide) (fun hc => ?_) (fun hc => ?_)
  · replace h := mi_neg hc h
    refine lv_iconst (v := 0) hx hb dL_isLinked_35 (by decide) ?_
    cases h
    exact kj _ _ _ (lv_sub hl [2, 3, 4, 1, 0] rfl) hH
  · replace h := mi_pos hc h
    refine lv_aload_n hx hb dL_isLinked_20 rfl (lv_at hl 2 rfl) ?_
    obtain ⟨r21, h21, h⟩ := mi_b1 h
    refine fm_ci (va_runV (As := []) (rest := []) C (kX4_members l K h21 _) (cwV 0 hts gL_isLinked_X4_members rfl rfl rfl (by decide +kernel) ⟨(Nat.le_of_ble_eq_true rfl), (Nat.le_of_ble_eq_true rfl)⟩) ⟨fm_blind, fm_recv hst hH (q := 0) (fm_inb (by decide)) rfl (fm_ob_0 _ _) rfl, fm_pre hst hA hH⟩ rfl rfl hl.1 rfl (lv_room (Nat.le_of_ble_eq_true rfl)) dL_isLinked_21 ⟨(Nat.le_of_ble_eq_true rfl), (Nat.le_of_ble_eq_true rfl)⟩) hA hH (fun H locs hH => ?_)
    refine lv_aload_n hx hb dL_isLinked_24 rfl (lv_at hl 3 rfl) ?_
    refine lv_bipush (v := 40) hx hb dL_isLinked_25 (by decide) ?_
    obtain ⟨hi3, h⟩ := mi_chk h
    refine fm_ild hx hb hst.1 hH 40 (fm_inb (by decide)) rfl rfl hi3 dL_isLinked_27 ?_
    refine lv_icmp_ne (tgt := 35) hx hb dL_isLinked_28 (by decide) (fun hc => ?_) (fun hc => ?_)
    · replace h := mi_neg hc h
      refine lv_iconst (v := 0) hx hb dL_isLinked_35 (by decide) ?_
      cases h
      exact kj _ _ _ (lv_sub hl [2, 3, 4, 1, 0] rfl) hH
    · replace h := mi_pos hc h
      refine lv_iconst (v := 1) hx hb dL_isLinked_31 (by decide) ?_
      refine lv_goto (tgt := 36) hx hb dL_isLinked_32 (by decide) ?_
      cases h
      exact kj _ _ _ (lv_sub hl [2, 3, 4, 1, 0] rfl) hH
