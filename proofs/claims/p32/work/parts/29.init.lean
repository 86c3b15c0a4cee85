section FMK
/-- the store at the start: rows 10 .. 10+i-1 and the first j places of row 50 hold -1 -/
def cσ (i j : Nat) : fm_S := (fun a b => if (a = 60 ∨ a = 61) ∧ b = 1 then 100 else if 10 ≤ a ∧ a < 10 + i ∧ b < 8 then -1 else if a = 50 ∧ b < j then -1 else 0, fun _ _ => 0)
theorem cz (i j q : Nat) (h1 : q < 56) (h2 : q < 10 ∨ 10 + i ≤ q) (h3 : q ≠ 50 ∨ j = 0) : (cσ i j).1 q = fun _ => 0 := by
  funext b
  have e1 : ¬ ((q = 60 ∨ q = 61) ∧ b = 1) := by omega
  have e2 : ¬ (10 ≤ q ∧ q < 10 + i ∧ b < 8) := by omega
  have e3 : ¬ (q = 50 ∧ b < j) := by omega
  simp only [cσ, if_neg e1, if_neg e2, if_neg e3]
theorem cF1 (K : fm_K) (i j q : Nat) {n : Nat} (h1 : q < 56) (h2 : q < 10 ∨ 10 + i ≤ q) (h3 : q ≠ 50 ∨ j = 0) (ht : fm_ty q = 1) (hn : fm_len q = n) : fm_ce K (cσ i j) q = .inl (K.2.2.1 0, n, .inl (fun _ => 0)) := by
  subst hn
  simp [fm_ce, ht, cz i j q h1 h2 h3]
theorem cF2 (K : fm_K) (i j q : Nat) {n : Nat} (h1 : q < 56) (h2 : q < 10 ∨ 10 + i ≤ q) (h3 : q ≠ 50 ∨ j = 0) (ht : fm_ty q = 2) (hn : fm_len q = n) : fm_ce K (cσ i j) q = .inl (K.2.2.1 1, n, .inl (fun _ => 0)) := by
  subst hn
  simp [fm_ce, ht, cz i j q h1 h2 h3]
theorem cF3 (K : fm_K) (i j q : Nat) {n : Nat} (ht : fm_ty q = 3) (hn : fm_len q = n) : fm_ce K (cσ i j) q = .inl (K.2.2.1 2, n, .inr (.inl (fun _ => 0))) := by
  subst hn
  simp [fm_ce, ht, cσ]
theorem cF10 (K : fm_K) (i : Nat) (hi : i < 8) : fm_ce K (cσ i 0) (10 + i) = .inl (K.2.2.1 0, 8, .inl (fun _ => 0)) := by
  have h : ∀ i, i < 8 → fm_ty (10 + i) = 1 ∧ fm_len (10 + i) = 8 := by decide
  exact cF1 K i 0 (10 + i) (by omega) (Or.inr (Nat.le_refl _)) (Or.inr rfl) (h i hi).1 (h i hi).2
theorem cstep (K : fm_K) (i : Nat) (hi : i < 8) : cU (fm_ce K (cσ i 0)) (10 + i) (.inl (K.2.2.1 0, 8, .inl (fun b => if b < 8 then -1 else 0))) = fm_ce K (cσ (i + 1) 0) := by
  funext q
  by_cases hq : q = 10 + i
  · subst hq
    rw [cU_s]
    have h : ∀ i, i < 8 → fm_ty (10 + i) = 1 ∧ fm_len (10 + i) = 8 := by decide
    obtain ⟨e1, e2⟩ := h i hi
    have e3 : (cσ (i + 1) 0).1 (10 + i) = fun b => if b < 8 then -1 else 0 := by
      funext b
      have a1 : ¬ ((10 + i = 60 ∨ 10 + i = 61) ∧ b = 1) := by omega
      have a3 : ¬ (10 + i = 50 ∧ b < 0) := by omega
      by_cases hb : b < 8
      · have a2 : 10 ≤ 10 + i ∧ 10 + i < 10 + (i + 1) ∧ b < 8 := by omega
        simp only [cσ, if_neg a1, if_pos a2, if_pos hb]
      · have a2 : ¬ (10 ≤ 10 + i ∧ 10 + i < 10 + (i + 1) ∧ b < 8) := by omega
        simp only [cσ, if_neg a1, if_neg a2, if_neg a3, if_neg hb]
    simp [fm_ce, e1, e2, e3]
  · rw [cU_n hq]
    have e3 : ∀ a, a ≠ 10 + i → (cσ (i + 1) 0).1 a = (cσ i 0).1 a := by
      intro a ha
      funext b
      have : (10 ≤ a ∧ a < 10 + (i + 1) ∧ b < 8) ↔ (10 ≤ a ∧ a < 10 + i ∧ b < 8) := by omega
      simp only [cσ, this]
    have e4 : (cσ (i + 1) 0).2 = (cσ i 0).2 := rfl
    simp only [fm_ce, fm_ob, e3 q hq, e3 60 (by omega), e3 61 (by omega), e4]
theorem cpre {K : fm_K} {n : Nat} {f : Nat → va_E} {s : State} {H : Heap} {locs : List Loc} {as : List Value} (hX : cX K s) (hH : cH K n f s H locs) : ∀ U : State, U.heap = H → s.WarmedH U.vm → va_Pc as (cPre K n f) as.toArray U :=
  fun U hU hW => ⟨rfl, by rw [hU]; exact hH.1, hX.warm hW⟩

abbrev rmX4_init : Room := { frames := 2, cells := 39, slots := 527, locals := 40 }
set_option maxHeartbeats 3000000 in
set_option maxRecDepth 100000 in
theorem c_X4_init (l : Launch) {K : fm_K} (hm : cMo K) : cM l yX4_init wsX4_init rmX4_init K [.ref (K.2.2.2 0)] 1 (cU (fm_ce K (cσ 0 0)) 0 (.inr (4, [.null, .null, .null, .null, .null, .null, .null, .null, .null, .null, .int 0, .int 0, .null, .null, .null, .null, .null, .null]))) 40 (fm_ce K (cσ 8 0)) 39 527 := by
  refine c_start (cc := cX4_init) (maxL := 2) (ret := none) (by decide) rfl (Nat.le_of_ble_eq_true rfl) ?_
  intro p e s m args below meth c C hr hlk hin2 hX hH ls hl
  have C : CallFix p m c cX4_init 2 s args wsX4_init RX4 := C
  obtain ⟨hx, hb, hml, hown, hts⟩ := id C
  have hl : lv_has ls 2 [(0, .ref (K.2.2.2 0))] := hl
  refine lv_aload_n hx hb dX4_init_0 rfl (lv_at hl 0 rfl) ?_
  refine W.objInit hx hb hown (hts (.methodLink RX4 1 objectInit) (List.mem_of_getElem? (i := 1) rfl)) (hts (.instanceMethod objectInit) (List.mem_of_getElem? (i := 2) rfl)) (hts _ (List.mem_of_getElem? (i := 3) rfl)) rfl (by rw [hml]; exact hl.1) rfl dX4_init_1 (Nat.le_of_ble_eq_true rfl) (Nat.le_of_ble_eq_true rfl) ?_
  refine W.eq (g2 := F0 m 4 ls []) rfl ?_
  have hf0 : fm_ce K (cσ 0 0) 0 = .inr (4, [.ref (K.2.2.2 1), .ref (K.2.2.2 2), .ref (K.2.2.2 3), .ref (K.2.2.2 4), .ref (K.2.2.2 5), .ref (K.2.2.2 6), .ref (K.2.2.2 7), .ref (K.2.2.2 8), .ref (K.2.2.2 9), .ref (K.2.2.2 18), .int 0, .int 100, .ref (K.2.2.2 20), .ref (K.2.2.2 22), .ref (K.2.2.2 23), .ref (K.2.2.2 24), .ref (K.2.2.2 28), .ref (K.2.2.2 30)]) := rfl
  generalize hF9 : fm_ce K (cσ 0 0) = F9 at hH hf0
  have hF : ∀ q, F9 q = fm_ce K (cσ 0 0) q := fun q => by rw [hF9]
  refine lv_aload_n hx hb dX4_init_4 rfl (lv_at hl 0 rfl) ?_
  refine lv_bipush (v := 8) hx hb dX4_init_5 (by decide) ?_
  refine c_newa hm (atype := .int) (N := 8) (a0 := (8, .inl (fun _ => 0))) hx hb (hts (.arrayClass .int) (List.mem_of_getElem? (i := 4) rfl)) (hX.1.2 0 _ rfl).2 hH ((cU_n (by decide)).trans ((hF 1).trans (cF1 K 0 0 1 (by decide) (by decide) (by decide) rfl rfl))) (fun cI => rfl) (by decide) rfl (by decide) (Nat.le_of_ble_eq_true rfl) (Nat.le_of_ble_eq_true rfl) dX4_init_7 (fun H hH => ?_)
  refine W.widen (k := 1) (n := 8) (by omega) (by omega) ?_
  refine c_putF hm (T := TX4) (N := 18) (ty := .array .int) (F := F9) (fs := [.null, .null, .null, .null, .null, .null, .null, .null, .null, .null, .int 0, .int 0, .null, .null, .null, .null, .null, .null]) (fs' := [.ref (K.2.2.2 1), .null, .null, .null, .null, .null, .null, .null, .null, .null, .int 0, .int 0, .null, .null, .null, .null, .null, .null]) hx hb hts (fun _ h => List.mem_cons_of_mem _ (List.mem_append_left _ (List.mem_append_left _ (List.mem_append_left _ (List.mem_append_left _ (List.mem_append_right _ h)))))) tyX4 tyX4_ok nmX4 hown hX.1 0 hH (by decide) rfl 0 (by decide) (List.mem_of_getElem? (i := 5) rfl) rfl rfl hin2 rfl (by decide +kernel) rfl rfl (Nat.le_of_ble_eq_true rfl) rfl dX4_init_9 (fun H locs hH => ?_)
  refine lv_aload_n hx hb dX4_init_12 rfl (lv_at hl 0 rfl) ?_
  refine lv_bipush (v := 8) hx hb dX4_init_13 (by decide) ?_
  refine c_newa hm (atype := .int) (N := 8) (a0 := (8, .inl (fun _ => 0))) hx hb (hts (.arrayClass .int) (List.mem_of_getElem? (i := 4) rfl)) (hX.1.2 0 _ rfl).2 hH ((cU_n (by decide)).trans ((hF 2).trans (cF1 K 0 0 2 (by decide) (by decide) (by decide) rfl rfl))) (fun cI => rfl) (by decide) rfl (by decide) (Nat.le_of_ble_eq_true rfl) (Nat.le_of_ble_eq_true rfl) dX4_init_15 (fun H hH => ?_)
  refine W.widen (k := 2) (n := 16) (by omega) (by omega) ?_
  refine c_putF hm (T := TX4) (N := 18) (ty := .array .int) (F := F9) (fs := [.ref (K.2.2.2 1), .null, .null, .null, .null, .null, .null, .null, .null, .null, .int 0, .int 0, .null, .null, .null, .null, .null, .null]) (fs' := [.ref (K.2.2.2 1), .ref (K.2.2.2 2), .null, .null, .null, .null, .null, .null, .null, .null, .int 0, .int 0, .null, .null, .null, .null, .null, .null]) hx hb hts (fun _ h => List.mem_cons_of_mem _ (List.mem_append_left _ (List.mem_append_left _ (List.mem_append_left _ (List.mem_append_left _ (List.mem_append_right _ h)))))) tyX4 tyX4_ok nmX4 hown hX.1 0 hH (by decide) rfl 1 (by decide) (List.mem_of_getElem? (i := 6) rfl) rfl rfl hin2 rfl (by decide +kernel) rfl rfl (Nat.le_of_ble_eq_true rfl) rfl dX4_init_17 (fun H locs hH => ?_)
  refine lv_aload_n hx hb dX4_init_20 rfl (lv_at hl 0 rfl) ?_
  refine lv_bipush (v := 8) hx hb dX4_init_21 (by decide) ?_
  refine c_newa hm (atype := .boolean) (N := 8) (a0 := (8, .inl (fun _ => 0))) hx hb (hts (.arrayClass .boolean) (List.mem_of_getElem? (i := 7) rfl)) (hX.1.2 1 _ rfl).2 hH ((cU_n (by decide)).trans ((hF 3).trans (cF2 K 0 0 3 (by decide) (by decide) (by decide) rfl rfl))) (fun cI => rfl) (by decide) rfl (by decide) (Nat.le_of_ble_eq_true rfl) (Nat.le_of_ble_eq_true rfl) dX4_init_23 (fun H hH => ?_)
  refine W.widen (k := 3) (n := 24) (by omega) (by omega) ?_
  refine c_putF hm (T := TX4) (N := 18) (ty := .array .boolean) (F := F9) (fs := [.ref (K.2.2.2 1), .ref (K.2.2.2 2), .null, .null, .null, .null, .null, .null, .null, .null, .int 0, .int 0, .null, .null, .null, .null, .null, .null]) (fs' := [.ref (K.2.2.2 1), .ref (K.2.2.2 2), .ref (K.2.2.2 3), .null, .null, .null, .null, .null, .null, .null, .int 0, .int 0, .null, .null, .null, .null, .null, .null]) hx hb hts (fun _ h => List.mem_cons_of_mem _ (List.mem_append_left _ (List.mem_append_left _ (List.mem_append_left _ (List.mem_append_left _ (List.mem_append_right _ h)))))) tyX4 tyX4_ok nmX4 hown hX.1 0 hH (by decide) rfl 2 (by decide) (List.mem_of_getElem? (i := 8) rfl) rfl rfl hin2 rfl (by decide +kernel) rfl rfl (Nat.le_of_ble_eq_true rfl) rfl dX4_init_25 (fun H locs hH => ?_)
  refine lv_aload_n hx hb dX4_init_28 rfl (lv_at hl 0 rfl) ?_
  refine lv_bipush (v := 8) hx hb dX4_init_29 (by decide) ?_
  refine c_newa hm (atype := .int) (N := 8) (a0 := (8, .inl (fun _ => 0))) hx hb (hts (.arrayClass .int) (List.mem_of_getElem? (i := 4) rfl)) (hX.1.2 0 _ rfl).2 hH ((cU_n (by decide)).trans ((hF 4).trans (cF1 K 0 0 4 (by decide) (by decide) (by decide) rfl rfl))) (fun cI => rfl) (by decide) rfl (by decide) (Nat.le_of_ble_eq_true rfl) (Nat.le_of_ble_eq_true rfl) dX4_init_31 (fun H hH => ?_)
  refine W.widen (k := 4) (n := 32) (by omega) (by omega) ?_
  refine c_putF hm (T := TX4) (N := 18) (ty := .array .int) (F := F9) (fs := [.ref (K.2.2.2 1), .ref (K.2.2.2 2), .ref (K.2.2.2 3), .null, .null, .null, .null, .null, .null, .null, .int 0, .int 0, .null, .null, .null, .null, .null, .null]) (fs' := [.ref (K.2.2.2 1), .ref (K.2.2.2 2), .ref (K.2.2.2 3), .ref (K.2.2.2 4), .null, .null, .null, .null, .null, .null, .int 0, .int 0, .null, .null, .null, .null, .null, .null]) hx hb hts (fun _ h => List.mem_cons_of_mem _ (List.mem_append_left _ (List.mem_append_left _ (List.mem_append_left _ (List.mem_append_left _ (List.mem_append_right _ h)))))) tyX4 tyX4_ok nmX4 hown hX.1 0 hH (by decide) rfl 3 (by decide) (List.mem_of_getElem? (i := 9) rfl) rfl rfl hin2 rfl (by decide +kernel) rfl rfl (Nat.le_of_ble_eq_true rfl) rfl dX4_init_33 (fun H locs hH => ?_)
  refine lv_aload_n hx hb dX4_init_36 rfl (lv_at hl 0 rfl) ?_
  refine lv_bipush (v := 8) hx hb dX4_init_37 (by decide) ?_
  refine c_newa hm (atype := .int) (N := 8) (a0 := (8, .inl (fun _ => 0))) hx hb (hts (.arrayClass .int) (List.mem_of_getElem? (i := 4) rfl)) (hX.1.2 0 _ rfl).2 hH ((cU_n (by decide)).trans ((hF 5).trans (cF1 K 0 0 5 (by decide) (by decide) (by decide) rfl rfl))) (fun cI => rfl) (by decide) rfl (by decide) (Nat.le_of_ble_eq_true rfl) (Nat.le_of_ble_eq_true rfl) dX4_init_39 (fun H hH => ?_)
  refine W.widen (k := 5) (n := 40) (by omega) (by omega) ?_
  refine c_putF hm (T := TX4) (N := 18) (ty := .array .int) (F := F9) (fs := [.ref (K.2.2.2 1), .ref (K.2.2.2 2), .ref (K.2.2.2 3), .ref (K.2.2.2 4), .null, .null, .null, .null, .null, .null, .int 0, .int 0, .null, .null, .null, .null, .null, .null]) (fs' := [.ref (K.2.2.2 1), .ref (K.2.2.2 2), .ref (K.2.2.2 3), .ref (K.2.2.2 4), .ref (K.2.2.2 5), .null, .null, .null, .null, .null, .int 0, .int 0, .null, .null, .null, .null, .null, .null]) hx hb hts (fun _ h => List.mem_cons_of_mem _ (List.mem_append_left _ (List.mem_append_left _ (List.mem_append_left _ (List.mem_append_left _ (List.mem_append_right _ h)))))) tyX4 tyX4_ok nmX4 hown hX.1 0 hH (by decide) rfl 4 (by decide) (List.mem_of_getElem? (i := 10) rfl) rfl rfl hin2 rfl (by decide +kernel) rfl rfl (Nat.le_of_ble_eq_true rfl) rfl dX4_init_41 (fun H locs hH => ?_)
  refine lv_aload_n hx hb dX4_init_44 rfl (lv_at hl 0 rfl) ?_
  refine lv_bipush (v := 8) hx hb dX4_init_45 (by decide) ?_
  refine c_newa hm (atype := .int) (N := 8) (a0 := (8, .inl (fun _ => 0))) hx hb (hts (.arrayClass .int) (List.mem_of_getElem? (i := 4) rfl)) (hX.1.2 0 _ rfl).2 hH ((cU_n (by decide)).trans ((hF 6).trans (cF1 K 0 0 6 (by decide) (by decide) (by decide) rfl rfl))) (fun cI => rfl) (by decide) rfl (by decide) (Nat.le_of_ble_eq_true rfl) (Nat.le_of_ble_eq_true rfl) dX4_init_47 (fun H hH => ?_)
  refine W.widen (k := 6) (n := 48) (by omega) (by omega) ?_
  refine c_putF hm (T := TX4) (N := 18) (ty := .array .int) (F := F9) (fs := [.ref (K.2.2.2 1), .ref (K.2.2.2 2), .ref (K.2.2.2 3), .ref (K.2.2.2 4), .ref (K.2.2.2 5), .null, .null, .null, .null, .null, .int 0, .int 0, .null, .null, .null, .null, .null, .null]) (fs' := [.ref (K.2.2.2 1), .ref (K.2.2.2 2), .ref (K.2.2.2 3), .ref (K.2.2.2 4), .ref (K.2.2.2 5), .ref (K.2.2.2 6), .null, .null, .null, .null, .int 0, .int 0, .null, .null, .null, .null, .null, .null]) hx hb hts (fun _ h => List.mem_cons_of_mem _ (List.mem_append_left _ (List.mem_append_left _ (List.mem_append_left _ (List.mem_append_left _ (List.mem_append_right _ h)))))) tyX4 tyX4_ok nmX4 hown hX.1 0 hH (by decide) rfl 5 (by decide) (List.mem_of_getElem? (i := 11) rfl) rfl rfl hin2 rfl (by decide +kernel) rfl rfl (Nat.le_of_ble_eq_true rfl) rfl dX4_init_49 (fun H locs hH => ?_)
  refine lv_aload_n hx hb dX4_init_52 rfl (lv_at hl 0 rfl) ?_
  refine lv_bipush (v := 8) hx hb dX4_init_53 (by decide) ?_
  refine c_newa hm (atype := .int) (N := 8) (a0 := (8, .inl (fun _ => 0))) hx hb (hts (.arrayClass .int) (List.mem_of_getElem? (i := 4) rfl)) (hX.1.2 0 _ rfl).2 hH ((cU_n (by decide)).trans ((hF 7).trans (cF1 K 0 0 7 (by decide) (by decide) (by decide) rfl rfl))) (fun cI => rfl) (by decide) rfl (by decide) (Nat.le_of_ble_eq_true rfl) (Nat.le_of_ble_eq_true rfl) dX4_init_55 (fun H hH => ?_)
  refine W.widen (k := 7) (n := 56) (by omega) (by omega) ?_
  refine c_putF hm (T := TX4) (N := 18) (ty := .array .int) (F := F9) (fs := [.ref (K.2.2.2 1), .ref (K.2.2.2 2), .ref (K.2.2.2 3), .ref (K.2.2.2 4), .ref (K.2.2.2 5), .ref (K.2.2.2 6), .null, .null, .null, .null, .int 0, .int 0, .null, .null, .null, .null, .null, .null]) (fs' := [.ref (K.2.2.2 1), .ref (K.2.2.2 2), .ref (K.2.2.2 3), .ref (K.2.2.2 4), .ref (K.2.2.2 5), .ref (K.2.2.2 6), .ref (K.2.2.2 7), .null, .null, .null, .int 0, .int 0, .null, .null, .null, .null, .null, .null]) hx hb hts (fun _ h => List.mem_cons_of_mem _ (List.mem_append_left _ (List.mem_append_left _ (List.mem_append_left _ (List.mem_append_left _ (List.mem_append_right _ h)))))) tyX4 tyX4_ok nmX4 hown hX.1 0 hH (by decide) rfl 6 (by decide) (List.mem_of_getElem? (i := 12) rfl) rfl rfl hin2 rfl (by decide +kernel) rfl rfl (Nat.le_of_ble_eq_true rfl) rfl dX4_init_57 (fun H locs hH => ?_)
  refine lv_aload_n hx hb dX4_init_60 rfl (lv_at hl 0 rfl) ?_
  refine lv_bipush (v := 8) hx hb dX4_init_61 (by decide) ?_
  refine c_newa hm (atype := .int) (N := 8) (a0 := (8, .inl (fun _ => 0))) hx hb (hts (.arrayClass .int) (List.mem_of_getElem? (i := 4) rfl)) (hX.1.2 0 _ rfl).2 hH ((cU_n (by decide)).trans ((hF 8).trans (cF1 K 0 0 8 (by decide) (by decide) (by decide) rfl rfl))) (fun cI => rfl) (by decide) rfl (by decide) (Nat.le_of_ble_eq_true rfl) (Nat.le_of_ble_eq_true rfl) dX4_init_63 (fun H hH => ?_)
  refine W.widen (k := 8) (n := 64) (by omega) (by omega) ?_
  refine c_putF hm (T := TX4) (N := 18) (ty := .array .int) (F := F9) (fs := [.ref (K.2.2.2 1), .ref (K.2.2.2 2), .ref (K.2.2.2 3), .ref (K.2.2.2 4), .ref (K.2.2.2 5), .ref (K.2.2.2 6), .ref (K.2.2.2 7), .null, .null, .null, .int 0, .int 0, .null, .null, .null, .null, .null, .null]) (fs' := [.ref (K.2.2.2 1), .ref (K.2.2.2 2), .ref (K.2.2.2 3), .ref (K.2.2.2 4), .ref (K.2.2.2 5), .ref (K.2.2.2 6), .ref (K.2.2.2 7), .ref (K.2.2.2 8), .null, .null, .int 0, .int 0, .null, .null, .null, .null, .null, .null]) hx hb hts (fun _ h => List.mem_cons_of_mem _ (List.mem_append_left _ (List.mem_append_left _ (List.mem_append_left _ (List.mem_append_left _ (List.mem_append_right _ h)))))) tyX4 tyX4_ok nmX4 hown hX.1 0 hH (by decide) rfl 7 (by decide) (List.mem_of_getElem? (i := 13) rfl) rfl rfl hin2 rfl (by decide +kernel) rfl rfl (Nat.le_of_ble_eq_true rfl) rfl dX4_init_65 (fun H locs hH => ?_)
  refine lv_aload_n hx hb dX4_init_68 rfl (lv_at hl 0 rfl) ?_
  refine lv_bipush (v := 8) hx hb dX4_init_69 (by decide) ?_
  refine lv_bipush (v := 8) hx hb dX4_init_71 (by decide) ?_
  have hrows : ∀ i, i < 8 → F9 (10 + i) = .inl (K.2.2.1 0, 8, .inl (fun _ => 0)) := fun i hi => by
    have h9 : ∀ i, i < 8 → fm_ty (10 + i) = 1 ∧ fm_len (10 + i) = 8 := by decide
    rw [hF]
    exact cF1 K 0 0 (10 + i) (by omega) (by omega) (Or.inr rfl) (h9 i hi).1 (h9 i hi).2
  refine c_mna hm (ty := .int) (z := (8, .inl (fun _ => 0))) hx hb hown (hts (.classLink RX4 35 "[[I") (List.mem_of_getElem? (i := 14) rfl)) hX.2.2.1 (hts (.arrayClass .int) (List.mem_of_getElem? (i := 4) rfl)) (hX.1.2 3 _ rfl).2 (hX.1.2 0 _ rfl).2 hH ((cU_n (by decide)).trans ((hF 9).trans rfl)) (fun i hi => (cU_n (by omega)).trans (hrows i hi)) (by decide) (by decide) (by decide) (Nat.le_of_ble_eq_true rfl) (Nat.le_of_ble_eq_true rfl) (fun cI => (arrV_new cI 8 (.int 0)).trans rfl) dX4_init_73 (fun H hH => ?_)
  refine W.widen (k := 17) (n := 136) (by omega) (by omega) ?_
  refine c_putF hm (T := TX4) (N := 18) (ty := .array (.array .int)) (F := F9) (fs := [.ref (K.2.2.2 1), .ref (K.2.2.2 2), .ref (K.2.2.2 3), .ref (K.2.2.2 4), .ref (K.2.2.2 5), .ref (K.2.2.2 6), .ref (K.2.2.2 7), .ref (K.2.2.2 8), .null, .null, .int 0, .int 0, .null, .null, .null, .null, .null, .null]) (fs' := [.ref (K.2.2.2 1), .ref (K.2.2.2 2), .ref (K.2.2.2 3), .ref (K.2.2.2 4), .ref (K.2.2.2 5), .ref (K.2.2.2 6), .ref (K.2.2.2 7), .ref (K.2.2.2 8), .ref (K.2.2.2 9), .null, .int 0, .int 0, .null, .null, .null, .null, .null, .null]) hx hb hts (fun _ h => List.mem_cons_of_mem _ (List.mem_append_left _ (List.mem_append_left _ (List.mem_append_left _ (List.mem_append_left _ (List.mem_append_right _ h)))))) tyX4 tyX4_ok nmX4 hown hX.1 0 hH (by decide) rfl 8 (by decide) (List.mem_of_getElem? (i := 15) rfl) rfl rfl hin2 rfl (by decide +kernel) rfl rfl (Nat.le_of_ble_eq_true rfl) rfl dX4_init_77 (fun H locs hH => ?_)
  refine lv_aload_n hx hb dX4_init_80 rfl (lv_at hl 0 rfl) ?_
  refine c_new hm (ci := 1) (fs := [.null]) (C := RX1) (T := TX1) (N := 1) hx hb hts (fun _ h => List.mem_cons_of_mem _ (List.mem_append_left _ (List.mem_append_left _ (List.mem_append_left _ (List.mem_append_right _ h))))) tyX1 tyX1_ok hown (hts (.classLink RX4 40 RX1) (List.mem_of_getElem? (i := 16) rfl)) (hts (.instantiable RX1 1) (List.mem_of_getElem? (i := 17) rfl)) (hts (.initialized RX1) (List.mem_of_getElem? (i := 18) rfl)) hX.1 hH rfl (fun j hj => by rcases (show j = 0 by omega) with rfl; rfl) (Nat.le_of_ble_eq_true rfl) (Nat.le_of_ble_eq_true rfl) dX4_init_81 (fun H hH => ?_)
  refine W.widen (k := 18) (n := 137) (by omega) (by omega) ?_
  refine lv_dup hx hb dX4_init_84 rfl ?_
  refine c_call (va_runIN (As := []) (rest := [.ref (K.2.2.2 18), .ref (K.2.2.2 0)]) C (c_X1_init l hm (k0 := 18) (F := cU F9 0 (.inr (4, [.ref (K.2.2.2 1), .ref (K.2.2.2 2), .ref (K.2.2.2 3), .ref (K.2.2.2 4), .ref (K.2.2.2 5), .ref (K.2.2.2 6), .ref (K.2.2.2 7), .ref (K.2.2.2 8), .ref (K.2.2.2 9), .null, .int 0, .int 0, .null, .null, .null, .null, .null, .null]))) ((cU_n (by decide)).trans ((hF 18).trans rfl)) ((cU_n (by decide)).trans ((hF 19).trans (cF1 K 0 0 19 (by decide) (by decide) (by decide) rfl rfl)))) ⟨va_cnB 0 hts gX4_init_X1_init_n42 rfl rfl rfl (hX.2.1 (RX4, 42, yX1_init) (List.mem_of_getElem? (i := 0) rfl)) (hts (.initialized RX1) (List.mem_of_getElem? (i := 18) rfl)) (by decide +kernel) ⟨(Nat.le_of_ble_eq_true rfl), (Nat.le_of_ble_eq_true rfl)⟩, rfl, (hts (.instanceMethod yX1_init) (List.mem_of_getElem? (i := 37) rfl))⟩ ⟨cblind, cpre hX hH⟩ rfl rfl hl.1 rfl (lv_room (Nat.le_of_ble_eq_true rfl)) dX4_init_85 ⟨(Nat.le_of_ble_eq_true rfl), (Nat.le_of_ble_eq_true rfl)⟩) hH (fun H locs hH => ?_)
  refine W.widen (k := 19) (n := 145) (by omega) (by omega) ?_
  refine c_putF hm (T := TX4) (N := 18) (ty := .object "Formationist$Net") (F := F9) (fs := [.ref (K.2.2.2 1), .ref (K.2.2.2 2), .ref (K.2.2.2 3), .ref (K.2.2.2 4), .ref (K.2.2.2 5), .ref (K.2.2.2 6), .ref (K.2.2.2 7), .ref (K.2.2.2 8), .ref (K.2.2.2 9), .null, .int 0, .int 0, .null, .null, .null, .null, .null, .null]) (fs' := [.ref (K.2.2.2 1), .ref (K.2.2.2 2), .ref (K.2.2.2 3), .ref (K.2.2.2 4), .ref (K.2.2.2 5), .ref (K.2.2.2 6), .ref (K.2.2.2 7), .ref (K.2.2.2 8), .ref (K.2.2.2 9), .ref (K.2.2.2 18), .int 0, .int 0, .null, .null, .null, .null, .null, .null]) hx hb hts (fun _ h => List.mem_cons_of_mem _ (List.mem_append_left _ (List.mem_append_left _ (List.mem_append_left _ (List.mem_append_left _ (List.mem_append_right _ h)))))) tyX4 tyX4_ok nmX4 hown hX.1 0 hH (by decide) rfl 9 (by decide) (List.mem_of_getElem? (i := 19) rfl) rfl rfl hin2 rfl (by decide +kernel) rfl rfl (Nat.le_of_ble_eq_true rfl) rfl dX4_init_88 (fun H locs hH => ?_)
  refine lv_aload_n hx hb dX4_init_91 rfl (lv_at hl 0 rfl) ?_
  refine lv_iconst (v := 0) hx hb dX4_init_92 (by decide) ?_
  refine c_put hm (T := TX4) (N := 18) (ty := .int) (F := F9) (fs := [.ref (K.2.2.2 1), .ref (K.2.2.2 2), .ref (K.2.2.2 3), .ref (K.2.2.2 4), .ref (K.2.2.2 5), .ref (K.2.2.2 6), .ref (K.2.2.2 7), .ref (K.2.2.2 8), .ref (K.2.2.2 9), .ref (K.2.2.2 18), .int 0, .int 0, .null, .null, .null, .null, .null, .null]) (fs' := [.ref (K.2.2.2 1), .ref (K.2.2.2 2), .ref (K.2.2.2 3), .ref (K.2.2.2 4), .ref (K.2.2.2 5), .ref (K.2.2.2 6), .ref (K.2.2.2 7), .ref (K.2.2.2 8), .ref (K.2.2.2 9), .ref (K.2.2.2 18), .int 0, .int 0, .null, .null, .null, .null, .null, .null]) hx hb hts (fun _ h => List.mem_cons_of_mem _ (List.mem_append_left _ (List.mem_append_left _ (List.mem_append_left _ (List.mem_append_left _ (List.mem_append_right _ h)))))) tyX4 tyX4_ok nmX4 hown hX.1 0 hH (by decide) rfl 10 (by decide) (List.mem_of_getElem? (i := 20) rfl) rfl rfl (by decide +kernel) rfl rfl (Nat.le_of_ble_eq_true rfl) rfl dX4_init_93 (fun H locs hH => ?_)
  refine lv_aload_n hx hb dX4_init_96 rfl (lv_at hl 0 rfl) ?_
  refine lv_bipush (v := 100) hx hb dX4_init_97 (by decide) ?_
  refine c_put hm (T := TX4) (N := 18) (ty := .int) (F := F9) (fs := [.ref (K.2.2.2 1), .ref (K.2.2.2 2), .ref (K.2.2.2 3), .ref (K.2.2.2 4), .ref (K.2.2.2 5), .ref (K.2.2.2 6), .ref (K.2.2.2 7), .ref (K.2.2.2 8), .ref (K.2.2.2 9), .ref (K.2.2.2 18), .int 0, .int 0, .null, .null, .null, .null, .null, .null]) (fs' := [.ref (K.2.2.2 1), .ref (K.2.2.2 2), .ref (K.2.2.2 3), .ref (K.2.2.2 4), .ref (K.2.2.2 5), .ref (K.2.2.2 6), .ref (K.2.2.2 7), .ref (K.2.2.2 8), .ref (K.2.2.2 9), .ref (K.2.2.2 18), .int 0, .int 100, .null, .null, .null, .null, .null, .null]) hx hb hts (fun _ h => List.mem_cons_of_mem _ (List.mem_append_left _ (List.mem_append_left _ (List.mem_append_left _ (List.mem_append_left _ (List.mem_append_right _ h)))))) tyX4 tyX4_ok nmX4 hown hX.1 0 hH (by decide) rfl 11 (by decide) (List.mem_of_getElem? (i := 21) rfl) rfl rfl (by decide +kernel) rfl rfl (Nat.le_of_ble_eq_true rfl) rfl dX4_init_99 (fun H locs hH => ?_)
  refine lv_aload_n hx hb dX4_init_102 rfl (lv_at hl 0 rfl) ?_
  refine c_new hm (ci := 1) (fs := [.null]) (C := RX1) (T := TX1) (N := 1) hx hb hts (fun _ h => List.mem_cons_of_mem _ (List.mem_append_left _ (List.mem_append_left _ (List.mem_append_left _ (List.mem_append_right _ h))))) tyX1 tyX1_ok hown (hts (.classLink RX4 40 RX1) (List.mem_of_getElem? (i := 16) rfl)) (hts (.instantiable RX1 1) (List.mem_of_getElem? (i := 17) rfl)) (hts (.initialized RX1) (List.mem_of_getElem? (i := 18) rfl)) hX.1 hH rfl (fun j hj => by rcases (show j = 0 by omega) with rfl; rfl) (Nat.le_of_ble_eq_true rfl) (Nat.le_of_ble_eq_true rfl) dX4_init_103 (fun H hH => ?_)
  refine W.widen (k := 20) (n := 146) (by omega) (by omega) ?_
  refine lv_dup hx hb dX4_init_106 rfl ?_
  refine c_call (va_runIN (As := []) (rest := [.ref (K.2.2.2 20), .ref (K.2.2.2 0)]) C (c_X1_init l hm (k0 := 20) (F := cU F9 0 (.inr (4, [.ref (K.2.2.2 1), .ref (K.2.2.2 2), .ref (K.2.2.2 3), .ref (K.2.2.2 4), .ref (K.2.2.2 5), .ref (K.2.2.2 6), .ref (K.2.2.2 7), .ref (K.2.2.2 8), .ref (K.2.2.2 9), .ref (K.2.2.2 18), .int 0, .int 100, .null, .null, .null, .null, .null, .null]))) ((cU_n (by decide)).trans ((hF 20).trans rfl)) ((cU_n (by decide)).trans ((hF 21).trans (cF1 K 0 0 21 (by decide) (by decide) (by decide) rfl rfl)))) ⟨va_cnB 0 hts gX4_init_X1_init_n42 rfl rfl rfl (hX.2.1 (RX4, 42, yX1_init) (List.mem_of_getElem? (i := 0) rfl)) (hts (.initialized RX1) (List.mem_of_getElem? (i := 18) rfl)) (by decide +kernel) ⟨(Nat.le_of_ble_eq_true rfl), (Nat.le_of_ble_eq_true rfl)⟩, rfl, (hts (.instanceMethod yX1_init) (List.mem_of_getElem? (i := 37) rfl))⟩ ⟨cblind, cpre hX hH⟩ rfl rfl hl.1 rfl (lv_room (Nat.le_of_ble_eq_true rfl)) dX4_init_107 ⟨(Nat.le_of_ble_eq_true rfl), (Nat.le_of_ble_eq_true rfl)⟩) hH (fun H locs hH => ?_)
  refine W.widen (k := 21) (n := 154) (by omega) (by omega) ?_
  refine c_putF hm (T := TX4) (N := 18) (ty := .object "Formationist$Net") (F := F9) (fs := [.ref (K.2.2.2 1), .ref (K.2.2.2 2), .ref (K.2.2.2 3), .ref (K.2.2.2 4), .ref (K.2.2.2 5), .ref (K.2.2.2 6), .ref (K.2.2.2 7), .ref (K.2.2.2 8), .ref (K.2.2.2 9), .ref (K.2.2.2 18), .int 0, .int 100, .null, .null, .null, .null, .null, .null]) (fs' := [.ref (K.2.2.2 1), .ref (K.2.2.2 2), .ref (K.2.2.2 3), .ref (K.2.2.2 4), .ref (K.2.2.2 5), .ref (K.2.2.2 6), .ref (K.2.2.2 7), .ref (K.2.2.2 8), .ref (K.2.2.2 9), .ref (K.2.2.2 18), .int 0, .int 100, .ref (K.2.2.2 20), .null, .null, .null, .null, .null]) hx hb hts (fun _ h => List.mem_cons_of_mem _ (List.mem_append_left _ (List.mem_append_left _ (List.mem_append_left _ (List.mem_append_left _ (List.mem_append_right _ h)))))) tyX4 tyX4_ok nmX4 hown hX.1 0 hH (by decide) rfl 12 (by decide) (List.mem_of_getElem? (i := 22) rfl) rfl rfl hin2 rfl (by decide +kernel) rfl rfl (Nat.le_of_ble_eq_true rfl) rfl dX4_init_110 (fun H locs hH => ?_)
  refine lv_aload_n hx hb dX4_init_113 rfl (lv_at hl 0 rfl) ?_
  refine lv_bipush (v := 8) hx hb dX4_init_114 (by decide) ?_
  refine c_newa hm (atype := .int) (N := 8) (a0 := (8, .inl (fun _ => 0))) hx hb (hts (.arrayClass .int) (List.mem_of_getElem? (i := 4) rfl)) (hX.1.2 0 _ rfl).2 hH ((cU_n (by decide)).trans ((hF 22).trans (cF1 K 0 0 22 (by decide) (by decide) (by decide) rfl rfl))) (fun cI => rfl) (by decide) rfl (by decide) (Nat.le_of_ble_eq_true rfl) (Nat.le_of_ble_eq_true rfl) dX4_init_116 (fun H hH => ?_)
  refine W.widen (k := 22) (n := 162) (by omega) (by omega) ?_
  refine c_putF hm (T := TX4) (N := 18) (ty := .array .int) (F := F9) (fs := [.ref (K.2.2.2 1), .ref (K.2.2.2 2), .ref (K.2.2.2 3), .ref (K.2.2.2 4), .ref (K.2.2.2 5), .ref (K.2.2.2 6), .ref (K.2.2.2 7), .ref (K.2.2.2 8), .ref (K.2.2.2 9), .ref (K.2.2.2 18), .int 0, .int 100, .ref (K.2.2.2 20), .null, .null, .null, .null, .null]) (fs' := [.ref (K.2.2.2 1), .ref (K.2.2.2 2), .ref (K.2.2.2 3), .ref (K.2.2.2 4), .ref (K.2.2.2 5), .ref (K.2.2.2 6), .ref (K.2.2.2 7), .ref (K.2.2.2 8), .ref (K.2.2.2 9), .ref (K.2.2.2 18), .int 0, .int 100, .ref (K.2.2.2 20), .ref (K.2.2.2 22), .null, .null, .null, .null]) hx hb hts (fun _ h => List.mem_cons_of_mem _ (List.mem_append_left _ (List.mem_append_left _ (List.mem_append_left _ (List.mem_append_left _ (List.mem_append_right _ h)))))) tyX4 tyX4_ok nmX4 hown hX.1 0 hH (by decide) rfl 13 (by decide) (List.mem_of_getElem? (i := 23) rfl) rfl rfl hin2 rfl (by decide +kernel) rfl rfl (Nat.le_of_ble_eq_true rfl) rfl dX4_init_118 (fun H locs hH => ?_)
  refine lv_aload_n hx hb dX4_init_121 rfl (lv_at hl 0 rfl) ?_
  refine lv_bipush (v := 8) hx hb dX4_init_122 (by decide) ?_
  refine c_newa hm (atype := .int) (N := 8) (a0 := (8, .inl (fun _ => 0))) hx hb (hts (.arrayClass .int) (List.mem_of_getElem? (i := 4) rfl)) (hX.1.2 0 _ rfl).2 hH ((cU_n (by decide)).trans ((hF 23).trans (cF1 K 0 0 23 (by decide) (by decide) (by decide) rfl rfl))) (fun cI => rfl) (by decide) rfl (by decide) (Nat.le_of_ble_eq_true rfl) (Nat.le_of_ble_eq_true rfl) dX4_init_124 (fun H hH => ?_)
  refine W.widen (k := 23) (n := 170) (by omega) (by omega) ?_
  refine c_putF hm (T := TX4) (N := 18) (ty := .array .int) (F := F9) (fs := [.ref (K.2.2.2 1), .ref (K.2.2.2 2), .ref (K.2.2.2 3), .ref (K.2.2.2 4), .ref (K.2.2.2 5), .ref (K.2.2.2 6), .ref (K.2.2.2 7), .ref (K.2.2.2 8), .ref (K.2.2.2 9), .ref (K.2.2.2 18), .int 0, .int 100, .ref (K.2.2.2 20), .ref (K.2.2.2 22), .null, .null, .null, .null]) (fs' := [.ref (K.2.2.2 1), .ref (K.2.2.2 2), .ref (K.2.2.2 3), .ref (K.2.2.2 4), .ref (K.2.2.2 5), .ref (K.2.2.2 6), .ref (K.2.2.2 7), .ref (K.2.2.2 8), .ref (K.2.2.2 9), .ref (K.2.2.2 18), .int 0, .int 100, .ref (K.2.2.2 20), .ref (K.2.2.2 22), .ref (K.2.2.2 23), .null, .null, .null]) hx hb hts (fun _ h => List.mem_cons_of_mem _ (List.mem_append_left _ (List.mem_append_left _ (List.mem_append_left _ (List.mem_append_left _ (List.mem_append_right _ h)))))) tyX4 tyX4_ok nmX4 hown hX.1 0 hH (by decide) rfl 14 (by decide) (List.mem_of_getElem? (i := 24) rfl) rfl rfl hin2 rfl (by decide +kernel) rfl rfl (Nat.le_of_ble_eq_true rfl) rfl dX4_init_126 (fun H locs hH => ?_)
  refine lv_aload_n hx hb dX4_init_129 rfl (lv_at hl 0 rfl) ?_
  refine c_new hm (ci := 2) (fs := [.null, .null, .null]) (C := RX2) (T := TX2) (N := 3) hx hb hts (fun _ h => List.mem_cons_of_mem _ (List.mem_append_left _ (List.mem_append_left _ (List.mem_append_right _ h)))) tyX2 tyX2_ok hown (hts (.classLink RX4 63 RX2) (List.mem_of_getElem? (i := 25) rfl)) (hts (.instantiable RX2 3) (List.mem_of_getElem? (i := 26) rfl)) (hts (.initialized RX2) (List.mem_of_getElem? (i := 27) rfl)) hX.1 hH rfl (fun j hj => by rcases (show j = 0 ∨ j = 1 ∨ j = 2 by omega) with rfl | rfl | rfl <;> rfl) (Nat.le_of_ble_eq_true rfl) (Nat.le_of_ble_eq_true rfl) dX4_init_130 (fun H hH => ?_)
  refine W.widen (k := 24) (n := 173) (by omega) (by omega) ?_
  refine lv_dup hx hb dX4_init_133 rfl ?_
  refine c_call (va_runIN (As := []) (rest := [.ref (K.2.2.2 24), .ref (K.2.2.2 0)]) C (c_X2_init l hm (k0 := 24) (F := cU F9 0 (.inr (4, [.ref (K.2.2.2 1), .ref (K.2.2.2 2), .ref (K.2.2.2 3), .ref (K.2.2.2 4), .ref (K.2.2.2 5), .ref (K.2.2.2 6), .ref (K.2.2.2 7), .ref (K.2.2.2 8), .ref (K.2.2.2 9), .ref (K.2.2.2 18), .int 0, .int 100, .ref (K.2.2.2 20), .ref (K.2.2.2 22), .ref (K.2.2.2 23), .null, .null, .null]))) ((cU_n (by decide)).trans ((hF 24).trans rfl)) ((cU_n (by decide)).trans ((hF 25).trans (cF1 K 0 0 25 (by decide) (by decide) (by decide) rfl rfl))) ((cU_n (by decide)).trans ((hF 26).trans (cF1 K 0 0 26 (by decide) (by decide) (by decide) rfl rfl))) ((cU_n (by decide)).trans ((hF 27).trans (cF1 K 0 0 27 (by decide) (by decide) (by decide) rfl rfl)))) ⟨va_cnB 0 hts gX4_init_X2_init_n65 rfl rfl rfl (hX.2.1 (RX4, 65, yX2_init) (List.mem_of_getElem? (i := 1) rfl)) (hts (.initialized RX2) (List.mem_of_getElem? (i := 27) rfl)) (by decide +kernel) ⟨(Nat.le_of_ble_eq_true rfl), (Nat.le_of_ble_eq_true rfl)⟩, rfl, (hts (.instanceMethod yX2_init) (List.mem_of_getElem? (i := 41) rfl))⟩ ⟨cblind, cpre hX hH⟩ rfl rfl hl.1 rfl (lv_room (Nat.le_of_ble_eq_true rfl)) dX4_init_134 ⟨(Nat.le_of_ble_eq_true rfl), (Nat.le_of_ble_eq_true rfl)⟩) hH (fun H locs hH => ?_)
  refine W.widen (k := 27) (n := 197) (by omega) (by omega) ?_
  refine c_putF hm (T := TX4) (N := 18) (ty := .object "Formationist$PebbleGame") (F := F9) (fs := [.ref (K.2.2.2 1), .ref (K.2.2.2 2), .ref (K.2.2.2 3), .ref (K.2.2.2 4), .ref (K.2.2.2 5), .ref (K.2.2.2 6), .ref (K.2.2.2 7), .ref (K.2.2.2 8), .ref (K.2.2.2 9), .ref (K.2.2.2 18), .int 0, .int 100, .ref (K.2.2.2 20), .ref (K.2.2.2 22), .ref (K.2.2.2 23), .null, .null, .null]) (fs' := [.ref (K.2.2.2 1), .ref (K.2.2.2 2), .ref (K.2.2.2 3), .ref (K.2.2.2 4), .ref (K.2.2.2 5), .ref (K.2.2.2 6), .ref (K.2.2.2 7), .ref (K.2.2.2 8), .ref (K.2.2.2 9), .ref (K.2.2.2 18), .int 0, .int 100, .ref (K.2.2.2 20), .ref (K.2.2.2 22), .ref (K.2.2.2 23), .ref (K.2.2.2 24), .null, .null]) hx hb hts (fun _ h => List.mem_cons_of_mem _ (List.mem_append_left _ (List.mem_append_left _ (List.mem_append_left _ (List.mem_append_left _ (List.mem_append_right _ h)))))) tyX4 tyX4_ok nmX4 hown hX.1 0 hH (by decide) rfl 15 (by decide) (List.mem_of_getElem? (i := 28) rfl) rfl rfl hin2 rfl (by decide +kernel) rfl rfl (Nat.le_of_ble_eq_true rfl) rfl dX4_init_137 (fun H locs hH => ?_)
  refine lv_aload_n hx hb dX4_init_140 rfl (lv_at hl 0 rfl) ?_
  refine c_new hm (ci := 0) (fs := [.null]) (C := RX0) (T := TX0) (N := 1) hx hb hts (fun _ h => List.mem_cons_of_mem _ (List.mem_append_left _ (List.mem_append_right _ h))) tyX0 tyX0_ok hown (hts (.classLink RX4 70 RX0) (List.mem_of_getElem? (i := 29) rfl)) (hts (.instantiable RX0 1) (List.mem_of_getElem? (i := 30) rfl)) (hts (.initialized RX0) (List.mem_of_getElem? (i := 31) rfl)) hX.1 hH rfl (fun j hj => by rcases (show j = 0 by omega) with rfl; rfl) (Nat.le_of_ble_eq_true rfl) (Nat.le_of_ble_eq_true rfl) dX4_init_141 (fun H hH => ?_)
  refine W.widen (k := 28) (n := 198) (by omega) (by omega) ?_
  refine lv_dup hx hb dX4_init_144 rfl ?_
  refine c_call (va_runIN (As := []) (rest := [.ref (K.2.2.2 28), .ref (K.2.2.2 0)]) C (c_X0_init l hm (k0 := 28) (F := cU F9 0 (.inr (4, [.ref (K.2.2.2 1), .ref (K.2.2.2 2), .ref (K.2.2.2 3), .ref (K.2.2.2 4), .ref (K.2.2.2 5), .ref (K.2.2.2 6), .ref (K.2.2.2 7), .ref (K.2.2.2 8), .ref (K.2.2.2 9), .ref (K.2.2.2 18), .int 0, .int 100, .ref (K.2.2.2 20), .ref (K.2.2.2 22), .ref (K.2.2.2 23), .ref (K.2.2.2 24), .null, .null]))) ((cU_n (by decide)).trans ((hF 28).trans rfl)) ((cU_n (by decide)).trans ((hF 29).trans (cF1 K 0 0 29 (by decide) (by decide) (by decide) rfl rfl)))) ⟨va_cnB 0 hts gX4_init_X0_init_n72 rfl rfl rfl (hX.2.1 (RX4, 72, yX0_init) (List.mem_of_getElem? (i := 2) rfl)) (hts (.initialized RX0) (List.mem_of_getElem? (i := 31) rfl)) (by decide +kernel) ⟨(Nat.le_of_ble_eq_true rfl), (Nat.le_of_ble_eq_true rfl)⟩, rfl, (hts (.instanceMethod yX0_init) (List.mem_of_getElem? (i := 47) rfl))⟩ ⟨cblind, cpre hX hH⟩ rfl rfl hl.1 rfl (lv_room (Nat.le_of_ble_eq_true rfl)) dX4_init_145 ⟨(Nat.le_of_ble_eq_true rfl), (Nat.le_of_ble_eq_true rfl)⟩) hH (fun H locs hH => ?_)
  refine W.widen (k := 29) (n := 454) (by omega) (by omega) ?_
  refine c_putF hm (T := TX4) (N := 18) (ty := .object "Formationist$LinkCounts") (F := F9) (fs := [.ref (K.2.2.2 1), .ref (K.2.2.2 2), .ref (K.2.2.2 3), .ref (K.2.2.2 4), .ref (K.2.2.2 5), .ref (K.2.2.2 6), .ref (K.2.2.2 7), .ref (K.2.2.2 8), .ref (K.2.2.2 9), .ref (K.2.2.2 18), .int 0, .int 100, .ref (K.2.2.2 20), .ref (K.2.2.2 22), .ref (K.2.2.2 23), .ref (K.2.2.2 24), .null, .null]) (fs' := [.ref (K.2.2.2 1), .ref (K.2.2.2 2), .ref (K.2.2.2 3), .ref (K.2.2.2 4), .ref (K.2.2.2 5), .ref (K.2.2.2 6), .ref (K.2.2.2 7), .ref (K.2.2.2 8), .ref (K.2.2.2 9), .ref (K.2.2.2 18), .int 0, .int 100, .ref (K.2.2.2 20), .ref (K.2.2.2 22), .ref (K.2.2.2 23), .ref (K.2.2.2 24), .ref (K.2.2.2 28), .null]) hx hb hts (fun _ h => List.mem_cons_of_mem _ (List.mem_append_left _ (List.mem_append_left _ (List.mem_append_left _ (List.mem_append_left _ (List.mem_append_right _ h)))))) tyX4 tyX4_ok nmX4 hown hX.1 0 hH (by decide) rfl 16 (by decide) (List.mem_of_getElem? (i := 32) rfl) rfl rfl hin2 rfl (by decide +kernel) rfl rfl (Nat.le_of_ble_eq_true rfl) rfl dX4_init_148 (fun H locs hH => ?_)
  have hrowl : ∀ i, i < 8 → F9 (32 + i) = .inl (K.2.2.1 2, 8, .inr (.inl (fun _ => 0))) := fun i hi => by
    have h9 : ∀ i, i < 8 → fm_ty (32 + i) = 3 ∧ fm_len (32 + i) = 8 := by decide
    rw [hF]
    exact cF3 K 0 0 (32 + i) (h9 i hi).1 (h9 i hi).2
  refine lv_aload_n hx hb dX4_init_151 rfl (lv_at hl 0 rfl) ?_
  refine c_new hm (ci := 3) (fs := [.null]) (C := RX3) (T := TX3) (N := 1) hx hb hts (fun _ h => List.mem_cons_of_mem _ (List.mem_append_right _ h)) tyX3 tyX3_ok hown (hts (.classLink RX4 77 RX3) (List.mem_of_getElem? (i := 33) rfl)) (hts (.instantiable RX3 1) (List.mem_of_getElem? (i := 34) rfl)) (hts (.initialized RX3) (List.mem_of_getElem? (i := 35) rfl)) hX.1 hH rfl (fun j hj => by rcases (show j = 0 by omega) with rfl; rfl) (Nat.le_of_ble_eq_true rfl) (Nat.le_of_ble_eq_true rfl) dX4_init_152 (fun H hH => ?_)
  refine W.widen (k := 30) (n := 455) (by omega) (by omega) ?_
  refine lv_dup hx hb dX4_init_155 rfl ?_
  refine c_call (va_runIN (As := []) (rest := [.ref (K.2.2.2 30), .ref (K.2.2.2 0)]) C (c_X3_init l hm (k0 := 30) (F := cU F9 0 (.inr (4, [.ref (K.2.2.2 1), .ref (K.2.2.2 2), .ref (K.2.2.2 3), .ref (K.2.2.2 4), .ref (K.2.2.2 5), .ref (K.2.2.2 6), .ref (K.2.2.2 7), .ref (K.2.2.2 8), .ref (K.2.2.2 9), .ref (K.2.2.2 18), .int 0, .int 100, .ref (K.2.2.2 20), .ref (K.2.2.2 22), .ref (K.2.2.2 23), .ref (K.2.2.2 24), .ref (K.2.2.2 28), .null]))) ((cU_n (by decide)).trans ((hF 30).trans rfl)) ((cU_n (by decide)).trans ((hF 31).trans rfl)) (fun i hi => (cU_n (by omega)).trans (hrowl i hi))) ⟨va_cnB 0 hts gX4_init_X3_init_n79 rfl rfl rfl (hX.2.1 (RX4, 79, yX3_init) (List.mem_of_getElem? (i := 3) rfl)) (hts (.initialized RX3) (List.mem_of_getElem? (i := 35) rfl)) (by decide +kernel) ⟨(Nat.le_of_ble_eq_true rfl), (Nat.le_of_ble_eq_true rfl)⟩, rfl, (hts (.instanceMethod yX3_init) (List.mem_of_getElem? (i := 51) rfl))⟩ ⟨cblind, cpre hX hH⟩ rfl rfl hl.1 rfl (lv_room (Nat.le_of_ble_eq_true rfl)) dX4_init_156 ⟨(Nat.le_of_ble_eq_true rfl), (Nat.le_of_ble_eq_true rfl)⟩) hH (fun H locs hH => ?_)
  refine W.widen (k := 39) (n := 527) (by omega) (by omega) ?_
  refine c_putF hm (T := TX4) (N := 18) (ty := .object "Formationist$TreeMatrix") (F := F9) (fs := [.ref (K.2.2.2 1), .ref (K.2.2.2 2), .ref (K.2.2.2 3), .ref (K.2.2.2 4), .ref (K.2.2.2 5), .ref (K.2.2.2 6), .ref (K.2.2.2 7), .ref (K.2.2.2 8), .ref (K.2.2.2 9), .ref (K.2.2.2 18), .int 0, .int 100, .ref (K.2.2.2 20), .ref (K.2.2.2 22), .ref (K.2.2.2 23), .ref (K.2.2.2 24), .ref (K.2.2.2 28), .null]) (fs' := [.ref (K.2.2.2 1), .ref (K.2.2.2 2), .ref (K.2.2.2 3), .ref (K.2.2.2 4), .ref (K.2.2.2 5), .ref (K.2.2.2 6), .ref (K.2.2.2 7), .ref (K.2.2.2 8), .ref (K.2.2.2 9), .ref (K.2.2.2 18), .int 0, .int 100, .ref (K.2.2.2 20), .ref (K.2.2.2 22), .ref (K.2.2.2 23), .ref (K.2.2.2 24), .ref (K.2.2.2 28), .ref (K.2.2.2 30)]) hx hb hts (fun _ h => List.mem_cons_of_mem _ (List.mem_append_left _ (List.mem_append_left _ (List.mem_append_left _ (List.mem_append_left _ (List.mem_append_right _ h)))))) tyX4 tyX4_ok nmX4 hown hX.1 0 hH (by decide) rfl 17 (by decide) (List.mem_of_getElem? (i := 36) rfl) rfl rfl hin2 rfl (by decide +kernel) rfl rfl (Nat.le_of_ble_eq_true rfl) rfl dX4_init_159 (fun H locs hH => ?_)
  rw [cU_self hf0, ← hF9] at hH
  refine lv_iconst (v := 0) hx hb dX4_init_162 (by decide) ?_
  refine lv_istore_n (lv' := [(1, .int (0 : Int32)), (0, .ref (K.2.2.2 0))]) hx hb dX4_init_163 rfl hl (by decide) rfl (fun ls hl => ?_)
  clear hrows hrowl hF hf0 hF9
  generalize hQ : MQ below _ args s _ _ _ = Q
  have L : ∀ d i, i + d = 8 → ∀ (ls : Array Slot) (H : Heap) (locs : List Loc), lv_has ls 2 [(1, .int (nI i)), (0, .ref (K.2.2.2 0))] → cH K 40 (fm_ce K (cσ i 0)) s H locs → W p l e rmX4_init s m args below meth c H locs 39 527 Q (F0 m 164 ls []) := by
    intro d
    induction d with
    | zero =>
      intro i hi ls H locs hl hH
      have hi : i = 8 := by omega
      subst hi
      refine lv_iload_n hx hb dX4_init_164 rfl (lv_at hl 0 rfl) ?_
      refine lv_bipush (v := 8) hx hb dX4_init_165 (by decide) ?_
      refine lv_icmp_ge (tgt := 186) hx hb dX4_init_167 (by decide) (fun hc => ?_) (fun hc => absurd (by decide) hc)
      subst hQ
      exact c_vret hx hb hr hlk hH dX4_init_186
    | succ d ih =>
      intro i hi ls H locs hl hH
      have hi8 : i < 8 := by omega
      obtain ⟨e1, e2⟩ := c_n4 i (by omega)
      refine lv_iload_n hx hb dX4_init_164 rfl (lv_at hl 0 rfl) ?_
      refine lv_bipush (v := 8) hx hb dX4_init_165 (by decide) ?_
      refine lv_icmp_ge (tgt := 186) hx hb dX4_init_167 (by decide) (fun hc => absurd hc (c_n2 i hi8)) (fun hc => ?_)
      refine lv_aload_n hx hb dX4_init_170 rfl (lv_at hl 1 rfl) ?_
      refine c_get (T := TX4) (N := 18) (ci := 4) hx hb hts (fun _ h => List.mem_cons_of_mem _ (List.mem_append_left _ (List.mem_append_left _ (List.mem_append_left _ (List.mem_append_left _ (List.mem_append_right _ h)))))) hown hX.1 hH 0 (by decide) (fs := (fm_ob K.2.2.2 (cσ i 0) 0).2) rfl rfl 8 (by decide) (List.mem_of_getElem? (i := 15) rfl) rfl rfl dX4_init_171 ?_
      refine lv_iload_n hx hb dX4_init_174 rfl (lv_at hl 0 rfl) ?_
      refine c_row hx hb hX.1 hH 9 (by decide) rfl (by rw [e1]; exact fun h => h.elim (fun h => e2 h) (fun h => by omega)) dX4_init_175 ?_
      rw [e1]
      refine lv_iconst (v := -1) hx hb dX4_init_176 (by decide) ?_
      have hH2 : cH K 40 (cU (fm_ce K (cσ i 0)) (10 + i) (.inl (K.2.2.1 0, 8, .inl (fun _ => 0)))) s H locs := by rw [cU_self (cF10 K i hi8)]; exact hH
      refine c_call (va_runS (As := [.ref (K.2.2.2 (9 + 1 + i)), .int (-1 : Int32)]) (rest := []) C (c_fill l hm (q := 10 + i) (n := 40) (by omega) (fm_ce K (cσ i 0)) (-1)) (va_cwS 2 hts gX4_init_J7_fill_53178 rfl rfl rfl (by decide +kernel) ⟨(Nat.le_of_ble_eq_true rfl), (Nat.le_of_ble_eq_true rfl)⟩) ⟨cblind, cpre hX hH2⟩ rfl rfl hl.1 rfl (lv_room (Nat.le_of_ble_eq_true rfl)) dX4_init_177 ⟨(Nat.le_of_ble_eq_true rfl), (Nat.le_of_ble_eq_true rfl)⟩) hH2 (fun H locs hH => ?_)
      rw [cstep K i hi8] at hH
      refine lv_iinc (v := nI i + 1) (lv' := [(1, .int (nI i + 1)), (0, .ref (K.2.2.2 0))]) hx hb dX4_init_180 hl (k := 0) rfl rfl (by decide) rfl (fun ls hl => ?_)
      refine lv_goto (tgt := 164) hx hb dX4_init_183 (by decide) ?_
      rw [c_n3 i (by omega)] at hl
      exact ih (i + 1) (by omega) _ _ _ hl hH
  exact L 8 0 rfl ls _ _ hl hH
end FMK
